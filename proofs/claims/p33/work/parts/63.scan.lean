/-! ===== the text: characters and tokens ===== -/
def TX (L : Nat) (cs ts : Nat → Int32) : Prop := L ≤ 160 ∧ ∀ j, j < L → cs j = ts j
def dg (L : Nat) (cs : Nat → Int32) (p : Nat) : Prop := p < L ∧ 48 ≤ cs p ∧ cs p ≤ 57
theorem q_char {L p : Nat} {cs : Nat → Int32} (hL : L ≤ 160) (hp : p < L) : kX8_character (nI p) (nI L) cs = some (cs p) := by
  unfold kX8_character
  rw [if_neg (nI_pos (by omega)), if_neg (nI_ge hp (by omega)), if_neg (by rw [fa_lit 160]; exact nI_ge (by omega) (by omega)), ck_nI (by omega) (by omega), nI_clamp (by omega)]
theorem q_charNo {L p : Nat} {cs : Nat → Int32} (hp : L ≤ p) (h1 : p < 1000) : kX8_character (nI p) (nI L) cs = some (-1) := by
  unfold kX8_character kX8_character_J1
  rw [if_neg (nI_pos (by omega)), if_pos (nI_le hp (by omega))]
theorem q_dig1 {L p : Nat} {cs : Nat → Int32} (hL : L ≤ 160) (h : dg L cs p) : kX8_isDigit (nI p) (nI L) cs = some 1 := by
  obtain ⟨h1, h2, h3⟩ := h
  unfold kX8_isDigit
  rw [q_char hL h1, bnd1_e, if_neg (Int32.not_lt.mpr h2), if_neg (Int32.not_lt.mpr h3)]
theorem q_dig0 {L p : Nat} {cs : Nat → Int32} (hL : L ≤ 160) (hp : p < 1000) (h : ¬ dg L cs p) : kX8_isDigit (nI p) (nI L) cs = some 0 := by
  unfold kX8_isDigit kX8_isDigit_J1
  by_cases q : p < L
  · rw [q_char hL q, bnd1_e]
    by_cases a : cs p < 48
    · rw [if_pos a]
    · rw [if_neg a]
      by_cases b : 57 < cs p
      · rw [if_pos b]
      · exact absurd ⟨q, Int32.not_lt.mp a, Int32.not_lt.mp b⟩ h
  · rw [q_charNo (by omega) hp, bnd1_e, if_pos (by decide)]
theorem q_digM {L : Nat} {cs : Nat → Int32} : kX8_isDigit (nI 0 - 1) (nI L) cs = some 0 := by
  unfold kX8_isDigit kX8_character kX8_character_J1 kX8_isDigit_J1
  rw [if_pos (by decide), bnd1_e, if_pos (by decide)]
def dp (L : Nat) (cs : Nat → Int32) (p : Nat) : Prop := 1 ≤ p ∧ dg L cs (p - 1)
theorem q_digP1 {L p : Nat} {cs : Nat → Int32} (hL : L ≤ 160) (h : dp L cs p) : kX8_isDigit (nI p - 1) (nI L) cs = some 1 := by
  obtain ⟨h1, h2⟩ := h
  have e : (nI p - 1 : Int32) = nI (p - 1) := by rw [show p = p - 1 + 1 by omega, nI_pred, Nat.add_sub_cancel]
  rw [e]; exact q_dig1 hL h2
theorem q_digP0 {L p : Nat} {cs : Nat → Int32} (hL : L ≤ 160) (hp : p < 1000) (h : ¬ dp L cs p) : kX8_isDigit (nI p - 1) (nI L) cs = some 0 := by
  by_cases q : p = 0
  · subst q; exact q_digM
  · have e : (nI p - 1 : Int32) = nI (p - 1) := by rw [show p = p - 1 + 1 by omega, nI_pred, Nat.add_sub_cancel]
    rw [e]; exact q_dig0 hL (by omega) (fun z => h ⟨by omega, z⟩)
theorem dg32 {L p : Nat} {cs : Nat → Int32} (h : cs p = 32) : ¬ dg L cs p := fun ⟨_, b, _⟩ => by rw [h] at b; exact absurd b (by decide)
theorem q_quietS {L p : Nat} {cs : Nat → Int32} (hL : L ≤ 160) (hp : p < L) (h : cs p = 32) : kX8_startsToken (nI p) (nI L) cs = some 0 := by
  unfold kX8_startsToken
  rw [q_dig0 hL (by omega) (dg32 h), bnd1_e, if_pos rfl, q_char hL hp, bnd1_e, if_pos h]
theorem q_quietD {L p : Nat} {cs : Nat → Int32} (hL : L ≤ 160) (h : dg L cs p) (h2 : dp L cs p) : kX8_startsToken (nI p) (nI L) cs = some 0 := by
  unfold kX8_startsToken
  rw [q_dig1 hL h, bnd1_e, if_neg (by decide), q_digP1 hL h2, bnd1_e, if_neg (by decide)]
theorem q_starts {L p : Nat} {cs : Nat → Int32} (hL : L ≤ 160) (hp : p < L) (h : cs p ≠ 32) (h2 : ¬ (dg L cs p ∧ dp L cs p)) : kX8_startsToken (nI p) (nI L) cs = some 1 := by
  unfold kX8_startsToken
  by_cases q : dg L cs p
  · rw [q_dig1 hL q, bnd1_e, if_neg (by decide), q_digP0 hL (by omega) (fun z => h2 ⟨q, z⟩), bnd1_e, if_pos rfl]
  · rw [q_dig0 hL (by omega) q, bnd1_e, if_pos rfl, q_char hL hp, bnd1_e, if_neg h]
def dv (ts : Nat → Int32) (j : Nat) : Nat := (ts j).toNatClampNeg - 48
theorem dg_val {L p : Nat} {ts : Nat → Int32} (h : dg L ts p) : ts p = nI (48 + dv ts p) ∧ dv ts p ≤ 9 := by
  obtain ⟨_, h2, h3⟩ := h
  rcases ix (ts p) (n := 58) (by omega) with q | q | ⟨j, hj, q⟩
  · exact absurd (Int32.lt_of_lt_of_le q (show (0 : Int32) ≤ 48 by decide)) (Int32.not_lt.mpr h2)
  · exact absurd (Int32.lt_of_lt_of_le (show (57 : Int32) < nI 58 by decide) q) (Int32.not_lt.mpr h3)
  · have e : (ts p).toNatClampNeg = j := by rw [q, nI_clamp (by omega)]
    rw [q, fa_lit 48, nI_leI (by omega) (by omega)] at h2
    unfold dv
    rw [e, q]
    exact ⟨by rw [show 48 + (j - 48) = j by omega], by omega⟩
def vN (ts : Nat → Int32) (p : Nat) : Nat → Nat
  | 0 => 0
  | i + 1 => if vN ts p i ≤ 16 then 10 * vN ts p i + dv ts (p + i) else vN ts p i
def arcV (ts : Nat → Int32) (p k : Nat) : Nat := if k = 0 then 0 else if dv ts p = 0 then 0 else if 16 < vN ts p k then 0 else vN ts p k
theorem arcV_le {ts : Nat → Int32} {p k : Nat} : arcV ts p k ≤ 16 := by
  unfold arcV
  by_cases a : k = 0
  · rw [if_pos a]; omega
  · rw [if_neg a]
    by_cases b : dv ts p = 0
    · rw [if_pos b]; omega
    · rw [if_neg b]
      by_cases c : 16 < vN ts p k
      · rw [if_pos c]; omega
      · rw [if_neg c]; omega
theorem vN_bd {L p k : Nat} {ts : Nat → Int32} (h : ∀ j, p ≤ j → j < p + k → dg L ts j) : ∀ i, i ≤ k → vN ts p i ≤ 169
  | 0, _ => Nat.zero_le _
  | i + 1, hi => by
    have ih := vN_bd h i (by omega)
    have := (dg_val (h (p + i) (by omega) (by omega))).2
    unfold vN
    by_cases a : vN ts p i ≤ 16
    · rw [if_pos a]; omega
    · rw [if_neg a]; omega
theorem vN_stay {ts : Nat → Int32} {p i : Nat} (h : 16 < vN ts p i) : ∀ j, 16 < vN ts p (i + j)
  | 0 => h
  | j + 1 => by
    have ih := vN_stay h j
    show 16 < vN ts p (i + j + 1)
    unfold vN
    rw [if_neg (by omega)]; exact ih
theorem q_arcFrom {L p k : Nat} {ts : Nat → Int32} (hL : L ≤ 160) (hpk : p + k ≤ L) (h : ∀ j, p ≤ j → j < p + k → dg L ts j) (hq : ¬ dg L ts (p + k)) : kX8_arcFrom (nI p) (nI L) ts = some (nI (arcV ts p k)) := by
  have ch : ∃ x, kX8_character (nI p) (nI L) ts = some x ∧ (p < L → x = ts p) := by
    by_cases q : p < L
    · exact ⟨_, q_char hL q, fun _ => rfl⟩
    · exact ⟨_, q_charNo (by omega) (by omega), fun z => absurd z q⟩
  obtain ⟨x, x1, x2⟩ := ch
  unfold kX8_arcFrom kX8_arcFrom_J1
  rw [x1, bnd1_e]
  by_cases a : k = 0
  · subst a
    have hq' : ¬ dg L ts p := hq
    rw [q_dig0 hL (by omega) hq', bnd1_e, if_pos rfl]
    unfold arcV
    rw [if_pos rfl]; rfl
  · have d0 := h p (by omega) (by omega)
    obtain ⟨v1, v2⟩ := dg_val d0
    have e0 : (x - 48 : Int32) = nI (dv ts p) := by rw [x2 d0.1, v1, fa_lit 48, Nat.add_comm 48, ← nI_add _ 48, Int32.add_sub_cancel]
    rw [q_dig1 hL d0, bnd1_e, if_neg (by decide), e0]
    unfold arcV
    rw [if_neg a]
    have n1 : vN ts p 1 = dv ts p := by
      show (if vN ts p 0 ≤ 16 then 10 * vN ts p 0 + dv ts (p + 0) else vN ts p 0) = _
      have z : vN ts p 0 = 0 := rfl
      rw [if_pos (by rw [z]; omega), z, Nat.add_zero]; omega
    have n2 : vN ts p 2 = 10 * dv ts p + dv ts (p + 1) := by
      show (if vN ts p 1 ≤ 16 then 10 * vN ts p 1 + dv ts (p + 1) else vN ts p 1) = _
      rw [n1, if_pos (by omega)]
    by_cases c : dv ts p = 0
    · rw [if_pos (by rw [c]; rfl), if_pos c]; rfl
    · rw [if_neg (nI_ne0 (by omega) (by omega)), if_neg c, nI_1]
      by_cases k1 : k = 1
      · subst k1
        rw [q_dig0 hL (by omega) hq, bnd1_e, if_pos rfl, n1, if_neg (by omega)]
      · have d1 := h (p + 1) (by omega) (by omega)
        obtain ⟨w1, w2⟩ := dg_val d1
        have e1 : (10 * nI (dv ts p) + ts (p + 1) - 48 : Int32) = nI (10 * dv ts p + dv ts (p + 1)) := by
          rw [w1, fa_lit 10, pk_mul, nI_add, fa_lit 48, show 10 * dv ts p + (48 + dv ts (p + 1)) = (10 * dv ts p + dv ts (p + 1)) + 48 by omega, ← nI_add _ 48, Int32.add_sub_cancel]
        have e2 : (nI p + 2 : Int32) = nI (p + 2) := by rw [fa_lit 2, nI_add]
        rw [q_dig1 hL d1, bnd1_e, if_neg (by decide), q_char hL d1.1, bnd1_e, e1, e2]
        by_cases k2 : k = 2
        · subst k2
          rw [q_dig0 hL (by omega) hq, bnd1_e, if_pos rfl, n2]
          by_cases l : 10 * dv ts p + dv ts (p + 1) ≤ 16
          · rw [if_pos (by rw [fa_lit 16]; exact nI_le l (by omega)), if_neg (by omega)]
          · rw [if_neg (by rw [fa_lit 16]; exact nI_ge (by omega) (by omega)), if_pos (by omega)]; rfl
        · have d2 := h (p + 2) (by omega) (by omega)
          have big : 16 < vN ts p 3 := by
            show 16 < (if vN ts p 2 ≤ 16 then 10 * vN ts p 2 + dv ts (p + 2) else vN ts p 2)
            rw [n2]
            by_cases l : 10 * dv ts p + dv ts (p + 1) ≤ 16
            · rw [if_pos l]; omega
            · rw [if_neg l]; omega
          have big2 := vN_stay big (k - 3)
          rw [show 3 + (k - 3) = k by omega] at big2
          rw [q_dig1 hL d2, bnd1_e, if_neg (by decide), if_pos big2]; rfl
/-- the run of digits at a place -/
theorem run_ex {L p : Nat} {ts : Nat → Int32} (hp : p ≤ L) : ∃ k, p + k ≤ L ∧ (∀ j, p ≤ j → j < p + k → dg L ts j) ∧ ¬ dg L ts (p + k) := by
  rcases least_or (fun k => ¬ dg L ts (p + k)) (L - p + 1) with ⟨k, k1, k2, k3⟩ | h
  · refine ⟨k, by omega, fun j j1 j2 => ?_, k2⟩
    have := k3 (j - p) (by omega)
    rw [show p + (j - p) = j by omega] at this
    exact Classical.not_not.mp this
  · exact absurd (fun z : dg L ts (p + (L - p)) => absurd z.1 (by omega)) (h (L - p) (by omega))
