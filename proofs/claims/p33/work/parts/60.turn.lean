/-! ===== switched crossings and mirrors ===== -/
theorem updN_eq {f : Nat → Nat} {e v : Nat} : updN f e v e = v := by unfold updN; rw [if_pos rfl]
theorem updN_ne {f : Nat → Nat} {e v x : Nat} (h : x ≠ e) : updN f e v x = f x := by unfold updN; rw [if_neg h]
def xs (v e : Nat) : Nat := if e / 4 = v then 4 * v + (e + 1) % 4 else e
def xr (v e : Nat) : Nat := if e / 4 = v then 4 * v + (e + 3) % 4 else e
theorem exch_eq (f : Nat → Nat) (v e : Nat) : exch f v e = f (xs v e) := by
  unfold exch ex3 ex2 ex1 xs
  by_cases h : e / 4 = v
  · rw [if_pos h]
    rcases (show e = 4 * v ∨ e = 4 * v + 1 ∨ e = 4 * v + 2 ∨ e = 4 * v + 3 by omega) with rfl | rfl | rfl | rfl
    · rw [show (4 * v + 1) % 4 = 1 by omega, updN_ne (by omega), updN_ne (by omega), updN_ne (by omega), updN_eq]
    · rw [show (4 * v + 1 + 1) % 4 = 2 by omega, updN_ne (by omega), updN_ne (by omega), updN_eq, updN_ne (by omega)]
    · rw [show (4 * v + 2 + 1) % 4 = 3 by omega, updN_ne (by omega), updN_eq, updN_ne (by omega), updN_ne (by omega)]
    · rw [show (4 * v + 3 + 1) % 4 = 0 by omega, updN_eq]
      rfl
  · rw [if_neg h, updN_ne (by omega), updN_ne (by omega), updN_ne (by omega), updN_ne (by omega)]
theorem xs_xr (v e : Nat) : xs v (xr v e) = e := by
  unfold xs xr
  by_cases h : e / 4 = v
  · rw [if_pos h, if_pos (by omega)]; omega
  · rw [if_neg h, if_neg h]
theorem xr_xs (v e : Nat) : xr v (xs v e) = e := by
  unfold xs xr
  by_cases h : e / 4 = v
  · rw [if_pos h, if_pos (by omega)]; omega
  · rw [if_neg h, if_neg h]
theorem xs_div (v e : Nat) : xs v e / 4 = e / 4 := by
  unfold xs
  by_cases h : e / 4 = v
  · rw [if_pos h]; omega
  · rw [if_neg h]
theorem xr_div (v e : Nat) : xr v e / 4 = e / 4 := by
  unfold xr
  by_cases h : e / 4 = v
  · rw [if_pos h]; omega
  · rw [if_neg h]
theorem exch_VS {d : St} (hV : VS d) (v : Nat) : VS (d.1, d.2.1, exch d.2.2 v) := by
  obtain ⟨hc, ho, h0, h1, hO⟩ := hV
  have lt : ∀ e, xs v e < 4 * d.1 ↔ e < 4 * d.1 := fun e => by have := xs_div v e; omega
  have ltr : ∀ e, xr v e < 4 * d.1 ↔ e < 4 * d.1 := fun e => by have := xr_div v e; omega
  refine ⟨hc, ho, fun e he => ?_, fun e he => ?_, fun e he => ?_⟩
  · show exch d.2.2 v e = 0
    rw [exch_eq]; exact h0 _ (Nat.le_of_not_lt (fun z => absurd ((lt e).mp z) (Nat.not_lt.mpr he)))
  · show 1 ≤ exch d.2.2 v e ∧ exch d.2.2 v e ≤ 16
    rw [exch_eq]; exact h1 _ ((lt e).mpr he)
  · obtain ⟨t, t1, t2, t3, t4⟩ := hO (xs v e) ((lt e).mpr he)
    refine ⟨xr v t, (ltr t).mpr t1, fun z => t2 ?_, ?_, fun x hx g => ?_⟩
    · rw [← xs_xr v t, z]
    · show exch d.2.2 v (xr v t) = exch d.2.2 v e
      rw [exch_eq, exch_eq, xs_xr]; exact t3
    · have g' : d.2.2 (xs v x) = d.2.2 (xs v e) := by
        have : exch d.2.2 v x = exch d.2.2 v e := g
        rw [exch_eq, exch_eq] at this; exact this
      rcases t4 (xs v x) ((lt x).mpr hx) g' with r | r
      · left; rw [← xr_xs v x, r, xr_xs]
      · right; rw [← xr_xs v x, r]
def mirF (f : Nat → Nat) : Nat → Nat → Nat
  | 0 => f
  | i + 1 => exch (mirF f i) i
theorem mir_VS {d : St} (hV : VS d) : ∀ i, VS (d.1, d.2.1, mirF d.2.2 i)
  | 0 => hV
  | i + 1 => exch_VS (mir_VS hV i) i
