def PS (c o : Nat) (f : Nat → Nat) (a read uses : Nat → Int32) : Prop := c ≤ 8 ∧ o ≤ 4 ∧ Rp a f ∧ (∀ e, 4 * c ≤ e → f e = 0) ∧ (∀ e, e < 4 * c → 1 ≤ f e ∧ f e ≤ 16) ∧ BlR read 0 (c, o, f) ∧ UsR uses f ∧ ∀ w, 1 ≤ w → cn f w ≤ 2
def StQ (L : Nat) (ts : Nat → Int32) (p c o : Nat) (a : Nat → Int32) (r : Option (Int32 × Int32 × (Nat → Int32) × (Nat → Int32))) : Prop :=
  (∃ q read' uses', r = some (0, nI q, read', uses') ∧ q ≤ L ∧ FailAt L ts p 0 0 (nI c) (nI o) a q) ∨
  (∃ q c' o' f' a' read' uses', r = some (1, nI q, read', uses') ∧ q ≤ L ∧ nd L ts q ∧ c' + o' = c + o + 1 ∧ PS c' o' f' a' read' uses' ∧ ∀ res, CR L ts q 0 0 (nI c') (nI o') a' res → CR L ts p 0 0 (nI c) (nI o) a res)
theorem c134 {α : Type} (k : Option α) : ck 1 34 k = k := by rw [fa_lit 1]; exact ck_nI (by omega) (by omega)
theorem c034 {α : Type} (k : Option α) : ck 0 34 k = k := by rw [fa_lit 0]; exact ck_nI (by omega) (by omega)
/-! the end of a text -/
theorem fb_one {P : Nat → Bool} : ∀ {n : Nat}, fb_ct P n = 1 → ∃ t, t < n ∧ P t = true ∧ ∀ x, x < n → P x = true → x = t
  | 0, h => absurd (show (0 : Nat) = 1 from h) (by decide)
  | n + 1, h => by
    rw [fb_ct_succ] at h
    by_cases q : P n = true
    · rw [if_pos q] at h
      have z := fb_ct_zero.mp (show fb_ct P n = 0 by omega)
      refine ⟨n, by omega, q, fun x hx hP => Classical.byContradiction fun w => ?_⟩
      have := z x (by omega)
      rw [this] at hP; exact absurd hP (by decide)
    · rw [if_neg q] at h
      obtain ⟨t, t1, t2, t3⟩ := fb_one (show fb_ct P n = 1 by omega)
      refine ⟨t, by omega, t2, fun x hx hP => t3 x (Nat.lt_of_le_of_ne (by omega) (fun w => q (w ▸ hP))) hP⟩
theorem fb_two {P : Nat → Bool} : ∀ {n : Nat}, fb_ct P n = 2 → ∃ s t, s < n ∧ t < n ∧ s ≠ t ∧ P s = true ∧ P t = true ∧ ∀ x, x < n → P x = true → x = s ∨ x = t
  | 0, h => absurd (show (0 : Nat) = 2 from h) (by decide)
  | n + 1, h => by
    rw [fb_ct_succ] at h
    by_cases q : P n = true
    · rw [if_pos q] at h
      obtain ⟨t, t1, t2, t3⟩ := fb_one (show fb_ct P n = 1 by omega)
      refine ⟨t, n, by omega, by omega, by omega, t2, q, fun x hx hP => ?_⟩
      by_cases w : x = n
      · exact Or.inr w
      · exact Or.inl (t3 x (by omega) hP)
    · rw [if_neg q] at h
      obtain ⟨s, t, t1, t2, t3, t4, t5, t6⟩ := fb_two (show fb_ct P n = 2 by omega)
      exact ⟨s, t, by omega, by omega, t3, t4, t5, fun x hx hP => t6 x (Nat.lt_of_le_of_ne (by omega) (fun w => q (w ▸ hP))) hP⟩
theorem ps_VS {c o : Nat} {f : Nat → Nat} {a read uses : Nat → Int32} (h : PS c o f a read uses) (h2 : ∀ e, e < 4 * c → cn f (f e) = 2) : VS (c, o, f) := by
  obtain ⟨h1, h2', h3, h4, h5, h6, h7, h8⟩ := h
  refine ⟨h1, h2', h4, h5, fun e he => ?_⟩
  obtain ⟨s, t, s1, t1, st, ps, pt, all⟩ := fb_two (h2 e he)
  have up : ∀ x, f x = f e → x < 4 * c := fun x hx => by
    refine Classical.byContradiction fun w => ?_
    have := h4 x (by omega)
    have := h5 e he
    omega
  have fs : f s = f e := by simpa using ps
  have ft : f t = f e := by simpa using pt
  rcases all e (by omega) (by simp) with r | r
  · subst r
    exact ⟨t, up t ft, fun z => st z.symm, ft, fun x hx g => all x (by omega) (beq_iff_eq.mpr g)⟩
  · subst r
    exact ⟨s, up s fs, st, fs, fun x hx g => (all x (by omega) (beq_iff_eq.mpr g)).symm⟩
