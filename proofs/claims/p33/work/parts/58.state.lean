/-! ===== the state of the two, side by side ===== -/
def brD (d : St) (i : Nat) : Int32 := brk d.1 d.2.1 d.2.2 i
def SR (ss np dc dr : Int32) (da cells filled : Nat → Int32) (pr : Int32) (coef : Nat → Int32) (saved : Int32) (now hist kept isk : Nat → Int32) : Prop :=
  ∃ (d : St) (s n : Nat) (H : Nat → St), VS d ∧ dc = nI d.1 ∧ dr = nI d.2.1 ∧ Rp da d.2.2 ∧ BlR now 0 d ∧ (pr = 0 ∨ ∀ i, i < 121 → coef i = brD d i) ∧ ss = nI s ∧ saved = nI s ∧ np = nI n ∧ SvR s n H cells filled hist ∧ SnR cells filled kept isk
theorem fndF.sgn {P : Nat → Prop} {n : Nat} {x : Int32} (h : fndF P 0 n nI (-1) x) (hn : n < 1000) : (x < 0 ∧ ∀ k, k < n → ¬ P k) ∨ (¬ x < 0 ∧ ∃ k, k < n ∧ P k ∧ x = nI k) := by
  rcases h with ⟨k, h1, h2, h3, h4, rfl⟩ | ⟨h1, rfl⟩
  · exact Or.inr ⟨nI_pos (by omega), k, h2, h3, rfl⟩
  · exact Or.inl ⟨by decide, fun k hk => h1 k (Nat.zero_le _) hk⟩
def bP (f : Nat → Nat) (v w : Nat) : Prop := w ≠ v ∧ ∃ k, k < 16 ∧ bE f v w k
