/-! ===== the reference's rows: a row of cells holds c crossings, o circles, the arcs f ===== -/
def Mr (now : Nat → Int32) (c o : Nat) (f : Nat → Nat) : Prop := now 0 = nI c ∧ now 1 = nI o ∧ ∀ e, e < 32 → now (2 + e) = nI (f e)
/-- a diagram: c crossings, o circles, arcs f, each at two ends -/
def Vd (c o : Nat) (f : Nat → Nat) : Prop := c ≤ 8 ∧ o ≤ 4 ∧ (∀ e, 4 * c ≤ e → f e = 0) ∧ (∀ e, e < 4 * c → 1 ≤ f e ∧ f e ≤ 16) ∧ ∀ e, e < 4 * c → ∃ t, Oth c f e t
theorem Vd.le16 {c o : Nat} {f : Nat → Nat} (h : Vd c o f) (e : Nat) : f e ≤ 16 := by
  rcases Nat.lt_or_ge e (4 * c) with q | q
  · exact (h.2.2.2.1 e q).2
  · rw [h.2.2.1 e q]; exact Nat.zero_le _
theorem cl0 : (0 : Int32).toNatClampNeg = 0 := by decide
theorem cl1 : (1 : Int32).toNatClampNeg = 1 := by decide
/-! the labels -/
def Lr (lab : Nat → Int32) (l : Nat → Nat) : Prop := ∀ j, j < 17 → lab j = nI (l j)
theorem lbU_pos {l : Nat → Nat} (h0 : ∀ n, 1 ≤ n → 1 ≤ l n) {a b : Nat} (ha : 1 ≤ a) (hb : 1 ≤ b) : ∀ n, 1 ≤ n → 1 ≤ lbU l a b n := fun n hn => by
  have h1 := h0 n hn
  have h2 := h0 a ha
  have h3 := h0 b hb
  unfold lbU
  by_cases q : l n = l a ∨ l n = l b
  · rw [if_pos q]; omega
  · rw [if_neg q]; exact h1
