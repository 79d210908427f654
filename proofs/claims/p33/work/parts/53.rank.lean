/-! ===== the rank: the class multiplies across, the reference by inverses ===== -/
theorem Mx.congr {p : Nat} {c : Nat → Int32} {M N : Nat → Nat} (h : Mx p c M) (e : ∀ j, j < 136 → M j = N j) : Mx p c N := fun j hj => by rw [← e j hj]; exact h j hj
def swp (M : Nat → Nat) (a b : Nat) : Nat → Nat := fun j => if j / 17 = a then M (17 * b + j % 17) else if j / 17 = b then M (17 * a + j % 17) else M j
def mixS (M : Nat → Nat) (a b t : Nat) : Nat → Nat := fun j => if j % 17 < t then swp M a b j else M j
theorem mixS_step {M : Nat → Nat} {a b t : Nat} (ht : t < 17) (j : Nat) : putM (putM (mixS M a b t) (17 * a + t) (M (17 * b + t))) (17 * b + t) (M (17 * a + t)) j = mixS M a b (t + 1) j := by
  unfold putM mixS swp
  by_cases q1 : j = 17 * b + t
  · subst q1
    rw [if_pos rfl, if_pos (by omega)]
    have d1 : (17 * b + t) / 17 = b := by omega
    have d2 : (17 * b + t) % 17 = t := by omega
    rw [d1, d2]
    by_cases z : b = a
    · rw [if_pos z, z]
    · rw [if_neg z, if_pos rfl]
  · rw [if_neg q1]
    by_cases q2 : j = 17 * a + t
    · subst q2
      rw [if_pos rfl, if_pos (by omega)]
      have d1 : (17 * a + t) / 17 = a := by omega
      have d2 : (17 * a + t) % 17 = t := by omega
      rw [d1, d2, if_pos rfl]
    · rw [if_neg q2]
      by_cases z : j % 17 < t
      · rw [if_pos z, if_pos (show j % 17 < t + 1 by omega)]
      · rw [if_neg z]
        by_cases w : j % 17 < t + 1
        · rw [if_pos w, if_neg (by omega), if_neg (by omega)]
        · rw [if_neg w]
theorem q_exch {p : Nat} (hp : isP p) {cells : Nat → Int32} {M : Nat → Nat} (hM : Mx p cells M) {a b : Nat} (ha : a < 8) (hb : b < 8) : ∃ c', kX1_exchangeRows (nI a) (nI b) (nI p) cells = some c' ∧ Mx p c' (swp M a b) := by
  have hbp := isP_lt hp
  unfold kX1_exchangeRows
  refine it2_inv (F := kX1_exchangeRows_L1 (nI a) (nI b) (nI p)) (x1 := 0) (x2 := cells) (n := 400) (fun t x y => x = nI t ∧ Mx p y (mixS M a b t)) (fun r => ∃ c', r = some c' ∧ Mx p c' (swp M a b)) 17 (fun K t x y ht hI => ?_) (fun K x y hI => ?_) ⟨rfl, hM.congr (fun j _ => by unfold mixS; rw [if_neg (Nat.not_lt_zero _)])⟩ (by omega)
  · obtain ⟨rfl, hy⟩ := hI
    have ea : mixS M a b t (17 * a + t) = M (17 * a + t) := by unfold mixS; rw [if_neg (by omega)]
    have eb : mixS M a b t (17 * b + t) = M (17 * b + t) := by unfold mixS; rw [if_neg (by omega)]
    have la := (hM (17 * a + t) (by omega)).2
    have lb := (hM (17 * b + t) (by omega)).2
    have h1 := hy.put (j := 17 * a + t) lb
    have h2 := h1.put (j := 17 * b + t) la
    refine ⟨nI (t + 1), _, ?_, rfl, h2.congr (fun j _ => mixS_step ht j)⟩
    unfold kX1_exchangeRows_L1
    rw [if_neg (by rw [fa_lit 17]; exact nI_ge (by omega) (by omega)), q_cell hy ha ht, bnd1_e, q_cell hy hb ht, bnd1_e, ea, eb, q_setCellN hp ha ht lb, bnd1_e, q_setCellN hp hb ht la, bnd1_e, nI_1]
  · obtain ⟨rfl, hy⟩ := hI
    refine ⟨y, ?_, hy.congr (fun j _ => by unfold mixS; rw [if_pos (by omega)])⟩
    unfold kX1_exchangeRows_L1
    rw [if_pos (by decide)]
/-- rows below r, up to the place (row, t), as A has them, the others as B -/
def mix (A B : Nat → Nat) (r row t : Nat) : Nat → Nat := fun j => if r < j / 17 ∧ (j / 17 < row ∨ (j / 17 = row ∧ j % 17 < t)) then A j else B j
theorem mix_step {A B : Nat → Nat} {r row t : Nat} (hr : r < row) (ht : t < 17) (j : Nat) : putM (mix A B r row t) (17 * row + t) (A (17 * row + t)) j = mix A B r row (t + 1) j := by
  unfold putM mix
  by_cases q : j = 17 * row + t
  · subst q
    rw [if_pos rfl, if_pos (by omega)]
  · rw [if_neg q]
    by_cases z : r < j / 17 ∧ (j / 17 < row ∨ (j / 17 = row ∧ j % 17 < t))
    · rw [if_pos z, if_pos (by omega)]
    · rw [if_neg z, if_neg (by omega)]
theorem mix_row {A B : Nat → Nat} {r row : Nat} (j : Nat) : mix A B r row 17 j = mix A B r (row + 1) 0 j := by
  unfold mix
  by_cases z : r < j / 17 ∧ (j / 17 < row ∨ (j / 17 = row ∧ j % 17 < 17))
  · rw [if_pos z, if_pos (by omega)]
  · rw [if_neg z, if_neg (by omega)]
/-- the class's new number, the reference's new number -/
def ncC (p r k : Nat) (C : Nat → Nat) : Nat → Nat := fun j => (C (17 * r + k) * C j + (p - 1) * (C (17 * (j / 17) + k) * C (17 * r + j % 17))) % p
def ivt (p v : Nat) : Nat := ((List.range p).find? (fun k => v * k % p == 1)).getD 1
def ncM (p r k : Nat) (M : Nat → Nat) : Nat → Nat := fun j => (M j + (p - ((M (17 * (j / 17) + k) * ivt p (M (17 * r + k))) % p * M (17 * r + j % 17)) % p)) % p
theorem prod_le {p a b : Nat} (hp : p ≤ 11) (ha : a < p) (hb : b < p) : a * b ≤ 100 := by
  have := Nat.mul_le_mul (show a ≤ 10 by omega) (show b ≤ 10 by omega)
  omega
theorem q_clear1 {p : Nat} (hp : isP p) {cells : Nat → Int32} {C : Nat → Nat} (hC : Mx p cells C) {c r k : Nat} (hc : c ≤ 8) (hr : r < c) (hk : k < 17) : ∃ c', kX1_clearBelow (nI r) (nI c) (nI k) (nI p) cells = some c' ∧ Mx p c' (mix (ncC p r k C) C r c 0) := by
  have hbp := isP_lt hp
  unfold kX1_clearBelow
  rw [q_cell hC (by omega) hk, bnd1_e, nI_1]
  refine it2_inv (F := kX1_clearBelow_L1 (nI c) (nI k) (nI r) (nI (C (17 * r + k))) (nI p)) (x1 := nI (r + 1)) (x2 := cells) (n := 400) (fun i x y => x = nI (r + 1 + i) ∧ Mx p y (mix (ncC p r k C) C r (r + 1 + i) 0)) (fun q => ∃ c', q = some c' ∧ Mx p c' (mix (ncC p r k C) C r c 0)) (c - (r + 1)) (fun K i x y hi hI => ?_) (fun K x y hI => ?_) ⟨rfl, hC.congr (fun j _ => by unfold mix; rw [if_neg (by omega)])⟩ (by omega)
  · obtain ⟨rfl, hy⟩ := hI
    have w1 : mix (ncC p r k C) C r (r + 1 + i) 0 (17 * (r + 1 + i) + k) = C (17 * (r + 1 + i) + k) := by unfold mix; rw [if_neg (by omega)]
    have inner : ∃ c', it2 (kX1_clearBelow_L2 K (nI (r + 1 + i)) (nI r) (nI (C (17 * r + k))) (nI (C (17 * (r + 1 + i) + k))) (nI p)) 400 0 y = K (nI (r + 1 + i) + 1) c' ∧ Mx p c' (mix (ncC p r k C) C r (r + 1 + i) 17) := by
      refine it2_inv (F := kX1_clearBelow_L2 K (nI (r + 1 + i)) (nI r) (nI (C (17 * r + k))) (nI (C (17 * (r + 1 + i) + k))) (nI p)) (x1 := 0) (x2 := y) (n := 400) (fun t x z => x = nI t ∧ Mx p z (mix (ncC p r k C) C r (r + 1 + i) t)) (fun q => ∃ c', q = K (nI (r + 1 + i) + 1) c' ∧ Mx p c' (mix (ncC p r k C) C r (r + 1 + i) 17)) 17 (fun K2 t x z ht hI => ?_) (fun K2 x z hI => ?_) ⟨rfl, hy⟩ (by omega)
      · obtain ⟨rfl, hz⟩ := hI
        have e1 : mix (ncC p r k C) C r (r + 1 + i) t (17 * (r + 1 + i) + t) = C (17 * (r + 1 + i) + t) := by unfold mix; rw [if_neg (by omega)]
        have e2 : mix (ncC p r k C) C r (r + 1 + i) t (17 * r + t) = C (17 * r + t) := by unfold mix; rw [if_neg (by omega)]
        have l1 := (hC (17 * r + k) (by omega)).2
        have l2 := (hC (17 * (r + 1 + i) + k) (by omega)).2
        have l3 := (hC (17 * (r + 1 + i) + t) (by omega)).2
        have l4 := (hC (17 * r + t) (by omega)).2
        have e3 : ncC p r k C (17 * (r + 1 + i) + t) = (C (17 * r + k) * C (17 * (r + 1 + i) + t) + (p - 1) * (C (17 * (r + 1 + i) + k) * C (17 * r + t))) % p := by
          unfold ncC
          rw [show (17 * (r + 1 + i) + t) / 17 = r + 1 + i by omega, show (17 * (r + 1 + i) + t) % 17 = t by omega]
        have h1 := hz.put (j := 17 * (r + 1 + i) + t) (v := ncC p r k C (17 * (r + 1 + i) + t)) (by rw [e3]; exact Nat.mod_lt _ (by omega))
        refine ⟨nI (t + 1), _, ?_, rfl, h1.congr (fun j _ => mix_step (by omega) ht j)⟩
        unfold kX1_clearBelow_L2
        rw [if_neg (by rw [fa_lit 17]; exact nI_ge (by omega) (by omega)), q_cell hz (by omega) ht, bnd1_e, q_cell hz (by omega) ht, bnd1_e, e1, e2, pk_mul, pk_mul, q_setCell hp (by omega) ht (prod_le hbp.2 l1 l3) (prod_le hbp.2 l2 l4), bnd1_e, nI_1, e3]
      · obtain ⟨rfl, hz⟩ := hI
        refine ⟨z, ?_, hz⟩
        unfold kX1_clearBelow_L2
        rw [if_pos (by decide)]
    obtain ⟨c', e1, e2⟩ := inner
    refine ⟨nI (r + 1 + (i + 1)), c', ?_, rfl, e2.congr (fun j _ => mix_row j)⟩
    unfold kX1_clearBelow_L1
    rw [if_neg (nI_ge (by omega) (by omega)), q_cell hy (by omega) hk, bnd1_e, w1, e1, nI_1]
    rfl
  · obtain ⟨rfl, hy⟩ := hI
    have e0 : r + 1 + (c - (r + 1)) = c := by omega
    rw [e0] at hy ⊢
    refine ⟨y, ?_, hy⟩
    unfold kX1_clearBelow_L1
    rw [if_pos (nI_le (Nat.le_refl _) (by omega))]
/-! the reference's step -/
theorem inv_tab : ∀ p, p = 3 ∨ p = 5 ∨ p = 7 ∨ p = 11 → ∀ v, v < p → v ≠ 0 → True ∧ ivt p v < p ∧ v * ivt p v % p = 1 := by
  rintro p (rfl | rfl | rfl | rfl) <;> decide +kernel
