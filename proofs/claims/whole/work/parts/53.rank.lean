/-! ===== the rank: the class multiplies across, the reference by inverses ===== -/
theorem Mx.congr {p : Nat} {c : Nat → Int32} {M N : Nat → Nat} (h : Mx p c M) (e : ∀ j, j < 136 → M j = N j) : Mx p c N := fun j hj => by rw [← e j hj]; exact h j hj
def swp (M : Nat → Nat) (a b : Nat) : Nat → Nat := fun j => if j / 17 = a then M (17 * b + j % 17) else if j / 17 = b then M (17 * a + j % 17) else M j
def mixS (M : Nat → Nat) (a b t : Nat) : Nat → Nat := fun j => if j % 17 < t then swp M a b j else M j
theorem mixS_step {M : Nat → Nat} {a b t : Nat} (ht : t < 17) (j : Nat) : putM (putM (mixS M a b t) (17 * a + t) (M (17 * b + t))) (17 * b + t) (M (17 * a + t)) j = mixS M a b (t + 1) j := by
  unfold putM mixS swp
  by_cases q1 : j = 17 * b + t
  · subst q1
    rw [if_pos rfl, if_pos (by omega)]
    have d1 : (17 * b + t) / 17 = b := by omega
    have d2 : (17 * b + t) % 17 = t := by omega
    rw [d1, d2]
    by_cases z : b = a
    · rw [if_pos z, z]
    · rw [if_neg z, if_pos rfl]
  · rw [if_neg q1]
    by_cases q2 : j = 17 * a + t
    · subst q2
      rw [if_pos rfl, if_pos (by omega)]
      have d1 : (17 * a + t) / 17 = a := by omega
      have d2 : (17 * a + t) % 17 = t := by omega
      rw [d1, d2, if_pos rfl]
    · rw [if_neg q2]
      by_cases z : j % 17 < t
      · rw [if_pos z, if_pos (show j % 17 < t + 1 by omega)]
      · rw [if_neg z]
        by_cases w : j % 17 < t + 1
        · rw [if_pos w, if_neg (by omega), if_neg (by omega)]
        · rw [if_neg w]
theorem q_exch {p : Nat} (hp : isP p) {cells : Nat → Int32} {M : Nat → Nat} (hM : Mx p cells M) {a b : Nat} (ha : a < 8) (hb : b < 8) : ∃ c', kX1_exchangeRows (nI a) (nI b) (nI p) cells = some c' ∧ Mx p c' (swp M a b) := by
  have hbp := isP_lt hp
  unfold kX1_exchangeRows
  refine it2_inv (F := kX1_exchangeRows_L1 (nI a) (nI b) (nI p)) (x1 := 0) (x2 := cells) (n := 400) (fun t x y => x = nI t ∧ Mx p y (mixS M a b t)) (fun r => ∃ c', r = some c' ∧ Mx p c' (swp M a b)) 17 (fun K t x y ht hI => ?_) (fun K x y hI => ?_) ⟨rfl, hM.congr (fun j _ => by unfold mixS; rw [if_neg (Nat.not_lt_zero _)])⟩ (by omega)
  · obtain ⟨rfl, hy⟩ := hI
    have ea : mixS M a b t (17 * a + t) = M (17 * a + t) := by unfold mixS; rw [if_neg (by omega)]
    have eb : mixS M a b t (17 * b + t) = M (17 * b + t) := by unfold mixS; rw [if_neg (by omega)]
    have la := (hM (17 * a + t) (by omega)).2
    have lb := (hM (17 * b + t) (by omega)).2
    have h1 := hy.put (j := 17 * a + t) lb
    have h2 := h1.put (j := 17 * b + t) la
    refine ⟨nI (t + 1), _, ?_, rfl, h2.congr (fun j _ => mixS_step ht j)⟩
    unfold kX1_exchangeRows_L1
    rw [if_neg (by rw [fa_lit 17]; exact nI_ge (by omega) (by omega)), q_cell hy ha ht, bnd1_e, q_cell hy hb ht, bnd1_e, ea, eb, q_setCellN hp ha ht lb, bnd1_e, q_setCellN hp hb ht la, bnd1_e, nI_1]
  · obtain ⟨rfl, hy⟩ := hI
    refine ⟨y, ?_, hy.congr (fun j _ => by unfold mixS; rw [if_pos (by omega)])⟩
    unfold kX1_exchangeRows_L1
    rw [if_pos (by decide)]
/-- rows below r, up to the place (row, t), as A has them, the others as B -/
def mix (A B : Nat → Nat) (r row t : Nat) : Nat → Nat := fun j => if r < j / 17 ∧ (j / 17 < row ∨ (j / 17 = row ∧ j % 17 < t)) then A j else B j
theorem mix_step {A B : Nat → Nat} {r row t : Nat} (hr : r < row) (ht : t < 17) (j : Nat) : putM (mix A B r row t) (17 * row + t) (A (17 * row + t)) j = mix A B r row (t + 1) j := by
  unfold putM mix
  by_cases q : j = 17 * row + t
  · subst q
    rw [if_pos rfl, if_pos (by omega)]
  · rw [if_neg q]
    by_cases z : r < j / 17 ∧ (j / 17 < row ∨ (j / 17 = row ∧ j % 17 < t))
    · rw [if_pos z, if_pos (by omega)]
    · rw [if_neg z, if_neg (by omega)]
theorem mix_row {A B : Nat → Nat} {r row : Nat} (j : Nat) : mix A B r row 17 j = mix A B r (row + 1) 0 j := by
  unfold mix
  by_cases z : r < j / 17 ∧ (j / 17 < row ∨ (j / 17 = row ∧ j % 17 < 17))
  · rw [if_pos z, if_pos (by omega)]
  · rw [if_neg z, if_neg (by omega)]
/-- the class's new number, the reference's new number -/
def ncC (p r k : Nat) (C : Nat → Nat) : Nat → Nat := fun j => (C (17 * r + k) * C j + (p - 1) * (C (17 * (j / 17) + k) * C (17 * r + j % 17))) % p
def ivt (p v : Nat) : Nat := ((List.range p).find? (fun k => v * k % p == 1)).getD 1
def ncM (p r k : Nat) (M : Nat → Nat) : Nat → Nat := fun j => (M j + (p - ((M (17 * (j / 17) + k) * ivt p (M (17 * r + k))) % p * M (17 * r + j % 17)) % p)) % p
theorem prod_le {p a b : Nat} (hp : p ≤ 11) (ha : a < p) (hb : b < p) : a * b ≤ 100 := by
  have := Nat.mul_le_mul (show a ≤ 10 by omega) (show b ≤ 10 by omega)
  omega
theorem q_clear1 {p : Nat} (hp : isP p) {cells : Nat → Int32} {C : Nat → Nat} (hC : Mx p cells C) {c r k : Nat} (hc : c ≤ 8) (hr : r < c) (hk : k < 17) : ∃ c', kX1_clearBelow (nI r) (nI c) (nI k) (nI p) cells = some c' ∧ Mx p c' (mix (ncC p r k C) C r c 0) := by
  have hbp := isP_lt hp
  unfold kX1_clearBelow
  rw [q_cell hC (by omega) hk, bnd1_e, nI_1]
  refine it2_inv (F := kX1_clearBelow_L1 (nI c) (nI k) (nI r) (nI (C (17 * r + k))) (nI p)) (x1 := nI (r + 1)) (x2 := cells) (n := 400) (fun i x y => x = nI (r + 1 + i) ∧ Mx p y (mix (ncC p r k C) C r (r + 1 + i) 0)) (fun q => ∃ c', q = some c' ∧ Mx p c' (mix (ncC p r k C) C r c 0)) (c - (r + 1)) (fun K i x y hi hI => ?_) (fun K x y hI => ?_) ⟨rfl, hC.congr (fun j _ => by unfold mix; rw [if_neg (by omega)])⟩ (by omega)
  · obtain ⟨rfl, hy⟩ := hI
    have w1 : mix (ncC p r k C) C r (r + 1 + i) 0 (17 * (r + 1 + i) + k) = C (17 * (r + 1 + i) + k) := by unfold mix; rw [if_neg (by omega)]
    have inner : ∃ c', it2 (kX1_clearBelow_L2 K (nI (r + 1 + i)) (nI r) (nI (C (17 * r + k))) (nI (C (17 * (r + 1 + i) + k))) (nI p)) 400 0 y = K (nI (r + 1 + i) + 1) c' ∧ Mx p c' (mix (ncC p r k C) C r (r + 1 + i) 17) := by
      refine it2_inv (F := kX1_clearBelow_L2 K (nI (r + 1 + i)) (nI r) (nI (C (17 * r + k))) (nI (C (17 * (r + 1 + i) + k))) (nI p)) (x1 := 0) (x2 := y) (n := 400) (fun t x z => x = nI t ∧ Mx p z (mix (ncC p r k C) C r (r + 1 + i) t)) (fun q => ∃ c', q = K (nI (r + 1 + i) + 1) c' ∧ Mx p c' (mix (ncC p r k C) C r (r + 1 + i) 17)) 17 (fun K2 t x z ht hI => ?_) (fun K2 x z hI => ?_) ⟨rfl, hy⟩ (by omega)
      · obtain ⟨rfl, hz⟩ := hI
        have e1 : mix (ncC p r k C) C r (r + 1 + i) t (17 * (r + 1 + i) + t) = C (17 * (r + 1 + i) + t) := by unfold mix; rw [if_neg (by omega)]
        have e2 : mix (ncC p r k C) C r (r + 1 + i) t (17 * r + t) = C (17 * r + t) := by unfold mix; rw [if_neg (by omega)]
        have l1 := (hC (17 * r + k) (by omega)).2
        have l2 := (hC (17 * (r + 1 + i) + k) (by omega)).2
        have l3 := (hC (17 * (r + 1 + i) + t) (by omega)).2
        have l4 := (hC (17 * r + t) (by omega)).2
        have e3 : ncC p r k C (17 * (r + 1 + i) + t) = (C (17 * r + k) * C (17 * (r + 1 + i) + t) + (p - 1) * (C (17 * (r + 1 + i) + k) * C (17 * r + t))) % p := by
          unfold ncC
          rw [show (17 * (r + 1 + i) + t) / 17 = r + 1 + i by omega, show (17 * (r + 1 + i) + t) % 17 = t by omega]
        have h1 := hz.put (j := 17 * (r + 1 + i) + t) (v := ncC p r k C (17 * (r + 1 + i) + t)) (by rw [e3]; exact Nat.mod_lt _ (by omega))
        refine ⟨nI (t + 1), _, ?_, rfl, h1.congr (fun j _ => mix_step (by omega) ht j)⟩
        unfold kX1_clearBelow_L2
        rw [if_neg (by rw [fa_lit 17]; exact nI_ge (by omega) (by omega)), q_cell hz (by omega) ht, bnd1_e, q_cell hz (by omega) ht, bnd1_e, e1, e2, pk_mul, pk_mul, q_setCell hp (by omega) ht (prod_le hbp.2 l1 l3) (prod_le hbp.2 l2 l4), bnd1_e, nI_1, e3]
      · obtain ⟨rfl, hz⟩ := hI
        refine ⟨z, ?_, hz⟩
        unfold kX1_clearBelow_L2
        rw [if_pos (by decide)]
    obtain ⟨c', e1, e2⟩ := inner
    refine ⟨nI (r + 1 + (i + 1)), c', ?_, rfl, e2.congr (fun j _ => mix_row j)⟩
    unfold kX1_clearBelow_L1
    rw [if_neg (nI_ge (by omega) (by omega)), q_cell hy (by omega) hk, bnd1_e, w1, e1, nI_1]
    rfl
  · obtain ⟨rfl, hy⟩ := hI
    have e0 : r + 1 + (c - (r + 1)) = c := by omega
    rw [e0] at hy ⊢
    refine ⟨y, ?_, hy⟩
    unfold kX1_clearBelow_L1
    rw [if_pos (nI_le (Nat.le_refl _) (by omega))]
/-! the reference's step -/
theorem inv_tab : ∀ p, p = 3 ∨ p = 5 ∨ p = 7 ∨ p = 11 → ∀ v, v < p → v ≠ 0 → kX10_inverse (nI v) (nI p) = some (nI (ivt p v)) ∧ ivt p v < p ∧ v * ivt p v % p = 1 := by
  intro p hp
  rcases hp with rfl | rfl | rfl | rfl <;> decide +kernel
theorem m_clear {p : Nat} (hp : isP p) {now mat : Nat → Int32} {c o : Nat} {f M : Nat → Nat} (h : Mr now c o f) (hc : c ≤ 8) (hM : Mx p mat M) {r k : Nat} (hr : r < c) (hk : k < 17) (hv : M (17 * r + k) ≠ 0) : ∃ c', it2 (kX10_eliminate_L3 now (nI k) (nI p) (nI r) (nI (ivt p (M (17 * r + k))))) 400 (nI (r + 1)) mat = some (1, c') ∧ Mx p c' (mix (ncM p r k M) M r c 0) := by
  have hbp := isP_lt hp
  have hi := inv_tab p hp _ (hM (17 * r + k) (by omega)).2 hv
  have ix : ∀ a b : Nat, (17 * nI a + nI b : Int32) = nI (17 * a + b) := fun a b => by rw [fa_lit 17, pk_mul, nI_add]
  refine it2_inv (F := kX10_eliminate_L3 now (nI k) (nI p) (nI r) (nI (ivt p (M (17 * r + k))))) (x1 := nI (r + 1)) (x2 := mat) (n := 400) (fun i x y => x = nI (r + 1 + i) ∧ Mx p y (mix (ncM p r k M) M r (r + 1 + i) 0)) (fun q => ∃ c', q = some (1, c') ∧ Mx p c' (mix (ncM p r k M) M r c 0)) (c - (r + 1)) (fun K i x y hi2 hI => ?_) (fun K x y hI => ?_) ⟨rfl, hM.congr (fun j _ => by unfold mix; rw [if_neg (by omega)])⟩ (by omega)
  · obtain ⟨rfl, hy⟩ := hI
    have w1 : mix (ncM p r k M) M r (r + 1 + i) 0 (17 * (r + 1 + i) + k) = M (17 * (r + 1 + i) + k) := by unfold mix; rw [if_neg (by omega)]
    have y1 := (hy (17 * (r + 1 + i) + k) (by omega)).1
    rw [w1] at y1
    have l2 := (hM (17 * (r + 1 + i) + k) (by omega)).2
    have pf := prod_le hbp.2 l2 hi.2.1
    have inner : ∃ c', it2 (kX10_eliminate_L4 K (nI (r + 1 + i)) (nI r) (nI p) y (nI k) (nI (ivt p (M (17 * r + k))))) 400 0 y = K (nI (r + 1 + i) + 1) c' ∧ Mx p c' (mix (ncM p r k M) M r (r + 1 + i) 17) := by
      refine it2_inv (F := kX10_eliminate_L4 K (nI (r + 1 + i)) (nI r) (nI p) y (nI k) (nI (ivt p (M (17 * r + k))))) (x1 := 0) (x2 := y) (n := 400) (fun t x z => x = nI t ∧ Mx p z (mix (ncM p r k M) M r (r + 1 + i) t)) (fun q => ∃ c', q = K (nI (r + 1 + i) + 1) c' ∧ Mx p c' (mix (ncM p r k M) M r (r + 1 + i) 17)) 17 (fun K2 t x z ht hI => ?_) (fun K2 x z hI => ?_) ⟨rfl, hy⟩ (by omega)
      · obtain ⟨rfl, hz⟩ := hI
        have e1 : mix (ncM p r k M) M r (r + 1 + i) t (17 * (r + 1 + i) + t) = M (17 * (r + 1 + i) + t) := by unfold mix; rw [if_neg (by omega)]
        have e2 : mix (ncM p r k M) M r (r + 1 + i) t (17 * r + t) = M (17 * r + t) := by unfold mix; rw [if_neg (by omega)]
        have z1 := (hz (17 * (r + 1 + i) + t) (by omega)).1
        have z2 := (hz (17 * r + t) (by omega)).1
        rw [e1] at z1
        rw [e2] at z2
        have l3 := (hM (17 * (r + 1 + i) + t) (by omega)).2
        have l4 := (hM (17 * r + t) (by omega)).2
        have lf : (M (17 * (r + 1 + i) + k) * ivt p (M (17 * r + k))) % p < p := Nat.mod_lt _ (by omega)
        have pf2 := prod_le hbp.2 lf l4
        have lm : (M (17 * (r + 1 + i) + k) * ivt p (M (17 * r + k))) % p * M (17 * r + t) % p < p := Nat.mod_lt _ (by omega)
        have e3 : ncM p r k M (17 * (r + 1 + i) + t) = (M (17 * (r + 1 + i) + t) + (p - ((M (17 * (r + 1 + i) + k) * ivt p (M (17 * r + k))) % p * M (17 * r + t)) % p)) % p := by
          unfold ncM
          rw [show (17 * (r + 1 + i) + t) / 17 = r + 1 + i by omega, show (17 * (r + 1 + i) + t) % 17 = t by omega]
        have h1 := hz.put (j := 17 * (r + 1 + i) + t) (v := ncM p r k M (17 * (r + 1 + i) + t)) (by rw [e3]; exact Nat.mod_lt _ (by omega))
        have e4 : (nI (M (17 * (r + 1 + i) + t)) - nI ((M (17 * (r + 1 + i) + k) * ivt p (M (17 * r + k))) % p * M (17 * r + t) % p) + nI p : Int32) = nI (M (17 * (r + 1 + i) + t) + (p - ((M (17 * (r + 1 + i) + k) * ivt p (M (17 * r + k))) % p * M (17 * r + t)) % p)) := by
          rw [← nI_add, ← pk_sub (show (M (17 * (r + 1 + i) + k) * ivt p (M (17 * r + k))) % p * M (17 * r + t) % p ≤ p by omega), Int32.sub_eq_add_neg, Int32.sub_eq_add_neg (nI p), Int32.add_assoc, Int32.add_comm (nI p)]
        refine ⟨nI (t + 1), _, ?_, rfl, h1.congr (fun j _ => mix_step (by omega) ht j)⟩
        unfold kX10_eliminate_L4
        rw [if_neg (by rw [fa_lit 17]; exact nI_ge (by omega) (by omega)), ix, ix, ix, ck_nI (by omega) (by omega), ck_nI (by omega) (by omega), cz_nI (by omega) (by omega), cz_nI (by omega) (by omega), ck_nI (by omega) (by omega), nI_clamp (by omega), nI_clamp (by omega), nI_clamp (by omega), z1, z2, y1, pk_mul, irem_nI (by omega) (by omega) (by omega), pk_mul, irem_nI (by omega) (by omega) (by omega), e4, irem_nI (by omega) (by omega) (by omega), nI_1, e3]
      · obtain ⟨rfl, hz⟩ := hI
        refine ⟨z, ?_, hz⟩
        unfold kX10_eliminate_L4
        rw [if_pos (by decide)]
    obtain ⟨c', e1, e2⟩ := inner
    refine ⟨nI (r + 1 + (i + 1)), c', ?_, rfl, e2.congr (fun j _ => mix_row j)⟩
    unfold kX10_eliminate_L3
    rw [m_crossings h, bnd1_e, if_neg (nI_ge (by omega) (by omega)), ix, ck_nI (by omega) (by omega), cz_nI (by omega) (by omega), e1, nI_1]
    rfl
  · obtain ⟨rfl, hy⟩ := hI
    have e0 : r + 1 + (c - (r + 1)) = c := by omega
    rw [e0] at hy ⊢
    refine ⟨y, ?_, hy⟩
    unfold kX10_eliminate_L3
    rw [m_crossings h, bnd1_e, if_pos (nI_le (Nat.le_refl _) (by omega))]
theorem m_swap {p : Nat} (hp : isP p) {now mat : Nat → Int32} {c o : Nat} {f M : Nat → Nat} (h : Mr now c o f) (hc : c ≤ 8) (hM : Mx p mat M) {r q k : Nat} (hr : r < c) (hq : q < c) (hk : k < 17) (hv : M (17 * q + k) ≠ 0) : ∃ c', it2 (kX10_eliminate_L2 (nI r) (nI k) (nI p) now (nI q)) 400 0 mat = some (1, c') ∧ Mx p c' (mix (ncM p r k (swp M r q)) (swp M r q) r c 0) := by
  have ix : ∀ a b : Nat, (17 * nI a + nI b : Int32) = nI (17 * a + b) := fun a b => by rw [fa_lit 17, pk_mul, nI_add]
  refine it2_inv (F := kX10_eliminate_L2 (nI r) (nI k) (nI p) now (nI q)) (x1 := 0) (x2 := mat) (n := 400) (fun t x y => x = nI t ∧ Mx p y (mixS M r q t)) (fun w => ∃ c', w = some (1, c') ∧ Mx p c' (mix (ncM p r k (swp M r q)) (swp M r q) r c 0)) 17 (fun K t x y ht hI => ?_) (fun K x y hI => ?_) ⟨rfl, hM.congr (fun j _ => by unfold mixS; rw [if_neg (Nat.not_lt_zero _)])⟩ (by omega)
  · obtain ⟨rfl, hy⟩ := hI
    have ea : mixS M r q t (17 * r + t) = M (17 * r + t) := by unfold mixS; rw [if_neg (by omega)]
    have eb : mixS M r q t (17 * q + t) = M (17 * q + t) := by unfold mixS; rw [if_neg (by omega)]
    have ya := (hy (17 * r + t) (by omega)).1
    have yb := (hy (17 * q + t) (by omega)).1
    rw [ea] at ya
    rw [eb] at yb
    have la := (hM (17 * r + t) (by omega)).2
    have lb := (hM (17 * q + t) (by omega)).2
    have h1 := hy.put (j := 17 * r + t) lb
    have h2 := h1.put (j := 17 * q + t) la
    refine ⟨nI (t + 1), _, ?_, rfl, h2.congr (fun j _ => mixS_step ht j)⟩
    unfold kX10_eliminate_L2
    rw [if_neg (by rw [fa_lit 17]; exact nI_ge (by omega) (by omega)), ix, ix, ck_nI (by omega) (by omega), ck_nI (by omega) (by omega), ck_nI (by omega) (by omega), ck_nI (by omega) (by omega), nI_clamp (by omega), nI_clamp (by omega), ya, yb, nI_1]
  · obtain ⟨rfl, hy⟩ := hI
    have hS : Mx p y (swp M r q) := hy.congr (fun j _ => by unfold mixS; rw [if_pos (by omega)])
    have e1 : swp M r q (17 * r + k) = M (17 * q + k) := by
      unfold swp
      rw [if_pos (by omega), show (17 * r + k) % 17 = k by omega]
    have hv2 : swp M r q (17 * r + k) ≠ 0 := by rw [e1]; exact hv
    have y1 := hS (17 * r + k) (by omega)
    have hi := inv_tab p hp _ y1.2 hv2
    obtain ⟨c', e2, e3⟩ := m_clear hp h hc hS hr hk hv2
    refine ⟨c', ?_, e3⟩
    unfold kX10_eliminate_L2
    rw [if_pos (by decide), ix, ck_nI (by omega) (by omega), nI_clamp (by omega), y1.1, hi.1, bnd1_e, nI_1, e2]
