/-! ===== the law's small methods ===== -/
theorem it7_inv {A1 A2 A3 A4 A5 A6 A7 δ : Type} {F : (A1 → A2 → A3 → A4 → A5 → A6 → A7 → Option δ) → A1 → A2 → A3 → A4 → A5 → A6 → A7 → Option δ} {x1 : A1} {x2 : A2} {x3 : A3} {x4 : A4} {x5 : A5} {x6 : A6} {x7 : A7} (I : Nat → A1 → A2 → A3 → A4 → A5 → A6 → A7 → Prop) (Q : Option δ → Prop) (e : Nat)
    (hs : ∀ (K : A1 → A2 → A3 → A4 → A5 → A6 → A7 → Option δ) (i : Nat) (x1 : A1) (x2 : A2) (x3 : A3) (x4 : A4) (x5 : A5) (x6 : A6) (x7 : A7), i < e → I i x1 x2 x3 x4 x5 x6 x7 → ∃ (y1 : A1) (y2 : A2) (y3 : A3) (y4 : A4) (y5 : A5) (y6 : A6) (y7 : A7), F K x1 x2 x3 x4 x5 x6 x7 = K y1 y2 y3 y4 y5 y6 y7 ∧ I (i + 1) y1 y2 y3 y4 y5 y6 y7) (he : ∀ (K : A1 → A2 → A3 → A4 → A5 → A6 → A7 → Option δ) (x1 : A1) (x2 : A2) (x3 : A3) (x4 : A4) (x5 : A5) (x6 : A6) (x7 : A7), I e x1 x2 x3 x4 x5 x6 x7 → Q (F K x1 x2 x3 x4 x5 x6 x7)) (h0 : I 0 x1 x2 x3 x4 x5 x6 x7) {n : Nat} (hn : e < n) : Q (it7 F n x1 x2 x3 x4 x5 x6 x7) := by
  have key : ∀ (n i : Nat) (x1 : A1) (x2 : A2) (x3 : A3) (x4 : A4) (x5 : A5) (x6 : A6) (x7 : A7), i ≤ e → e < i + n → I i x1 x2 x3 x4 x5 x6 x7 → Q (it7 F n x1 x2 x3 x4 x5 x6 x7) := by
    intro n
    induction n with
    | zero => intro i x1 x2 x3 x4 x5 x6 x7 h1 h2; omega
    | succ n ih =>
      intro i x1 x2 x3 x4 x5 x6 x7 h1 h2 hi
      show Q (F (it7 F n) x1 x2 x3 x4 x5 x6 x7)
      rcases Nat.lt_or_ge i e with q | q
      · obtain ⟨y1, y2, y3, y4, y5, y6, y7, e1, e2⟩ := hs (it7 F n) i x1 x2 x3 x4 x5 x6 x7 q hi
        rw [e1]
        exact ih (i + 1) y1 y2 y3 y4 y5 y6 y7 (by omega) (by omega) e2
      · have e1 : i = e := by omega
        subst e1
        exact he _ x1 x2 x3 x4 x5 x6 x7 hi
  exact key n 0 x1 x2 x3 x4 x5 x6 x7 (Nat.zero_le _) (by omega) h0

theorem all_nI (x : Int32) : ∃ n, n < 2 ^ 32 ∧ x = nI n := by
  refine ⟨x.toBitVec.toNat, x.toBitVec.isLt, ?_⟩
  apply Int32.toBitVec_inj.1
  show x.toBitVec = BitVec.ofNat 32 x.toBitVec.toNat
  simp
theorem L_low (x : Int32) {m : Nat} (h0 : 0 < m) (hm : m < 1000) : ∃ c, c < m ∧ kL_low x (nI m) = some (nI c) := by
  obtain ⟨n, _, rfl⟩ := all_nI x
  have e : (nI n &&& 2147483647 : Int32) = nI (n % 2 ^ 31) := fa_mask n 31
  refine ⟨n % 2 ^ 31 % m, Nat.mod_lt _ h0, ?_⟩
  unfold kL_low cz
  rw [if_neg (nI_ne0 h0 (by omega)), e, irem_nI (by omega) h0 (by omega)]
theorem L_cell {n : Nat} (f : Nat → Int32) (hn : n < 2 ^ 31) {k : Nat} (hk : k < 2 ^ 31) : ∃ x, kL_cell n f (nI k) = some x := by
  unfold kL_cell
  have e : Int32.ofNat n = nI n := rfl
  rw [e]
  by_cases q : n ≤ k
  · exact ⟨_, if_pos (nI_le q hk)⟩
  · rw [if_neg (nI_ge (by omega) hn), ck_nI (by omega) (by omega)]
    exact ⟨_, rfl⟩
theorem lg_self (x : Int64) : lg_cmp x x = 0 := by
  unfold lg_cmp
  rw [if_neg Int64.lt_irrefl, if_pos rfl]
def hsF (d : St) : Nat → Int64
  | 0 => 151 * (nI d.1).toInt64 + (nI d.2.1).toInt64
  | i + 1 => 31 * hsF d i + (nI (d.2.2 i)).toInt64
def hsD (d : St) : Int64 := hsF d (4 * d.1)
theorem L_hash {d : St} {da : Nat → Int32} (hV : VS d) (hA : Rp da d.2.2) : kL_hash (nI d.1) (nI d.2.1) da = some (hsD d) := by
  have hc := hV.1
  unfold kL_hash kX9_crossingCount kX9_circleCount
  rw [bnd1_e, bnd1_e]
  have e3 : (4 * nI d.1 : Int32) = nI (4 * d.1) := by rw [fa_lit 4, pk_mul]
  refine it2_inv (F := kL_hash_L1 (nI d.1) da) (x1 := 151 * (nI d.1).toInt64 + (nI d.2.1).toInt64) (x2 := 0) (n := 400) (fun i x y => x = hsF d i ∧ y = nI i) (fun r => r = some (hsD d)) (4 * d.1) (fun K i x y hi hI => ?_) (fun K x y hI => ?_) ⟨rfl, rfl⟩ (by omega)
  · obtain ⟨rfl, rfl⟩ := hI
    have e1 : (nI i / 4 : Int32) = nI (i / 4) := by rw [fa_lit 4, pk_div (by omega) (by omega) (by omega)]
    have e2 : irem (nI i) 4 = nI (i % 4) := by rw [fa_lit 4, irem_nI (by omega) (by omega) (by omega)]
    unfold kL_hash_L1 kX9_crossingCount
    rw [bnd1_e, e3, if_neg (nI_ge (by omega) (by omega)), e1, e2, o_arcAt hV hA (by omega) (by omega), bnd1_e, nI_1, show 4 * (i / 4) + i % 4 = i by omega]
    exact ⟨_, _, rfl, rfl, rfl⟩
  · obtain ⟨rfl, rfl⟩ := hI
    unfold kL_hash_L1 kX9_crossingCount
    rw [bnd1_e, e3, if_pos (Int32.le_refl _)]
    rfl
/-! the row of the bracket -/
noncomputable def odZ (d : St) (nrm : Bool) : Int := ((d.1 : Int) + (if nrm = true then wD d else 0)) % 2
noncomputable def odD (d : St) (nrm : Bool) : Nat := (odZ d nrm).toNat
theorem odD_eq (d : St) (nrm : Bool) : (odD d nrm : Int) = odZ d nrm ∧ odD d nrm < 2 := by
  have : 0 ≤ odZ d nrm ∧ odZ d nrm < 2 := ⟨Int.emod_nonneg _ (by decide), Int.emod_lt_of_pos _ (by decide)⟩
  unfold odD
  omega
noncomputable def rwD (d : St) (nrm : Bool) (k : Nat) : Int32 := if nrm = true then nmD d (2 * k + odD d nrm) else brD d (2 * k + odD d nrm)
theorem od_t : ∀ c : Nat, c < 9 → ∀ k : Nat, k < 17 → ((nI c + (nI k - 8)) &&& 1 : Int32) = nI ((((c : Int) + ((k : Int) - 8)) % 2).toNat) := by decide +kernel
theorem rw_t : ∀ i : Nat, i < 48 → ∀ o : Nat, o < 2 → (2 * (nI i - 30) + nI o : Int32) = nI (2 * i + o) - 60 := by decide +kernel
theorem L_bracket {d : St} {da : Nat → Int32} (hV : VS d) (hA : Rp da d.2.2) {pr : Int32} {coef : Nat → Int32} (h : pr = 0 ∨ ∀ i, i < 121 → coef i = brD d i) (v2 : Int32) (nrm : Bool) (hv : (v2 = 0 ∧ nrm = false) ∨ (v2 = 1 ∧ nrm = true)) (oe T prod b : Nat → Int32) : ∃ pr' oe' T' coef' prod' b', kL_bracket 64 v2 (nI d.1) (nI d.2.1) da pr oe T coef prod b = some (pr', oe', T', coef', prod', b') ∧ (pr' = 0 ∨ ∀ i, i < 121 → coef' i = brD d i) ∧ (∀ k, 12 ≤ k → k < 48 → b' k = rwD d nrm k) ∧ b' 60 = nI (odD d nrm) := by
  have hc := hV.1
  have key : ∀ t1 : Int32, ((nI d.1 + t1) &&& 1 : Int32) = nI (odD d nrm) → ∃ pr' oe' T' coef' prod' b', kL_bracket_J1 64 (nI d.1) v2 (nI d.1) (nI d.2.1) da pr oe T coef prod b t1 = some (pr', oe', T', coef', prod', b') ∧ (pr' = 0 ∨ ∀ i, i < 121 → coef' i = brD d i) ∧ (∀ k, 12 ≤ k → k < 48 → b' k = rwD d nrm k) ∧ b' 60 = nI (odD d nrm) := fun t1 ht => by
    have ol := (odD_eq d nrm).2
    unfold kL_bracket_J1
    refine it7_inv (F := kL_bracket_L2 64 (nI d.1) t1 v2 (nI d.1) (nI d.2.1) da) (x1 := 12) (x2 := pr) (x3 := oe) (x4 := T) (x5 := coef) (x6 := prod) (x7 := b) (n := 400) (fun i x1 x2 x3 x4 x5 x6 x7 => x1 = nI (12 + i) ∧ (x2 = 0 ∨ ∀ j, j < 121 → x5 j = brD d j) ∧ ∀ k, 12 ≤ k → k < 12 + i → x7 k = rwD d nrm k) (fun r => ∃ pr' oe' T' coef' prod' b', r = some (pr', oe', T', coef', prod', b') ∧ (pr' = 0 ∨ ∀ i, i < 121 → coef' i = brD d i) ∧ (∀ k, 12 ≤ k → k < 48 → b' k = rwD d nrm k) ∧ b' 60 = nI (odD d nrm)) 36 (fun K i x1 x2 x3 x4 x5 x6 x7 hi hI => ?_) (fun K x1 x2 x3 x4 x5 x6 x7 hI => ?_) ⟨rfl, h, fun k h1 h2 => absurd h1 (by omega)⟩ (by omega)
    · obtain ⟨rfl, g, hb⟩ := hI
      have nxt : ∀ r : Int32, r = rwD d nrm (12 + i) → ∀ k, 12 ≤ k → k < 12 + (i + 1) → upd x7 (12 + i) r k = rwD d nrm k := fun r hr k k1 k2 => by
        by_cases q : k = 12 + i
        · subst q; rw [pk_us]; exact hr
        · rw [pk_un q]; exact hb k k1 (by omega)
      unfold kL_bracket_L2
      rw [if_neg (by rw [fa_lit 48]; exact nI_ge (by omega) (by omega)), ht, rw_t (12 + i) (by omega) _ ol, nI_1]
      rcases hv with ⟨rfl, rfl⟩ | ⟨rfl, rfl⟩
      · obtain ⟨pr', oe', T', cf', pd', g1, g2⟩ := o_coefficient hV hA g (j := 2 * (12 + i) + odD d false) (by omega) x3 x4 x6
        rw [if_pos rfl, g1, bnd6_e, ck_nI (by omega) (by omega), nI_clamp (by omega)]
        exact ⟨_, _, _, _, _, _, _, rfl, rfl, Or.inr g2, nxt _ rfl⟩
      · obtain ⟨pr', oe', T', cf', pd', g1, g2⟩ := o_normalized hV hA g (j := 2 * (12 + i) + odD d true) (by omega) x3 x4 x6
        rw [if_neg n10, g1, bnd6_e, ck_nI (by omega) (by omega), nI_clamp (by omega)]
        exact ⟨_, _, _, _, _, _, _, rfl, rfl, Or.inr g2, nxt _ rfl⟩
    · obtain ⟨rfl, g, hb⟩ := hI
      have c60 : ∀ (α : Type) (k : Option α), ck 60 64 k = k := fun α k => by rw [fa_lit 60]; exact ck_nI (by omega) (by omega)
      have k60 : (60 : Int32).toNatClampNeg = 60 := by decide
      unfold kL_bracket_L2
      rw [if_pos (by decide), c60, ht, k60]
      refine ⟨_, _, _, _, _, _, rfl, g, fun k k1 k2 => ?_, pk_us ..⟩
      rw [pk_un (by omega)]
      exact hb k k1 (by omega)
  unfold kL_bracket kX9_crossingCount
  rw [bnd1_e]
  obtain ⟨w1, w2⟩ := wZ_bd (bt (enD d)) d.1
  have hw1 : -(d.1 : Int) ≤ wD d := w1
  have hw2 : wD d ≤ d.1 := w2
  rcases hv with ⟨rfl, rfl⟩ | ⟨rfl, rfl⟩
  · rw [if_pos rfl]
    refine key 0 ?_
    have := od_t d.1 (by omega) 8 (by omega)
    rw [show (nI 8 - 8 : Int32) = 0 by decide] at this
    rw [this]
    unfold odD odZ
    rw [if_neg (by decide)]
    rfl
  · rw [if_neg n10, o_writhe hV hA, bnd1_e]
    refine key _ ?_
    obtain ⟨k, hk⟩ : ∃ k : Nat, wD d = (k : Int) - 8 := ⟨(wD d + 8).toNat, by omega⟩
    have k17 : k < 17 := by omega
    rw [show wrD d = nI k - 8 by rw [wrD_wD, hk, wr8 k k17], od_t d.1 (by omega) k k17]
    unfold odD odZ
    rw [if_pos rfl, hk]
theorem CS.coef {ss np dc dr : Int32} {da cells filled : Nat → Int32} {pr : Int32} {coef : Nat → Int32} {d : St} {hs : List St} {kd : Nat → Option St} (h : CS ss np dc dr da cells filled pr coef d hs kd) {pr' : Int32} {coef' : Nat → Int32} (hc : pr' = 0 ∨ ∀ i, i < 121 → coef' i = brD d i) : CS ss np dc dr da cells filled pr' coef' d hs kd := by
  obtain ⟨hV, h1, h2, hA, _, h3⟩ := h
  exact ⟨hV, h1, h2, hA, hc, h3⟩
