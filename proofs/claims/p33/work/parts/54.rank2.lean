/-! ===== both ranks are one ===== -/
def cg (p a b : Int) : Prop := ∃ k, a = b + p * k
theorem cg.rf {p a : Int} : cg p a a := ⟨0, by simp⟩
theorem cg.sy {p a b : Int} (h : cg p a b) : cg p b a := by
  obtain ⟨k, rfl⟩ := h
  exact ⟨-k, by rw [Int.mul_neg]; omega⟩
theorem cg.tr {p a b c : Int} (h1 : cg p a b) (h2 : cg p b c) : cg p a c := by
  obtain ⟨k, rfl⟩ := h1
  obtain ⟨m, rfl⟩ := h2
  exact ⟨m + k, by rw [Int.mul_add]; omega⟩
theorem cg.ad {p a b c d : Int} (h1 : cg p a b) (h2 : cg p c d) : cg p (a + c) (b + d) := by
  obtain ⟨k, rfl⟩ := h1
  obtain ⟨m, rfl⟩ := h2
  exact ⟨k + m, by rw [Int.mul_add]; omega⟩
theorem cg.su {p a b c d : Int} (h1 : cg p a b) (h2 : cg p c d) : cg p (a - c) (b - d) := by
  obtain ⟨k, rfl⟩ := h1
  obtain ⟨m, rfl⟩ := h2
  exact ⟨k - m, by rw [Int.mul_sub]; omega⟩
theorem cg.mu {p a b c d : Int} (h1 : cg p a b) (h2 : cg p c d) : cg p (a * c) (b * d) := by
  obtain ⟨k, rfl⟩ := h1
  obtain ⟨m, rfl⟩ := h2
  refine ⟨b * m + k * d + k * (p * m), ?_⟩
  rw [Int.add_mul, Int.mul_add, Int.mul_add, Int.mul_add, Int.mul_add]
  have e1 : b * (p * m) = p * (b * m) := by ac_rfl
  have e2 : p * k * d = p * (k * d) := by ac_rfl
  have e3 : p * k * (p * m) = p * (k * (p * m)) := by ac_rfl
  rw [e1, e2, e3]
  omega
theorem cg.md (p a : Nat) : cg p ((a % p : Nat) : Int) (a : Int) := by
  refine ⟨-((a / p : Nat) : Int), ?_⟩
  have := Nat.mod_add_div a p
  have e : (a : Int) = ((a % p : Nat) : Int) + (p : Int) * ((a / p : Nat) : Int) := by
    rw [← Int.natCast_mul, ← Int.natCast_add, this]
  rw [Int.mul_neg]
  omega
theorem nz_tab : ∀ p, p = 3 ∨ p = 5 ∨ p = 7 ∨ p = 11 → ∀ a, a < p → ∀ b, b < p → a ≠ 0 → b ≠ 0 → a * b % p ≠ 0 := by
  intro p hp
  rcases hp with rfl | rfl | rfl | rfl <;> decide +kernel
def Sc (p : Nat) (C M : Nat → Nat) (s : Nat → Nat) : Prop := ∀ r, r < 8 → (0 < s r ∧ s r < p) ∧ ∀ k, k < 17 → cg p (C (17 * r + k)) ((s r : Int) * M (17 * r + k))
def BdM (p : Nat) (M : Nat → Nat) : Prop := ∀ j, j < 136 → M j < p
theorem Sc.zero {p : Nat} (hp : isP p) {C M s : Nat → Nat} (h : Sc p C M s) (hC : BdM p C) (hM : BdM p M) {r k : Nat} (hr : r < 8) (hk : k < 17) : C (17 * r + k) = 0 ↔ M (17 * r + k) = 0 := by
  obtain ⟨⟨s1, s2⟩, h2⟩ := h r hr
  obtain ⟨q, hq⟩ := h2 k hk
  have c1 := hC (17 * r + k) (by omega)
  have m1 := hM (17 * r + k) (by omega)
  constructor
  · intro z
    refine Classical.byContradiction (fun hne => ?_)
    refine nz_tab p hp _ s2 _ m1 (by omega) hne ?_
    have e : ((s r * M (17 * r + k) : Nat) : Int) = (p : Int) * (-q) := by
      rw [Int.natCast_mul, Int.mul_neg]
      rw [z] at hq
      have hq : (0 : Int) = (s r : Int) * M (17 * r + k) + p * q := hq
      omega
    have : (((s r * M (17 * r + k)) % p : Nat) : Int) = 0 := by
      rw [Int.natCast_emod, e]
      exact Int.mul_emod_right _ _
    omega
  · intro z
    rw [z] at hq
    have hq : (C (17 * r + k) : Int) = p * q := by simpa using hq
    rcases hp with rfl | rfl | rfl | rfl <;> omega
theorem Sc.swap {p : Nat} {C M s : Nat → Nat} (h : Sc p C M s) {a b : Nat} (ha : a < 8) (hb : b < 8) : Sc p (swp C a b) (swp M a b) (fun r => if r = a then s b else if r = b then s a else s r) := by
  intro r hr
  have d1 : ∀ k, k < 17 → (17 * r + k) / 17 = r := fun k hk => by omega
  have d2 : ∀ k, k < 17 → (17 * r + k) % 17 = k := fun k hk => by omega
  by_cases q1 : r = a
  · simp only [if_pos q1]
    refine ⟨(h b hb).1, fun k hk => ?_⟩
    unfold swp
    rw [d1 k hk, d2 k hk, if_pos q1, if_pos q1]
    exact (h b hb).2 k hk
  · by_cases q2 : r = b
    · simp only [if_neg q1, if_pos q2]
      refine ⟨(h a ha).1, fun k hk => ?_⟩
      unfold swp
      rw [d1 k hk, d2 k hk, if_neg q1, if_neg q1, if_pos q2, if_pos q2]
      exact (h a ha).2 k hk
    · simp only [if_neg q1, if_neg q2]
      refine ⟨(h r hr).1, fun k hk => ?_⟩
      unfold swp
      rw [d1 k hk, if_neg q1, if_neg q1, if_neg q2, if_neg q2]
      exact (h r hr).2 k hk
theorem swp_bd {p : Nat} {M : Nat → Nat} (h : BdM p M) {a b : Nat} (ha : a < 8) (hb : b < 8) : BdM p (swp M a b) := fun j hj => by
  unfold swp
  by_cases q : j / 17 = a
  · rw [if_pos q]; exact h _ (by omega)
  · rw [if_neg q]
    by_cases z : j / 17 = b
    · rw [if_pos z]; exact h _ (by omega)
    · rw [if_neg z]; exact h _ hj
theorem mix_bd {p : Nat} {A B : Nat → Nat} (hA : ∀ j, A j < p) (hB : BdM p B) (r c : Nat) : BdM p (mix A B r c 0) := fun j hj => by
  unfold mix
  by_cases q : r < j / 17 ∧ (j / 17 < c ∨ (j / 17 = c ∧ j % 17 < 0))
  · rw [if_pos q]; exact hA j
  · rw [if_neg q]; exact hB j hj
theorem ring1 (a b m0 mj mw m0j : Int) : (a * m0) * (b * mj) - (b * mw) * (a * m0j) = a * b * (m0 * mj) - a * b * (mw * m0j) := by
  congr 1 <;> ac_rfl
theorem Sc.clear {p : Nat} (hp : isP p) {C M s : Nat → Nat} (h : Sc p C M s) (hM : BdM p M) {r k c : Nat} (hr : r < c) (hc : c ≤ 8) (hk : k < 17) (hv : M (17 * r + k) ≠ 0) : Sc p (mix (ncC p r k C) C r c 0) (mix (ncM p r k M) M r c 0) (fun w => if r < w ∧ w < c then (s r * s w * M (17 * r + k)) % p else s w) := by
  have hb := isP_lt hp
  have m0 := hM (17 * r + k) (by omega)
  have hi := inv_tab p hp _ m0 hv
  have hr0 := h r (by omega)
  intro w hw
  have hw0 := h w hw
  have d1 : ∀ t, t < 17 → (17 * w + t) / 17 = w := fun t ht => by omega
  have d2 : ∀ t, t < 17 → (17 * w + t) % 17 = t := fun t ht => by omega
  by_cases q : r < w ∧ w < c
  · simp only [if_pos q]
    refine ⟨⟨?_, Nat.mod_lt _ (by omega)⟩, fun t ht => ?_⟩
    · have n1 := nz_tab p hp (s r) hr0.1.2 (s w) hw0.1.2 (by omega) (by omega)
      have n2 := nz_tab p hp (s r * s w % p) (Nat.mod_lt _ (by omega)) _ m0 n1 hv
      have e : s r * s w % p * M (17 * r + k) % p = s r * s w * M (17 * r + k) % p := by rw [Nat.mod_mul_mod]
      rw [e] at n2
      omega
    · have eC : mix (ncC p r k C) C r c 0 (17 * w + t) = (C (17 * r + k) * C (17 * w + t) + (p - 1) * (C (17 * w + k) * C (17 * r + t))) % p := by
        unfold mix
        rw [d1 t ht, if_pos ⟨q.1, Or.inl q.2⟩]
        unfold ncC
        rw [d1 t ht, d2 t ht]
      have eM : mix (ncM p r k M) M r c 0 (17 * w + t) = (M (17 * w + t) + (p - ((M (17 * w + k) * ivt p (M (17 * r + k))) % p * M (17 * r + t)) % p)) % p := by
        unfold mix
        rw [d1 t ht, if_pos ⟨q.1, Or.inl q.2⟩]
        unfold ncM
        rw [d1 t ht, d2 t ht]
      rw [eC, eM]
      -- the class's number
      have c1 : cg p ((C (17 * r + k) * C (17 * w + t) + (p - 1) * (C (17 * w + k) * C (17 * r + t)) : Nat) : Int) ((C (17 * r + k) : Int) * C (17 * w + t) - (C (17 * w + k) : Int) * C (17 * r + t)) := by
        refine ⟨(C (17 * w + k) : Int) * C (17 * r + t), ?_⟩
        rw [Int.natCast_add, Int.natCast_mul, Int.natCast_mul (p - 1), Int.natCast_mul, show ((p - 1 : Nat) : Int) = (p : Int) - 1 by omega, Int.sub_mul, Int.one_mul]
        omega
      have c2 := (cg.md p (C (17 * r + k) * C (17 * w + t) + (p - 1) * (C (17 * w + k) * C (17 * r + t)))).tr c1
      have c3 := c2.tr (((hr0.2 k hk).mu (hw0.2 t ht)).su ((hw0.2 k hk).mu (hr0.2 t ht)))
      rw [ring1] at c3
      -- the reference's
      have f1 : cg p (((M (17 * w + k) * ivt p (M (17 * r + k))) % p * M (17 * r + t) % p : Nat) : Int) ((M (17 * w + k) : Int) * ivt p (M (17 * r + k)) * M (17 * r + t)) := by
        refine (cg.md p _).tr ?_
        rw [Int.natCast_mul]
        refine cg.mu ?_ cg.rf
        refine (cg.md p _).tr ?_
        rw [Int.natCast_mul]
        exact cg.rf
      have lt1 : (M (17 * w + k) * ivt p (M (17 * r + k))) % p * M (17 * r + t) % p < p := Nat.mod_lt _ (by omega)
      have f2 : cg p ((M (17 * w + t) + (p - ((M (17 * w + k) * ivt p (M (17 * r + k))) % p * M (17 * r + t)) % p) : Nat) : Int) ((M (17 * w + t) : Int) - (((M (17 * w + k) * ivt p (M (17 * r + k))) % p * M (17 * r + t) % p : Nat) : Int)) := by
        refine ⟨1, ?_⟩
        omega
      have f3 := ((cg.md p _).tr f2).tr (cg.su cg.rf f1)
      have f4 : cg p ((s r * s w * M (17 * r + k) % p : Nat) : Int) ((s r : Int) * s w * M (17 * r + k)) := by
        refine (cg.md p _).tr ?_
        rw [Int.natCast_mul, Int.natCast_mul]
        exact cg.rf
      have f5 := f4.mu f3
      refine c3.tr (cg.sy (f5.tr ?_))
      have g1 : cg p ((M (17 * r + k) : Int) * ivt p (M (17 * r + k))) 1 := by
        have e := cg.md p (M (17 * r + k) * ivt p (M (17 * r + k)))
        rw [hi.2.2, Int.natCast_mul] at e
        exact e.sy
      have e1 : (s r : Int) * s w * M (17 * r + k) * ((M (17 * w + t) : Int) - (M (17 * w + k) : Int) * ivt p (M (17 * r + k)) * M (17 * r + t)) = (s r : Int) * s w * ((M (17 * r + k) : Int) * M (17 * w + t)) - (s r : Int) * s w * ((M (17 * w + k) : Int) * M (17 * r + t)) * ((M (17 * r + k) : Int) * ivt p (M (17 * r + k))) := by
        rw [Int.mul_sub]
        congr 1 <;> ac_rfl
      rw [e1]
      refine cg.su cg.rf ?_
      have e2 := cg.mu (cg.rf (p := (p : Int)) (a := (s r : Int) * s w * ((M (17 * w + k) : Int) * M (17 * r + t)))) g1
      rw [Int.mul_one] at e2
      exact e2
  · simp only [if_neg q]
    refine ⟨hw0.1, fun t ht => ?_⟩
    have e1 : ∀ A B : Nat → Nat, mix A B r c 0 (17 * w + t) = B (17 * w + t) := fun A B => by
      unfold mix
      rw [d1 t ht, if_neg (by omega)]
    rw [e1, e1]
    exact hw0.2 t ht
/-! the pivot -/
def pvt (M : Nat → Nat) (k : Nat) : Nat → Nat → Nat
  | 0, row => row
  | n + 1, row => if M (17 * row + k) = 0 then pvt M k n (row + 1) else row
theorem pvt_spec (M : Nat → Nat) (k : Nat) : ∀ n row, row ≤ pvt M k n row ∧ pvt M k n row ≤ row + n ∧ (∀ t, row ≤ t → t < pvt M k n row → M (17 * t + k) = 0) ∧ (pvt M k n row < row + n → M (17 * pvt M k n row + k) ≠ 0)
  | 0, row => ⟨Nat.le_refl _, Nat.le_refl _, fun t h1 h2 => absurd h2 (Nat.not_lt.mpr h1), fun h => absurd h (Nat.lt_irrefl _)⟩
  | n + 1, row => by
    obtain ⟨h1, h2, h3, h4⟩ := pvt_spec M k n (row + 1)
    by_cases q : M (17 * row + k) = 0
    · have e : pvt M k (n + 1) row = pvt M k n (row + 1) := if_pos q
      rw [e]
      refine ⟨by omega, by omega, fun t g1 g2 => ?_, fun g => h4 (by omega)⟩
      by_cases z : t = row
      · rw [z]; exact q
      · exact h3 t (by omega) g2
    · have e : pvt M k (n + 1) row = row := if_neg q
      rw [e]
      exact ⟨Nat.le_refl _, by omega, fun t g1 g2 => absurd g2 (Nat.not_lt.mpr g1), fun _ => q⟩
def gst (p c k : Nat) (x : Nat × (Nat → Nat)) : Nat × (Nat → Nat) := if pvt x.2 k (c - x.1) x.1 < c then (x.1 + 1, mix (ncM p x.1 k (swp x.2 x.1 (pvt x.2 k (c - x.1) x.1))) (swp x.2 x.1 (pvt x.2 k (c - x.1) x.1)) x.1 c 0) else x
def gMs (p c : Nat) (M : Nat → Nat) : Nat → Nat × (Nat → Nat)
  | 0 => (0, M)
  | i + 1 => gst p c (1 + i) (gMs p c M i)
theorem ncM_lt {p : Nat} (hp : 0 < p) (r k : Nat) (M : Nat → Nat) (j : Nat) : ncM p r k M j < p := Nat.mod_lt _ hp
theorem ncC_lt {p : Nat} (hp : 0 < p) (r k : Nat) (M : Nat → Nat) (j : Nat) : ncC p r k M j < p := Nat.mod_lt _ hp
theorem gst_ok {p c k : Nat} (hp : isP p) (hc : c ≤ 8) (x : Nat × (Nat → Nat)) (h1 : x.1 ≤ c) (h2 : BdM p x.2) : (gst p c k x).1 ≤ c ∧ BdM p (gst p c k x).2 := by
  have hb := isP_lt hp
  obtain ⟨g1, g2, g3, g4⟩ := pvt_spec x.2 k (c - x.1) x.1
  unfold gst
  by_cases q : pvt x.2 k (c - x.1) x.1 < c
  · rw [if_pos q]
    exact ⟨by show x.1 + 1 ≤ c; omega, mix_bd (ncM_lt (by omega) _ _ _) (swp_bd h2 (by omega) (by omega)) _ _⟩
  · rw [if_neg q]
    exact ⟨h1, h2⟩
theorem gMs_ok {p c : Nat} (hp : isP p) (hc : c ≤ 8) {M : Nat → Nat} (h : BdM p M) : ∀ i, (gMs p c M i).1 ≤ c ∧ BdM p (gMs p c M i).2
  | 0 => ⟨Nat.zero_le _, h⟩
  | i + 1 => by
    obtain ⟨h1, h2⟩ := gMs_ok hp hc h i
    exact gst_ok hp hc _ h1 h2
theorem q_pivot {p : Nat} {cells : Nat → Int32} {C : Nat → Nat} (hC : Mx p cells C) (hp : isP p) {c r k q : Nat} (hc : c ≤ 8) (hk : k < 17) (hr : r ≤ q) (hq : q ≤ c) (hz : ∀ t, r ≤ t → t < q → C (17 * t + k) = 0) : (q < c → C (17 * q + k) ≠ 0 → kX1_pivotRow (nI r) (nI c) (nI k) cells = some (nI q)) ∧ (q = c → kX1_pivotRow (nI r) (nI c) (nI k) cells = some (-1)) := by
  have hb := isP_lt hp
  have step : ∀ (K : Int32 → Option Int32) i, i < q - r → kX1_pivotRow_L1 (nI c) (nI k) cells K (nI (r + i)) = K (nI (r + (i + 1))) := fun K i hi => by
    unfold kX1_pivotRow_L1
    rw [if_neg (nI_ge (by omega) (by omega)), q_cell hC (by omega) hk, bnd1_e, hz (r + i) (by omega) (by omega), if_pos nI_0, nI_1]
    rfl
  constructor
  · intro h1 h2
    unfold kX1_pivotRow
    refine it1_run (fun i => nI (r + i)) (q - r) (fun K i hi => step K i hi) (fun K => ?_) rfl (by omega)
    have e : r + (q - r) = q := by omega
    have lq := (hC (17 * q + k) (by omega)).2
    rw [e]
    unfold kX1_pivotRow_L1
    rw [if_neg (nI_ge (by omega) (by omega)), q_cell hC (by omega) hk, bnd1_e, if_neg (nI_ne0 (by omega) (by omega))]
  · intro h1
    unfold kX1_pivotRow
    refine it1_run (fun i => nI (r + i)) (q - r) (fun K i hi => step K i hi) (fun K => ?_) rfl (by omega)
    have e : r + (q - r) = c := by omega
    rw [e]
    unfold kX1_pivotRow_L1
    rw [if_pos (nI_le (Nat.le_refl _) (by omega))]
theorem q_rank {p : Nat} (hp : isP p) {cells : Nat → Int32} {M : Nat → Nat} (hM : Mx p cells M) {c : Nat} (hc : c ≤ 8) : ∃ c', kX1_rank (nI c) (nI p) cells = some (nI (gMs p c M 16).1, c') := by
  have hb := isP_lt hp
  have hBM : BdM p M := fun j hj => (hM j hj).2
  unfold kX1_rank
  refine it3_inv (F := kX1_rank_L1 (nI c) (nI p)) (x1 := 0) (x2 := 1) (x3 := cells) (n := 400) (fun i x y z => x = nI (gMs p c M i).1 ∧ y = nI (1 + i) ∧ ∃ C s, Mx p z C ∧ Sc p C (gMs p c M i).2 s) (fun r => ∃ c', r = some (nI (gMs p c M 16).1, c')) 16 (fun K i x y z hi hI => ?_) (fun K x y z hI => ?_) ⟨rfl, rfl, M, fun _ => 1, hM, fun r hr => ⟨⟨show 0 < 1 by omega, show 1 < p by omega⟩, fun k hk => by rw [Int.natCast_one, Int.one_mul]; exact cg.rf⟩⟩ (by omega)
  · obtain ⟨rfl, rfl, C, s, hC, hS⟩ := hI
    obtain ⟨g1, g2⟩ := gMs_ok hp hc hBM i (c := c)
    have hBC : BdM p C := fun j hj => (hC j hj).2
    generalize hx : gMs p c M i = x at g1 g2 hS
    have e16 : gMs p c M (i + 1) = gst p c (1 + i) x := by rw [← hx]; rfl
    obtain ⟨p1, p2', p3, p4⟩ := pvt_spec x.2 (1 + i) (c - x.1) x.1
    have zC : ∀ t, x.1 ≤ t → t < pvt x.2 (1 + i) (c - x.1) x.1 → C (17 * t + (1 + i)) = 0 := fun t h1 h2 => (hS.zero hp hBC g2 (by omega) (by omega)).mpr (p3 t h1 h2)
    have piv := q_pivot hC hp hc (show 1 + i < 17 by omega) p1 (by omega) zC
    have e5 : 1 + (i + 1) = 1 + i + 1 := by omega
    rw [e16, e5]
    unfold kX1_rank_L1
    rw [if_neg (by rw [fa_lit 16]; exact nI_nlt (by omega) (by omega))]
    by_cases q : pvt x.2 (1 + i) (c - x.1) x.1 < c
    · have nM := p4 (by omega)
      have nC : C (17 * pvt x.2 (1 + i) (c - x.1) x.1 + (1 + i)) ≠ 0 := fun z => nM ((hS.zero hp hBC g2 (by omega) (by omega)).mp z)
      obtain ⟨c1, e1, f1⟩ := q_exch hp hC (show x.1 < 8 by omega) (show pvt x.2 (1 + i) (c - x.1) x.1 < 8 by omega)
      obtain ⟨c2, e2, f2⟩ := q_clear1 hp f1 hc (show x.1 < c by omega) (show 1 + i < 17 by omega)
      have s1 := hS.swap (show x.1 < 8 by omega) (show pvt x.2 (1 + i) (c - x.1) x.1 < 8 by omega)
      have ev : swp x.2 x.1 (pvt x.2 (1 + i) (c - x.1) x.1) (17 * x.1 + (1 + i)) ≠ 0 := by
        unfold swp
        rw [if_pos (by omega), show (17 * x.1 + (1 + i)) % 17 = 1 + i by omega]
        exact nM
      have s2 := s1.clear hp (swp_bd g2 (by omega) (by omega)) (show x.1 < c by omega) hc (show 1 + i < 17 by omega) ev
      have e7 : gst p c (1 + i) x = (x.1 + 1, mix (ncM p x.1 (1 + i) (swp x.2 x.1 (pvt x.2 (1 + i) (c - x.1) x.1))) (swp x.2 x.1 (pvt x.2 (1 + i) (c - x.1) x.1)) x.1 c 0) := if_pos q
      rw [e7]
      refine ⟨nI (x.1 + 1), nI (1 + i + 1), c2, ?_, rfl, rfl, _, _, f2, s2⟩
      rw [piv.1 q nC, bnd1_e, if_neg (nI_pos (by omega)), e1, bnd1_e, e2, bnd1_e, nI_1, nI_1]
    · have e7 : gst p c (1 + i) x = x := if_neg q
      rw [e7]
      refine ⟨nI x.1, nI (1 + i + 1), z, ?_, rfl, rfl, C, s, hC, hS⟩
      rw [piv.2 (by omega), bnd1_e, if_pos (by decide), nI_1]
  · obtain ⟨rfl, rfl, C, s, hC, hS⟩ := hI
    refine ⟨z, ?_⟩
    unfold kX1_rank_L1
    rw [if_pos (by decide)]
theorem gMs_full {p c : Nat} {M : Nat → Nat} {i : Nat} (h : (gMs p c M i).1 = c) : ∀ n, (gMs p c M (i + n)).1 = c
  | 0 => h
  | n + 1 => by
    have ih := gMs_full h n
    show (gst p c (1 + (i + n)) (gMs p c M (i + n))).1 = c
    have hp := (pvt_spec (gMs p c M (i + n)).2 (1 + (i + n)) (c - (gMs p c M (i + n)).1) (gMs p c M (i + n)).1).1
    unfold gst
    rw [if_neg (by omega)]
    exact ih
theorem q_dimension {p : Nat} (hp : isP p) {a cl cells : Nat → Int32} {c o : Nat} {f : Nat → Nat} (hA : Rp a f) (hV : Vd c o f) : ∃ cl' c', kX1_dimension (nI p) cl cells (nI c) (nI o) a = some (nI (fb_ct (fun n => occB f n (4 * c) && (lbC f c n == n)) 17) + nI o - nI (gMs p c (eqM p f (lbC f c) c) 16).1, cl', c') := by
  obtain ⟨cl', e1, g1⟩ := q_uniteAll (cl := cl) hA hV
  obtain ⟨c1, e2, g2⟩ := q_equations (cells := cells) hp hA hV g1 (lbC_le f c)
  obtain ⟨c2, e3⟩ := q_rank hp g2 hV.1
  refine ⟨cl', c2, ?_⟩
  unfold kX1_dimension
  rw [e1, bnd1_e, e2, bnd1_e, q_countClasses hA hV g1 (lbC_le f c), bnd1_e, e3, bnd2_e]
