/-! ===== how many functions ===== -/
/-- the functions S are just n -/
def HC (S : (Nat → Nat) → Prop) (n : Nat) : Prop := ∃ g : Nat → Nat → Nat, (∀ i, i < n → S (g i)) ∧ (∀ i j, i < n → j < n → g i = g j → i = j) ∧ ∀ x, S x → ∃ i, i < n ∧ g i = x
theorem HC.bij {S T : (Nat → Nat) → Prop} {n : Nat} (h : HC S n) (F : (Nat → Nat) → Nat → Nat) (h1 : ∀ x, S x → T (F x)) (h2 : ∀ x y, S x → S y → F x = F y → x = y) (h3 : ∀ y, T y → ∃ x, S x ∧ F x = y) : HC T n := by
  obtain ⟨g, a, b, d⟩ := h
  refine ⟨fun i => F (g i), fun i hi => h1 _ (a i hi), fun i j hi hj e => b i j hi hj (h2 _ _ (a i hi) (a j hj) e), fun y hy => ?_⟩
  obtain ⟨x, hx, rfl⟩ := h3 y hy
  obtain ⟨i, hi, rfl⟩ := d x hx
  exact ⟨i, hi, rfl⟩
theorem HC.mul {S T : (Nat → Nat) → Prop} {n p : Nat} (hp : 0 < p) (h : HC S n) (F : (Nat → Nat) → Nat → Nat → Nat) (h1 : ∀ x t, S x → t < p → T (F x t)) (h2 : ∀ x y t u, S x → S y → t < p → u < p → F x t = F y u → x = y ∧ t = u) (h3 : ∀ y, T y → ∃ x t, S x ∧ t < p ∧ F x t = y) : HC T (n * p) := by
  obtain ⟨g, a, b, d⟩ := h
  have dv : ∀ i, i < n * p → i / p < n := fun i hi => Nat.div_lt_of_lt_mul (by rw [Nat.mul_comm]; exact hi)
  refine ⟨fun i => F (g (i / p)) (i % p), fun i hi => h1 _ _ (a _ (dv i hi)) (Nat.mod_lt _ hp), fun i j hi hj e => ?_, fun y hy => ?_⟩
  · obtain ⟨e1, e2⟩ := h2 _ _ _ _ (a _ (dv i hi)) (a _ (dv j hj)) (Nat.mod_lt _ hp) (Nat.mod_lt _ hp) e
    have e3 := b _ _ (dv i hi) (dv j hj) e1
    rw [← Nat.div_add_mod i p, ← Nat.div_add_mod j p, e3, e2]
  · obtain ⟨x, t, hx, ht, rfl⟩ := h3 y hy
    obtain ⟨i, hi, rfl⟩ := d x hx
    refine ⟨i * p + t, ?_, ?_⟩
    · have : (i + 1) * p ≤ n * p := Nat.mul_le_mul_right p hi
      rw [Nat.succ_mul] at this
      omega
    · show F (g ((i * p + t) / p)) ((i * p + t) % p) = F (g i) t
      rw [Nat.add_comm, Nat.add_mul_div_right _ _ hp, Nat.div_eq_of_lt ht, Nat.zero_add, Nat.add_mul_mod_self_right, Nat.mod_eq_of_lt ht]
theorem HC.le {S T : (Nat → Nat) → Prop} {n m : Nat} (h : HC S n) (k : HC T m) (F : (Nat → Nat) → Nat → Nat) (h1 : ∀ x, S x → T (F x)) (h2 : ∀ x y, S x → S y → F x = F y → x = y) : n ≤ m := by
  obtain ⟨g, a, b, d⟩ := h
  obtain ⟨g', a', b', d'⟩ := k
  have hc : ∃ r : Nat → Nat, ∀ i, i < n → r i < m ∧ g' (r i) = F (g i) := ⟨fun i => Classical.epsilon (fun j => j < m ∧ g' j = F (g i)), fun i hi => Classical.epsilon_spec (d' _ (h1 _ (a i hi)))⟩
  obtain ⟨r, hr⟩ := hc
  refine fb_holes m n r (fun i hi => (hr i hi).1) (fun i j hij hj e => ?_)
  have e1 := (hr i (by omega)).2
  have e2 := (hr j hj).2
  rw [e] at e1
  have := b i j (by omega) hj (h2 _ _ (a i (by omega)) (a j hj) (e1.symm.trans e2))
  omega
theorem HC.uniq {S : (Nat → Nat) → Prop} {n m : Nat} (h : HC S n) (k : HC S m) : n = m :=
  Nat.le_antisymm (h.le k (fun x => x) (fun _ h => h) (fun _ _ _ _ e => e)) (k.le h (fun x => x) (fun _ h => h) (fun _ _ _ _ e => e))
theorem HC.congr {S T : (Nat → Nat) → Prop} {n : Nat} (h : HC S n) (e : ∀ x, S x ↔ T x) : HC T n :=
  h.bij (fun x => x) (fun x hx => (e x).mp hx) (fun _ _ _ _ e => e) (fun y hy => ⟨y, (e y).mpr hy, rfl⟩)
/-! ===== solutions of the rows ===== -/
/-- the row w at x -/
def rs (M : Nat → Nat) (w : Nat) (x : Nat → Nat) : Nat := fb_sm (fun j => M (17 * w + j) * x j) 17
/-- x lives on the columns K from k on, below p, and solves the rows r .. c - 1 -/
def SolK (p : Nat) (K : Nat → Bool) (M : Nat → Nat) (r c k : Nat) (x : Nat → Nat) : Prop := (∀ j, (j < k ∨ 17 ≤ j ∨ K j = false) → x j = 0) ∧ (∀ j, x j < p) ∧ ∀ w, r ≤ w → w < c → cg p (rs M w x) 0
theorem cg_nat {p a b : Nat} (h : cg p (a : Int) (b : Int)) (ha : a < p) (hb : b < p) : a = b := by
  obtain ⟨k, hk⟩ := h
  rcases Int.lt_trichotomy k 0 with q | q | q
  · have : (p : Int) * k ≤ (p : Int) * (-1) := Int.mul_le_mul_of_nonneg_left (by omega) (by omega)
    omega
  · subst q; omega
  · have : (p : Int) * 1 ≤ (p : Int) * k := Int.mul_le_mul_of_nonneg_left (by omega) (by omega)
    omega
theorem rs_upd (M : Nat → Nat) (w : Nat) (x : Nat → Nat) {k v : Nat} (hk : k < 17) (h0 : x k = 0) : rs M w (fun j => if j = k then v else x j) = rs M w x + M (17 * w + k) * v := by
  unfold rs
  have u := fb_sm_upd (fun j => M (17 * w + j) * x j) (M (17 * w + k) * v) hk
  rw [h0, Nat.mul_zero, Nat.add_zero] at u
  rw [← u]
  refine fb_sm_cong (fun j _ => ?_)
  show M (17 * w + j) * (if j = k then v else x j) = (if j = k then M (17 * w + k) * v else M (17 * w + j) * x j)
  by_cases q : j = k
  · rw [if_pos q, if_pos q, q]
  · rw [if_neg q, if_neg q]
/-- a row less a multiple of another -/
theorem rs_lin {p : Nat} (N M : Nat → Nat) {w r : Nat} {t : Int} (x : Nat → Nat) : ∀ n, (∀ j, j < n → cg p (N (17 * w + j)) ((M (17 * w + j) : Int) - t * M (17 * r + j))) → cg p (fb_sm (fun j => N (17 * w + j) * x j) n) ((fb_sm (fun j => M (17 * w + j) * x j) n : Int) - t * fb_sm (fun j => M (17 * r + j) * x j) n)
  | 0, _ => ⟨0, by show ((0 : Nat) : Int) = ((0 : Nat) : Int) - t * ((0 : Nat) : Int) + p * 0; simp⟩
  | n + 1, h => by
    have ih := rs_lin (p := p) N M (w := w) (r := r) (t := t) x n (fun j hj => h j (by omega))
    have s := (h n (by omega)).mu (cg.rf (p := p) (a := (x n : Int)))
    have a := ih.ad s
    rw [fb_sm_succ, fb_sm_succ, fb_sm_succ]
    rw [Int.natCast_add, Int.natCast_add, Int.natCast_add, Int.natCast_mul, Int.natCast_mul, Int.natCast_mul]
    obtain ⟨q, hq⟩ := a
    refine ⟨q, ?_⟩
    rw [hq, Int.sub_mul, Int.mul_add, Int.mul_assoc]
    omega
theorem SolK.swap {p : Nat} {K : Nat → Bool} {M : Nat → Nat} {r c k q : Nat} (hr : r ≤ q) (hq : q < c) (x : Nat → Nat) : SolK p K (swp M r q) r c k x ↔ SolK p K M r c k x := by
  have row : ∀ w, rs (swp M r q) w x = rs M (if w = r then q else if w = q then r else w) x := fun w => by
    unfold rs
    refine fb_sm_cong (fun j hj => ?_)
    congr 1
    unfold swp
    have e1 : (17 * w + j) / 17 = w := by omega
    have e2 : (17 * w + j) % 17 = j := by omega
    rw [e1, e2]
    by_cases z : w = r
    · rw [if_pos z, if_pos z]
    · rw [if_neg z, if_neg z]
      by_cases y : w = q
      · rw [if_pos y, if_pos y]
      · rw [if_neg y, if_neg y]
  constructor
  · rintro ⟨a, b, d⟩
    refine ⟨a, b, fun w h1 h2 => ?_⟩
    by_cases z : w = q
    · have := d r (Nat.le_refl _) (by omega)
      rw [row, if_pos rfl] at this
      rw [z]; exact this
    · by_cases y : w = r
      · have := d q hr hq
        rw [row] at this
        by_cases e : q = r
        · omega
        · rw [if_neg e, if_pos rfl] at this
          rw [y]; exact this
      · have := d w h1 h2
        rw [row, if_neg y, if_neg z] at this
        exact this
  · rintro ⟨a, b, d⟩
    refine ⟨a, b, fun w h1 h2 => ?_⟩
    rw [row]
    by_cases y : w = r
    · rw [if_pos y]; exact d q hr hq
    · rw [if_neg y]
      by_cases z : w = q
      · rw [if_pos z]; exact d r (Nat.le_refl _) (by omega)
      · rw [if_neg z]; exact d w h1 h2
/-- one step with a pivot at the row r: as many solutions of what is left -/
theorem sol_pivot {p : Nat} (hp : isP p) {K : Nat → Bool} {S : Nat → Nat} {r c k n : Nat} (hk : k < 17) (hK : K k = true) (hr : r < c) (hc : c ≤ 8) (hB : BdM p S) (hv : S (17 * r + k) ≠ 0) (h : HC (SolK p K (mix (ncM p r k S) S r c 0) (r + 1) c (k + 1)) n) : HC (SolK p K S r c k) n := by
  have hp0 := (isP_lt hp).1
  have hiv := (inv_tab p hp _ (hB (17 * r + k) (by omega)) hv)
  obtain ⟨iv, hivd⟩ : ∃ iv, iv = ivt p (S (17 * r + k)) := ⟨_, rfl⟩
  rw [← hivd] at hiv
  have inv : cg p ((S (17 * r + k) : Int) * iv) 1 := by
    have := cg.md p (S (17 * r + k) * iv)
    rw [hiv.2.2] at this
    have := this.sy
    rw [Int.natCast_mul] at this
    exact this
  -- the rows below, cleared
  have low : ∀ w, r < w → w < c → ∀ x, cg p (rs (mix (ncM p r k S) S r c 0) w x) ((rs S w x : Int) - ((S (17 * w + k) : Int) * iv) * rs S r x) := fun w h1 h2 x => by
    unfold rs
    refine rs_lin _ _ x 17 (fun j hj => ?_)
    have e0 : mix (ncM p r k S) S r c 0 (17 * w + j) = ncM p r k S (17 * w + j) := by
      unfold mix
      rw [if_pos (by omega)]
    have e1 : (17 * w + j) / 17 = w := by omega
    have e2 : (17 * w + j) % 17 = j := by omega
    rw [e0]
    unfold ncM
    rw [e1, e2, ← hivd]
    obtain ⟨B, hBd⟩ : ∃ B, B = (S (17 * w + k) * iv) % p * S (17 * r + j) := ⟨_, rfl⟩
    rw [← hBd]
    have hB2 : cg p (B : Int) ((S (17 * w + k) : Int) * iv * S (17 * r + j)) := by
      rw [hBd, Int.natCast_mul]
      have := cg.md p (S (17 * w + k) * iv)
      rw [Int.natCast_mul (S (17 * w + k)) iv] at this
      exact this.mu cg.rf
    have hm : B % p < p := Nat.mod_lt _ (by omega)
    have a1 := cg.md p (S (17 * w + j) + (p - B % p))
    have a2 : cg p ((S (17 * w + j) + (p - B % p) : Nat) : Int) ((S (17 * w + j) : Int) - (B % p : Nat)) := ⟨1, by omega⟩
    exact (a1.tr a2).tr (cg.rf.su ((cg.md p B).tr hB2))
  -- the value at k that the row r asks for
  have hu : ∀ x, ∃ u, u < p ∧ cg p ((rs S r x : Int) + S (17 * r + k) * u) 0 := fun x => by
    refine ⟨(iv * (p - rs S r x % p)) % p, Nat.mod_lt _ (by omega), ?_⟩
    have hm : rs S r x % p < p := Nat.mod_lt _ (by omega)
    have a1 := cg.md p (iv * (p - rs S r x % p))
    rw [Int.natCast_mul iv] at a1
    have a2 : cg p ((p - rs S r x % p : Nat) : Int) (-(rs S r x : Int)) := by
      obtain ⟨z, hz⟩ := cg.md p (rs S r x)
      refine ⟨1 - z, ?_⟩
      rw [Int.mul_sub, Int.mul_one]
      omega
    have a3 := (cg.rf (p := p) (a := (S (17 * r + k) : Int))).mu (a1.tr ((cg.rf (p := p) (a := (iv : Int))).mu a2))
    rw [← Int.mul_assoc] at a3
    have a4 := a3.tr (inv.mu (cg.rf (p := p) (a := -(rs S r x : Int))))
    have a5 := (cg.rf (p := p) (a := (rs S r x : Int))).ad a4
    rw [Int.one_mul, Int.add_right_neg] at a5
    exact a5
  have hu1 : ∀ x u u2, u < p → u2 < p → cg p ((rs S r x : Int) + S (17 * r + k) * u) 0 → cg p ((rs S r x : Int) + S (17 * r + k) * u2) 0 → u = u2 := fun x u u2 h1 h2 g1 g2 => by
    have a := g1.su g2
    rw [show (rs S r x : Int) + S (17 * r + k) * u - ((rs S r x : Int) + S (17 * r + k) * u2) = S (17 * r + k) * ((u : Int) - u2) by rw [Int.mul_sub]; omega] at a
    have b := (cg.rf (p := p) (a := (iv : Int))).mu a
    rw [← Int.mul_assoc, Int.mul_comm (iv : Int)] at b
    have d := (inv.mu (cg.rf (p := p) (a := (u : Int) - u2))).sy.tr b
    rw [Int.one_mul, Int.sub_self, Int.mul_zero] at d
    refine cg_nat ?_ h1 h2
    obtain ⟨z, hz⟩ := d
    exact ⟨z, by omega⟩
  have hch : ∃ U : (Nat → Nat) → Nat, ∀ x, U x < p ∧ cg p ((rs S r x : Int) + S (17 * r + k) * U x) 0 := ⟨fun x => Classical.epsilon (fun u => u < p ∧ cg p ((rs S r x : Int) + S (17 * r + k) * u) 0), fun x => Classical.epsilon_spec (hu x)⟩
  obtain ⟨U, hU⟩ := hch
  have up : ∀ x, x k = 0 → ∀ w v, ((rs S w (fun j => if j = k then v else x j) : Nat) : Int) = (rs S w x : Int) + S (17 * w + k) * v := fun x h0 w v => by
    rw [rs_upd S w x hk h0, Int.natCast_add, Int.natCast_mul]
  refine h.bij (fun x => fun j => if j = k then U x else x j) (fun x hx => ?_) (fun x y hx hy e => ?_) (fun y hy => ?_)
  · obtain ⟨a, b, d⟩ := hx
    have h0 := a k (Or.inl (by omega))
    refine ⟨fun j hj => ?_, fun j => ?_, fun w h1 h2 => ?_⟩
    · show (if j = k then U x else x j) = 0
      by_cases q : j = k
      · subst q
        rcases hj with hj | hj | hj
        · omega
        · omega
        · rw [hK] at hj; cases hj
      · rw [if_neg q]; exact a j (hj.imp (fun z => by omega) (fun z => z))
    · show (if j = k then U x else x j) < p
      by_cases q : j = k
      · rw [if_pos q]; exact (hU x).1
      · rw [if_neg q]; exact b j
    · rw [up x h0]
      by_cases q : w = r
      · rw [q]; exact (hU x).2
      · have l := ((low w (by omega) h2 x).sy.tr (d w (by omega) h2))
        -- R_w = t R_r, and R_r = - S u
        have a1 := ((cg.rf (p := p) (a := (S (17 * w + k) : Int) * iv)).mu (hU x).2)
        rw [Int.mul_zero] at a1
        have a2 := l.ad a1
        have a3 : cg p ((S (17 * w + k) : Int) * iv * (S (17 * r + k) * (U x : Int))) ((S (17 * w + k) : Int) * U x) := by
          have := (cg.rf (p := p) (a := (S (17 * w + k) : Int))).mu (inv.mu (cg.rf (p := p) (a := (U x : Int))))
          rw [Int.one_mul] at this
          rw [show (S (17 * w + k) : Int) * iv * (S (17 * r + k) * (U x : Int)) = (S (17 * w + k) : Int) * ((S (17 * r + k) : Int) * iv * U x) by
            rw [Int.mul_assoc, Int.mul_comm (S (17 * r + k) : Int) iv, Int.mul_assoc]]
          exact this
        rw [Int.mul_add] at a2
        rw [show (rs S w x : Int) - (S (17 * w + k) : Int) * iv * rs S r x + ((S (17 * w + k) : Int) * iv * rs S r x + (S (17 * w + k) : Int) * iv * (S (17 * r + k) * (U x : Int))) = (rs S w x : Int) + (S (17 * w + k) : Int) * iv * (S (17 * r + k) * (U x : Int)) by omega] at a2
        exact ((cg.rf (p := p) (a := (rs S w x : Int))).ad a3).sy.tr a2
  · have hxk := hx.1 k (Or.inl (by omega))
    have hyk := hy.1 k (Or.inl (by omega))
    funext j
    by_cases q : j = k
    · rw [q, hxk, hyk]
    · have := congrFun e j
      simp only [if_neg q] at this
      exact this
  · obtain ⟨a, b, d⟩ := hy
    have hx0 : (fun j => if j = k then 0 else y j) k = 0 := if_pos rfl
    have ey : (fun j => if j = k then y k else (fun j => if j = k then 0 else y j) j) = y := by
      funext j
      show (if j = k then y k else if j = k then 0 else y j) = y j
      by_cases q : j = k
      · rw [if_pos q, q]
      · rw [if_neg q, if_neg q]
    have eqs : ∀ w, ((rs S w y : Nat) : Int) = (rs S w (fun j => if j = k then 0 else y j) : Int) + S (17 * w + k) * (y k : Int) := fun w => by
      have := up (fun j => if j = k then 0 else y j) hx0 w (y k)
      rw [ey] at this
      exact this
    have eU : U (fun j => if j = k then 0 else y j) = y k := by
      refine hu1 _ _ _ (hU _).1 (b k) (hU _).2 ?_
      rw [← eqs]
      exact d r (Nat.le_refl _) hr
    refine ⟨fun j => if j = k then 0 else y j, ⟨fun j hj => ?_, fun j => ?_, fun w h1 h2 => ?_⟩, ?_⟩
    · show (if j = k then 0 else y j) = 0
      by_cases q : j = k
      · rw [if_pos q]
      · rw [if_neg q]; exact a j (hj.imp (fun z => by omega) (fun z => z))
    · show (if j = k then 0 else y j) < p
      by_cases q : j = k
      · rw [if_pos q]; omega
      · rw [if_neg q]; exact b j
    · refine (low w (by omega) h2 _).tr ?_
      have d1 := d w (by omega) h2
      have d2 := d r (Nat.le_refl _) hr
      rw [eqs] at d1 d2
      have a1 := ((cg.rf (p := p) (a := (S (17 * w + k) : Int) * iv)).mu d2)
      rw [Int.mul_zero, Int.mul_add] at a1
      have a3 : cg p ((S (17 * w + k) : Int) * iv * (S (17 * r + k) * (y k : Int))) ((S (17 * w + k) : Int) * y k) := by
        have := (cg.rf (p := p) (a := (S (17 * w + k) : Int))).mu (inv.mu (cg.rf (p := p) (a := (y k : Int))))
        rw [Int.one_mul] at this
        rw [show (S (17 * w + k) : Int) * iv * (S (17 * r + k) * (y k : Int)) = (S (17 * w + k) : Int) * ((S (17 * r + k) : Int) * iv * y k) by
          rw [Int.mul_assoc, Int.mul_comm (S (17 * r + k) : Int) iv, Int.mul_assoc]]
        exact this
      have a4 := (d1.su a1).tr cg.rf
      have a5 := a4.ad (a3.su (cg.rf (p := p) (a := (S (17 * w + k) : Int) * y k)))
      obtain ⟨z, hz⟩ := a5
      exact ⟨z, by omega⟩
    · show (fun j => if j = k then U (fun j => if j = k then 0 else y j) else (fun j => if j = k then 0 else y j) j) = y
      rw [eU]
      exact ey
