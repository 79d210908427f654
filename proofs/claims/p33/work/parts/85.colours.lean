/-! ===== colourings as functions of the ends ===== -/
def Col (c : Nat) (f : Nat → Nat) (p : Nat) (y : Nat → Nat) : Prop := (∀ e, 4 * c ≤ e → y e = 0) ∧ (∀ e, y e < p) ∧ (∀ e, e < 4 * c → y (ot c f e) = y e) ∧ ∀ w, w < c → y (4 * w + 1) = y (4 * w + 3) ∧ (y (4 * w) + y (4 * w + 2)) % p = (2 * y (4 * w + 1)) % p
theorem lbC_is (f : Nat → Nat) : ∀ k, LbIs (fun x y => ∃ j, j < k ∧ x = f (4 * j + 1) ∧ y = f (4 * j + 3)) (lbC f k)
  | 0 => LbIs.id.mono (fun a b => ⟨fun h => h.elim, fun ⟨_, h, _⟩ => absurd h (Nat.not_lt_zero _)⟩)
  | k + 1 => ((lbC_is f k).step (f (4 * k + 1)) (f (4 * k + 3))).mono (fun a b => by
      constructor
      · rintro (⟨j, h1, h2⟩ | ⟨h1, h2⟩)
        · exact ⟨j, by omega, h2⟩
        · exact ⟨k, by omega, h1, h2⟩
      · rintro ⟨j, h1, h2, h3⟩
        by_cases q : j = k
        · subst q; exact Or.inr ⟨h2, h3⟩
        · exact Or.inl ⟨j, by omega, h2, h3⟩)
theorem cg_mod {p a b : Nat} (hp : 0 < p) : cg p (a : Int) (b : Int) ↔ a % p = b % p := by
  constructor
  · intro h
    exact cg_nat ((cg.md p a).tr (h.tr (cg.md p b).sy)) (Nat.mod_lt _ hp) (Nat.mod_lt _ hp)
  · intro h
    have := (cg.md p a).sy
    rw [h] at this
    exact this.tr (cg.md p b)
/-- the classes that are columns -/
def cK (c : Nat) (f : Nat → Nat) : Nat → Bool := fun n => occB f n (4 * c) && (lbC f c n == n)
theorem cK_l {c : Nat} {f : Nat → Nat} {e : Nat} (he : e < 4 * c) : cK c f (lbC f c (f e)) = true := by
  obtain ⟨h1, h2, h3, h4⟩ := lbC_is f c
  unfold cK
  rw [Bool.and_eq_true, occB_iff, beq_iff_eq]
  exact ⟨(h4 (fun a => ∃ e, e < 4 * c ∧ f e = a) (fun a b q => by
    obtain ⟨j, hj, rfl, rfl⟩ := q
    exact ⟨fun _ => ⟨_, by omega, rfl⟩, fun _ => ⟨_, by omega, rfl⟩⟩) (f e)).mpr ⟨e, he, rfl⟩, h2 _⟩
theorem rs_put {p : Nat} (M : Nat → Nat) (w : Nat) (x : Nat → Nat) {a t : Nat} (ha : a < 17) : cg p (rs (putM M (17 * w + a) ((M (17 * w + a) + t) % p)) w x) ((rs M w x : Int) + t * x a) := by
  have u := fb_sm_upd (fun j => M (17 * w + j) * x j) ((M (17 * w + a) + t) % p * x a) ha
  have e : rs (putM M (17 * w + a) ((M (17 * w + a) + t) % p)) w x = fb_sm (fun k => if k = a then (M (17 * w + a) + t) % p * x a else M (17 * w + k) * x k) 17 := by
    unfold rs
    refine fb_sm_cong (fun j _ => ?_)
    unfold putM
    by_cases q : j = a
    · rw [if_pos q, if_pos (by omega), q]
    · rw [if_neg q, if_neg (by omega)]
  rw [e]
  have hm := (cg.md p (M (17 * w + a) + t)).mu (cg.rf (p := p) (a := (x a : Int)))
  obtain ⟨z, hz⟩ := hm
  refine ⟨z, ?_⟩
  have u2 : ((fb_sm (fun k => if k = a then (M (17 * w + a) + t) % p * x a else M (17 * w + k) * x k) 17 : Nat) : Int) + (M (17 * w + a) : Int) * x a = (fb_sm (fun j => M (17 * w + j) * x j) 17 : Int) + ((M (17 * w + a) + t) % p : Nat) * (x a : Int) := by
    have := congrArg (fun n : Nat => (n : Int)) u
    simp only [Int.natCast_add, Int.natCast_mul] at this
    exact this
  unfold rs
  rw [Int.natCast_add (M (17 * w + a)) t, Int.add_mul] at hz
  omega
theorem rs_off (M : Nat → Nat) {w w' a v : Nat} (x : Nat → Nat) (ha : a < 17) (hw : w' ≠ w) : rs (putM M (17 * w + a) v) w' x = rs M w' x := by
  unfold rs
  refine fb_sm_cong (fun j hj => ?_)
  congr 1
  unfold putM
  rw [if_neg (by omega)]
theorem eqM_zero (p : Nat) (f l : Nat → Nat) (hl : ∀ e, l (f e) < 17) : ∀ i w j, i ≤ w → j < 17 → eqM p f l i (17 * w + j) = 0
  | 0, _, _, _, _ => rfl
  | i + 1, w, j, h, hj => by
    have ih := eqM_zero p f l hl i w j (by omega) hj
    have a0 := hl (4 * i)
    have a1 := hl (4 * i + 1)
    have a2 := hl (4 * i + 2)
    unfold eqM putM
    simp only
    rw [if_neg (by omega), if_neg (by omega), if_neg (by omega)]
    exact ih
theorem eqM_col (p : Nat) (f l : Nat → Nat) (hl : ∀ e, l (f e) < 17) {c j : Nat} (hj : j < 17) (h : ∀ e, e < 4 * c → l (f e) ≠ j) : ∀ i, i ≤ c → ∀ w, eqM p f l i (17 * w + j) = 0
  | 0, _, _ => rfl
  | i + 1, hi, w => by
    have ih := eqM_col p f l hl hj h i (by omega) w
    have a0 := hl (4 * i)
    have a1 := hl (4 * i + 1)
    have a2 := hl (4 * i + 2)
    have b0 := h (4 * i) (by omega)
    have b1 := h (4 * i + 1) (by omega)
    have b2 := h (4 * i + 2) (by omega)
    unfold eqM putM
    simp only
    rw [if_neg (by omega), if_neg (by omega), if_neg (by omega)]
    exact ih
theorem eqM_row {p : Nat} (hp : isP p) (f l : Nat → Nat) (hl : ∀ e, l (f e) < 17) (x : Nat → Nat) : ∀ i w, w < i → cg p (rs (eqM p f l i) w x) ((x (l (f (4 * w))) : Int) + x (l (f (4 * w + 2))) - 2 * x (l (f (4 * w + 1))))
  | 0, w, h => absurd h (Nat.not_lt_zero _)
  | i + 1, w, h => by
    have hp0 := (isP_lt hp).1
    by_cases q : w = i
    · subst q
      obtain ⟨M0, hM0⟩ : ∃ M0, M0 = eqM p f l w := ⟨_, rfl⟩
      obtain ⟨M1, hM1⟩ : ∃ M1, M1 = putM M0 (17 * w + l (f (4 * w))) ((M0 (17 * w + l (f (4 * w))) + 1) % p) := ⟨_, rfl⟩
      obtain ⟨M2, hM2⟩ : ∃ M2, M2 = putM M1 (17 * w + l (f (4 * w + 2))) ((M1 (17 * w + l (f (4 * w + 2))) + 1) % p) := ⟨_, rfl⟩
      have e : eqM p f l (w + 1) = putM M2 (17 * w + l (f (4 * w + 1))) ((M2 (17 * w + l (f (4 * w + 1))) + (p - 2)) % p) := by rw [hM2, hM1, hM0]; rfl
      rw [e]
      have r3 := rs_put (p := p) M2 w x (t := p - 2) (hl (4 * w + 1))
      have r2 := rs_put (p := p) M1 w x (t := 1) (hl (4 * w + 2))
      have r1 := rs_put (p := p) M0 w x (t := 1) (hl (4 * w))
      rw [← hM2] at r2
      rw [← hM1] at r1
      have r0 : rs M0 w x = 0 := by
        unfold rs
        have : ∀ n, n ≤ 17 → fb_sm (fun j => M0 (17 * w + j) * x j) n = 0 := by
          intro n
          induction n with
          | zero => intro _; rfl
          | succ n ih =>
            intro hn
            rw [fb_sm_succ, ih (by omega), hM0, eqM_zero p f l hl w w n (Nat.le_refl _) (by omega), Nat.zero_mul]
        exact this 17 (Nat.le_refl _)
      rw [r0] at r1
      obtain ⟨z1, e1⟩ := r1
      obtain ⟨z2, e2⟩ := r2
      obtain ⟨z3, e3⟩ := r3
      refine ⟨z1 + z2 + z3 + x (l (f (4 * w + 1))), ?_⟩
      rw [Int.mul_add, Int.mul_add, Int.mul_add]
      have ep : ((p - 2 : Nat) : Int) * x (l (f (4 * w + 1))) = p * x (l (f (4 * w + 1))) - 2 * x (l (f (4 * w + 1))) := by
        rw [← Int.sub_mul]
        congr 1
        omega
      rw [ep] at e3
      have o1 : ((1 : Nat) : Int) * x (l (f (4 * w))) = x (l (f (4 * w))) := by rw [show ((1 : Nat) : Int) = 1 from rfl, Int.one_mul]
      have o2 : ((1 : Nat) : Int) * x (l (f (4 * w + 2))) = x (l (f (4 * w + 2))) := by rw [show ((1 : Nat) : Int) = 1 from rfl, Int.one_mul]
      rw [o1] at e1
      rw [o2] at e2
      omega
    · have ih := eqM_row hp f l hl x i w (by omega)
      have e : rs (eqM p f l (i + 1)) w x = rs (eqM p f l i) w x := by
        show rs (putM (putM (putM (eqM p f l i) _ _) _ _) _ _) w x = _
        rw [rs_off _ x (hl _) q, rs_off _ x (hl _) q, rs_off _ x (hl _) q]
      rw [e]
      exact ih
theorem row_iff {p a b d : Nat} (hp : isP p) : cg p ((a : Int) + b - 2 * d) 0 ↔ (a + b) % p = (2 * d) % p := by
  rw [← cg_mod (by have := (isP_lt hp).1; omega), Int.natCast_add, Int.natCast_mul]
  constructor
  · rintro ⟨z, hz⟩
    exact ⟨z, by show (a : Int) + b = 2 * (d : Int) + p * z; omega⟩
  · rintro ⟨z, hz⟩
    have hz : (a : Int) + b = 2 * (d : Int) + p * z := hz
    exact ⟨z, by omega⟩
theorem col_HC {p c o : Nat} {f : Nat → Nat} (hp : isP p) (hV : Vd c o f) : ∃ a, HC (Col c f p) (p ^ a) ∧ a + (gMs p c (eqM p f (lbC f c) c) 16).1 = fb_ct (fun n => occB f n (4 * c) && (lbC f c n == n)) 17 := by
  have hc := hV.1
  have hp0 := (isP_lt hp).1
  have hl : ∀ e, lbC f c (f e) < 17 := fun e => by
    have a := lbC_le f c (f e)
    have b := hV.le16 e
    omega
  have hB : BdM p (eqM p f (lbC f c) c) := by
    intro j _
    have : ∀ i, eqM p f (lbC f c) i j < p := by
      intro i
      induction i with
      | zero => show 0 < p; omega
      | succ i ih =>
        unfold eqM putM
        simp only
        by_cases q1 : j = 17 * i + lbC f c (f (4 * i + 1))
        · rw [if_pos q1]; exact Nat.mod_lt _ (by omega)
        · rw [if_neg q1]
          by_cases q2 : j = 17 * i + lbC f c (f (4 * i + 2))
          · rw [if_pos q2]; exact Nat.mod_lt _ (by omega)
          · rw [if_neg q2]
            by_cases q3 : j = 17 * i + lbC f c (f (4 * i))
            · rw [if_pos q3]; exact Nat.mod_lt _ (by omega)
            · rw [if_neg q3]; exact ih
    exact this c
  have hK0 : cK c f 0 = false := by
    unfold cK
    rw [occ0 hV]; rfl
  have hz : ∀ w j, w < 8 → j < 17 → cK c f j = false → eqM p f (lbC f c) c (17 * w + j) = 0 := fun w j _ hj hk =>
    eqM_col p f (lbC f c) hl hj (fun e he z => by rw [← z, cK_l he] at hk; cases hk) c (Nat.le_refl _) w
  obtain ⟨a, h1, h2⟩ := sol_rank hp hc hB hK0 hz
  refine ⟨a, ?_, h2⟩
  obtain ⟨L1, L2, L3, L4⟩ := lbC_is f c
  have ht := ot_inv hV
  refine h1.bij (fun x e => if e < 4 * c then x (lbC f c (f e)) else 0) (fun x hx => ?_) (fun x y hx hy e => ?_) (fun y hy => ?_)
  · obtain ⟨x1, x2, x3⟩ := hx
    refine ⟨fun e he => if_neg (by omega), fun e => ?_, fun e he => ?_, fun w hw => ⟨?_, ?_⟩⟩
    · show (if e < 4 * c then x (lbC f c (f e)) else 0) < p
      by_cases q : e < 4 * c
      · rw [if_pos q]; exact x2 _
      · rw [if_neg q]; omega
    · show (if ot c f e < 4 * c then x (lbC f c (f (ot c f e))) else 0) = (if e < 4 * c then x (lbC f c (f e)) else 0)
      rw [if_pos (ht e he).1, if_pos he, ot_f hV he]
    · show (if 4 * w + 1 < 4 * c then x (lbC f c (f (4 * w + 1))) else 0) = (if 4 * w + 3 < 4 * c then x (lbC f c (f (4 * w + 3))) else 0)
      rw [if_pos (by omega), if_pos (by omega), L3 _ _ ⟨w, hw, rfl, rfl⟩]
    · show ((if 4 * w < 4 * c then x (lbC f c (f (4 * w))) else 0) + (if 4 * w + 2 < 4 * c then x (lbC f c (f (4 * w + 2))) else 0)) % p = (2 * (if 4 * w + 1 < 4 * c then x (lbC f c (f (4 * w + 1))) else 0)) % p
      rw [if_pos (by omega), if_pos (by omega), if_pos (by omega)]
      exact (row_iff hp).mp ((eqM_row hp f (lbC f c) hl x c w hw).sy.tr (x3 w (Nat.zero_le _) hw))
  · funext n
    cases k : cK c f n with
    | false => rw [hx.1 n (Or.inr (Or.inr k)), hy.1 n (Or.inr (Or.inr k))]
    | true =>
      unfold cK at k
      rw [Bool.and_eq_true, occB_iff, beq_iff_eq] at k
      obtain ⟨⟨e0, he0, ef⟩, el⟩ := k
      have := congrFun e e0
      simp only [if_pos he0] at this
      rw [ef, el] at this
      exact this
  · obtain ⟨y1, y2, y3, y4⟩ := hy
    have cls : ∀ e e', e < 4 * c → e' < 4 * c → lbC f c (f e) = lbC f c (f e') → y e = y e' := fun e e' he he' q => by
      have k := con_of_lab (E := 4 * c) (f := f) (t := ot c f) (R := fun a b => a < 4 * c ∧ (b = ot c f a ∨ (a % 4 = 1 ∧ b = a + 2))) (fun x y hx hy e => ot_only hV hx hy e) (fun x hx => Con.of ⟨hx, Or.inl rfl⟩) (fun a b z => by
        obtain ⟨j, hj, rfl, rfl⟩ := z
        exact ⟨4 * j + 1, 4 * j + 3, by omega, by omega, rfl, rfl, Con.of ⟨by omega, Or.inr ⟨by omega, rfl⟩⟩⟩) he he' ((lbC_is f c).con.mp q)
      exact ((k (fun z => y e = y z) (fun u w r => by
        obtain ⟨hu, rfl | ⟨r1, rfl⟩⟩ := r
        · rw [y3 u hu]
        · have := (y4 (u / 4) (by omega)).1
          rw [show 4 * (u / 4) + 1 = u by omega, show 4 * (u / 4) + 3 = u + 2 by omega] at this
          rw [this])).mp rfl)
    have hch : ∃ ep : Nat → Nat, ∀ n, cK c f n = true → ep n < 4 * c ∧ f (ep n) = n := ⟨fun n => Classical.epsilon (fun e => e < 4 * c ∧ f e = n), fun n hn => Classical.epsilon_spec (p := fun e => e < 4 * c ∧ f e = n) (by
      unfold cK at hn
      rw [Bool.and_eq_true, occB_iff] at hn
      exact hn.1)⟩
    obtain ⟨ep, hep⟩ := hch
    have val : ∀ e, e < 4 * c → (if cK c f (lbC f c (f e)) = true then y (ep (lbC f c (f e))) else 0) = y e := fun e he => by
      have k := cK_l (f := f) he
      obtain ⟨q1, q2⟩ := hep _ k
      rw [if_pos k]
      exact cls _ _ q1 he (by rw [q2, L2])
    refine ⟨fun n => if cK c f n = true then y (ep n) else 0, ⟨fun j hj => ?_, fun j => ?_, fun w _ hw => ?_⟩, ?_⟩
    · show (if cK c f j = true then y (ep j) else 0) = 0
      by_cases q : cK c f j = true
      · rcases hj with hj | hj | hj
        · have : j = 0 := by omega
          rw [this, hK0] at q; cases q
        · have := (hep j q).2
          have := hV.le16 (ep j)
          omega
        · rw [hj] at q; cases q
      · rw [if_neg q]
    · show (if cK c f j = true then y (ep j) else 0) < p
      by_cases q : cK c f j = true
      · rw [if_pos q]; exact y2 _
      · rw [if_neg q]; omega
    · refine (eqM_row hp f (lbC f c) hl _ c w hw).tr ((row_iff hp).mpr ?_)
      show ((if cK c f (lbC f c (f (4 * w))) = true then y (ep (lbC f c (f (4 * w)))) else 0) + (if cK c f (lbC f c (f (4 * w + 2))) = true then y (ep (lbC f c (f (4 * w + 2)))) else 0)) % p = (2 * (if cK c f (lbC f c (f (4 * w + 1))) = true then y (ep (lbC f c (f (4 * w + 1)))) else 0)) % p
      rw [val _ (by omega), val _ (by omega), val _ (by omega)]
      exact (y4 w hw).2
    · funext e
      show (if e < 4 * c then (if cK c f (lbC f c (f e)) = true then y (ep (lbC f c (f e))) else 0) else 0) = y e
      by_cases q : e < 4 * c
      · rw [if_pos q]; exact val e q
      · rw [if_neg q, y1 e (by omega)]
