/-! ===== the bracket and a bigon ===== -/
theorem ins_dl {v x y : Nat} (hv : v < 8) (hx : x < 128) (hy : dl v y / 4 < 8) : (ins v 0 x).testBit (dl v y / 4) = x.testBit (y / 4) ∧ (ins v 1 x).testBit (dl v y / 4) = x.testBit (y / 4) := by
  have a := (dl_div (v := v) (x := y)).1
  by_cases z : y / 4 < v
  · rw [if_pos z] at a
    have b := ins_bit v hv x hx (y / 4) (by omega)
    rw [if_pos z, if_pos z] at b
    rw [a]; exact b
  · rw [if_neg z] at a
    have b := ins_bit v hv x hx (y / 4 + 1) (by omega)
    rw [if_neg (by omega), if_neg (by omega), if_neg (by omega), if_neg (by omega), Nat.add_sub_cancel] at b
    rw [a]; exact b
theorem ins_lt : ∀ v, v < 7 → ∀ x, x < 64 → ins v 0 x < 128 ∧ ins v 1 x < 128 := by decide +kernel
/-- the bits a and b put in at v and w -/
def ins2 (v w a b x : Nat) : Nat := if v < w then ins w b (ins v a x) else ins v a (ins w b x)
theorem ins2_ok {v w c a b x : Nat} (hc : c ≤ 8) (hv : v < c) (hw : w < c) (hvw : v ≠ w) (ha : a = 0 ∨ a = 1) (hb : b = 0 ∨ b = 1) (hx : x < 2 ^ (c - 1 - 1)) :
    (∀ y, y < 4 * (c - 1 - 1) → x.testBit (y / 4) = (ins2 v w a b x).testBit (dl (max v w) (dl (min v w) y) / 4)) ∧ (ins2 v w a b x).testBit v = decide (a = 1) ∧ (ins2 v w a b x).testBit w = decide (b = 1) ∧ pc (ins2 v w a b x) = pc x + a + b := by
  have hx2 : x < 64 := Nat.lt_of_lt_of_le hx (show 2 ^ (c - 1 - 1) ≤ 2 ^ 6 from Nat.pow_le_pow_right (by omega) (by omega))
  have key : ∀ m M a b, m < M → M < c → (a = 0 ∨ a = 1) → (b = 0 ∨ b = 1) → (∀ y, y < 4 * (c - 1 - 1) → x.testBit (y / 4) = (ins M b (ins m a x)).testBit (dl M (dl m y) / 4)) ∧ (ins M b (ins m a x)).testBit m = decide (a = 1) ∧ (ins M b (ins m a x)).testBit M = decide (b = 1) ∧ pc (ins M b (ins m a x)) = pc x + a + b := by
    intro m M a b hm hM ha hb
    have h1 : ins m a x < 128 := by
      have := ins_lt m (by omega) x hx2
      rcases ha with rfl | rfl
      · exact this.1
      · exact this.2
    have p1 := ins_pc m (by omega) x (by omega)
    have p2 := ins_pc M (by omega) (ins m a x) h1
    have i1 := ins_bit m (by omega) x (by omega) m (by omega)
    rw [if_neg (by omega), if_pos rfl, if_neg (by omega), if_pos rfl] at i1
    have i2 := ins_bit M (by omega) (ins m a x) h1 M (by omega)
    rw [if_neg (by omega), if_pos rfl, if_neg (by omega), if_pos rfl] at i2
    have i3 := ins_bit M (by omega) (ins m a x) h1 m (by omega)
    rw [if_pos hm, if_pos hm] at i3
    refine ⟨fun y hy => ?_, ?_, ?_, ?_⟩
    · have l1 := dl_lt (show m < c - 1 by omega) hy
      have l2 := dl_lt hM l1
      have d1 := ins_dl (v := m) (x := x) (y := y) (by omega) (by omega) (by omega)
      have d2 := ins_dl (v := M) (x := ins m a x) (y := dl m y) (by omega) h1 (by omega)
      rcases ha with rfl | rfl <;> rcases hb with rfl | rfl
      · rw [d2.1, d1.1]
      · rw [d2.2, d1.1]
      · rw [d2.1, d1.2]
      · rw [d2.2, d1.2]
    · rcases ha with rfl | rfl <;> rcases hb with rfl | rfl
      · rw [i3.1, i1.1]; rfl
      · rw [i3.2, i1.1]; rfl
      · rw [i3.1, i1.2]; rfl
      · rw [i3.2, i1.2]; rfl
    · rcases hb with rfl | rfl
      · rw [i2.1]; rfl
      · rw [i2.2]; rfl
    · rcases ha with rfl | rfl <;> rcases hb with rfl | rfl
      · have e1 := p2.1; have e2 := p1.1; omega
      · have e1 := p2.2; have e2 := p1.1; omega
      · have e1 := p2.1; have e2 := p1.2; omega
      · have e1 := p2.2; have e2 := p1.2; omega
  unfold ins2
  by_cases z : v < w
  · rw [if_pos z, Nat.max_eq_right (by omega), Nat.min_eq_left (by omega)]
    exact key v w a b z hw ha hb
  · rw [if_neg z, Nat.max_eq_left (by omega), Nat.min_eq_right (by omega)]
    obtain ⟨k1, k2, k3, k4⟩ := key w v b a (by omega) hv hb ha
    exact ⟨k1, k3, k2, by omega⟩
theorem si_ins2 (F : Nat → Int) {c v w : Nat} (hv : v < c) (hw : w < c) (hvw : v ≠ w) : fb_si F (2 ^ c) = fb_si (fun x => F (ins2 v w 0 0 x) + F (ins2 v w 0 1 x) + F (ins2 v w 1 0 x) + F (ins2 v w 1 1 x)) (2 ^ (c - 1 - 1)) := by
  by_cases z : v < w
  · rw [si_ins F hw, si_ins (fun x => F (ins w 0 x) + F (ins w 1 x)) (show v < c - 1 by omega)]
    refine fb_si_cong (fun x _ => ?_)
    unfold ins2
    rw [if_pos z, if_pos z, if_pos z, if_pos z]
    show F (ins w 0 (ins v 0 x)) + F (ins w 1 (ins v 0 x)) + (F (ins w 0 (ins v 1 x)) + F (ins w 1 (ins v 1 x))) = _
    omega
  · rw [si_ins F hv, si_ins (fun x => F (ins v 0 x) + F (ins v 1 x)) (show w < c - 1 by omega)]
    refine fb_si_cong (fun x _ => ?_)
    unfold ins2
    rw [if_neg z, if_neg z, if_neg z, if_neg z]
    show F (ins v 0 (ins w 0 x)) + F (ins v 1 (ins w 0 x)) + (F (ins v 0 (ins w 1 x)) + F (ins v 1 (ins w 1 x))) = _
    omega
theorem four_P {c st v i : Nat} (hv : v < c) (hi : i < 4) (h : st.testBit v = decide (i % 2 = 1)) : Four (4 * c) v (sm st) (en v i) (en v (i + 1)) (en v (i + 2)) (en v (i + 3)) := by
  obtain ⟨s0, s1, s2, s3⟩ := (sm_en (st := st) (v := v) hi).1 h
  exact ⟨⟨en_lt4 hv, en_lt4 hv, en_lt4 hv, en_lt4 hv⟩, fun x hx => en_all hi hx, s0, s1, s2, s3⟩
theorem four_Q {c st v i : Nat} (hv : v < c) (hi : i < 4) (h : st.testBit v = !decide (i % 2 = 1)) : Four (4 * c) v (sm st) (en v i) (en v (i + 3)) (en v (i + 1)) (en v (i + 2)) := by
  obtain ⟨s0, s1, s2, s3⟩ := (sm_en (st := st) (v := v) hi).2 h
  exact ⟨⟨en_lt4 hv, en_lt4 hv, en_lt4 hv, en_lt4 hv⟩, fun x hx => by have := en_all hi hx; omega, s0, s1, s2, s3⟩
theorem four_T {c v i : Nat} (hv : v < c) (hi : i < 4) : Four (4 * c) v (tn 2) (en v i) (en v (i + 2)) (en v (i + 1)) (en v (i + 3)) := by
  refine ⟨⟨en_lt4 hv, en_lt4 hv, en_lt4 hv, en_lt4 hv⟩, fun x hx => by have := en_all hi hx; omega, ?_, ?_, ?_, ?_⟩ <;> (unfold tn en; omega)
theorem bigon_comp {c o : Nat} {f : Nat → Nat} (hV : Vd c o f) {v w i j : Nat} (hv : v < c) (hw : w < c) (hvw : v ≠ w) (hi : i < 4) (hj : j < 4) (hE : bE f v w (4 * i + j)) (ho : (bgD (c, o, f) v w (4 * i + j)).2.1 ≤ 4) : o + nCl c f 2 = (bgD (c, o, f) v w (4 * i + j)).2.1 + nCl (c - 1 - 1) (bgD (c, o, f) v w (4 * i + j)).2.2 2 := by
  have hW : Vd (c - 1 - 1) (bgD (c, o, f) v w (4 * i + j)).2.1 (bgD (c, o, f) v w (4 * i + j)).2.2 := bg_VS (d := (c, o, f)) hV hv hw hvw (by omega) hE ho
  rw [nCl_cc hV, nCl_cc hW]
  exact bigon_QQ (s' := tn 2) hV hv hw hvw hi hj hE ho (tn_ok 2 c) (fun x hx => by rw [dl_tn, dl_tn]) (Or.inr ⟨four_T hv hi, four_T hw hj⟩)
theorem bigon_some {c o : Nat} {f : Nat → Nat} (hV : Vd c o f) {v w i j : Nat} (hv : v < c) (hw : w < c) (hvw : v ≠ w) (hi : i < 4) (hj : j < 4) (hE : bE f v w (4 * i + j)) (ho : (bgD (c, o, f) v w (4 * i + j)).2.1 ≤ 4) : 0 < (c - 1 - 1) + (bgD (c, o, f) v w (4 * i + j)).2.1 := by
  have a := bigon_comp hV hv hw hvw hi hj hE ho
  have hW : Vd (c - 1 - 1) (bgD (c, o, f) v w (4 * i + j)).2.1 (bgD (c, o, f) v w (4 * i + j)).2.2 := bg_VS (d := (c, o, f)) hV hv hw hvw (by omega) hE ho
  have b := nCl_pos hV (by omega) 2
  rcases Nat.eq_zero_or_pos (c - 1 - 1) with z | z
  · have : nCl (c - 1 - 1) (bgD (c, o, f) v w (4 * i + j)).2.2 2 = 0 := by
      rw [nCl_cc hW, z]
      exact cc_none (fun x hx => absurd hx (by omega))
    omega
  · omega
/-- a bigon: the bracket stays -/
theorem bigon_BZ {c o : Nat} {f : Nat → Nat} (hV : Vd c o f) {v w i j : Nat} (hv : v < c) (hw : w < c) (hvw : v ≠ w) (hi : i < 4) (hj : j < 4) (hE : bE f v w (4 * i + j)) (ho : (bgD (c, o, f) v w (4 * i + j)).2.1 ≤ 4) (e : Int) : BZ c o f e = BZ (c - 1 - 1) (bgD (c, o, f) v w (4 * i + j)).2.1 (bgD (c, o, f) v w (4 * i + j)).2.2 e := by
  have hc := hV.1
  have hW : Vd (c - 1 - 1) (bgD (c, o, f) v w (4 * i + j)).2.1 (bgD (c, o, f) v w (4 * i + j)).2.2 := bg_VS (d := (c, o, f)) hV hv hw hvw (by omega) hE ho
  have hne := bigon_some hV hv hw hvw hi hj hE ho
  have hpar : (i + j) % 2 = 1 := by
    have := hE.1
    rw [show (4 * i + j) / 4 = i by omega, show (4 * i + j) % 4 = j by omega] at this
    exact this
  unfold BZ
  rw [si_ins2 _ hv hw hvw]
  refine fb_si_cong (fun x hx => ?_)
  have q00 := ins2_ok hc hv hw hvw (Or.inl rfl) (Or.inl rfl) hx
  have q01 := ins2_ok hc hv hw hvw (Or.inl rfl) (Or.inr rfl) hx
  have q10 := ins2_ok hc hv hw hvw (Or.inr rfl) (Or.inl rfl) hx
  have q11 := ins2_ok hc hv hw hvw (Or.inr rfl) (Or.inr rfl) hx
  have nQ : ∀ st, (∀ y, y < 4 * (c - 1 - 1) → x.testBit (y / 4) = st.testBit (dl (max v w) (dl (min v w) y) / 4)) → st.testBit v = (!decide (i % 2 = 1)) → st.testBit w = (!decide (j % 2 = 1)) → Lo c o f st = Lo (c - 1 - 1) (bgD (c, o, f) v w (4 * i + j)).2.1 (bgD (c, o, f) v w (4 * i + j)).2.2 x := fun st hb h1 h2 => by
    rw [Lo_cc hV, Lo_cc hW]
    refine bigon_QQ (s' := sm x) hV hv hw hvw hi hj hE ho (sm_ok st c) (fun y hy => ?_) (Or.inl ⟨four_Q hv hi h1, four_Q hw hj h2⟩)
    have h3 := hb y hy
    -- through the two numberings
    have e1 : dl (min v w) (sm x y) = 4 * (dl (min v w) y / 4) + sm x y % 4 := dl_at (by rcases sm_turn x y with r | r <;> rw [r] <;> unfold tn <;> omega)
    have e2 : dl (min v w) (sm x y) / 4 = dl (min v w) y / 4 := by omega
    have e3 : dl (max v w) (dl (min v w) (sm x y)) = 4 * (dl (max v w) (dl (min v w) y) / 4) + dl (min v w) (sm x y) % 4 := dl_at e2
    have m1 := (dl_div (v := min v w) (x := y)).2
    have m2 := (dl_div (v := max v w) (x := dl (min v w) y)).2
    have m3 : dl (max v w) (dl (min v w) y) % 4 = y % 4 := by omega
    have m4 : dl (max v w) (dl (min v w) y) % 2 = y % 2 := by omega
    rw [e3]
    have e4 : dl (min v w) (sm x y) % 4 = sm x y % 4 := by omega
    rw [e4]
    unfold sm
    rw [← h3, m3, m4]
    by_cases q : x.testBit (y / 4) = true
    · rw [if_pos q, if_pos q]; omega
    · rw [if_neg q, if_neg q]
      by_cases p : y % 2 = 0
      · rw [if_pos p]; omega
      · rw [if_neg p]; omega
  have nP : ∀ s1 s2 s3, (∀ y, y < 4 * (c - 1 - 1) → x.testBit (y / 4) = s1.testBit (dl (max v w) (dl (min v w) y) / 4)) → (∀ y, y < 4 * (c - 1 - 1) → x.testBit (y / 4) = s2.testBit (dl (max v w) (dl (min v w) y) / 4)) → (∀ y, y < 4 * (c - 1 - 1) → x.testBit (y / 4) = s3.testBit (dl (max v w) (dl (min v w) y) / 4)) →
      s1.testBit v = decide (i % 2 = 1) → s1.testBit w = decide (j % 2 = 1) → s2.testBit v = decide (i % 2 = 1) → s2.testBit w = (!decide (j % 2 = 1)) → s3.testBit v = (!decide (i % 2 = 1)) → s3.testBit w = decide (j % 2 = 1) → ∃ n, Lo c o f s1 = n + 2 ∧ Lo c o f s2 = n + 1 ∧ Lo c o f s3 = n + 1 := by
    intro s1 s2 s3 b1 b2 b3 h1 h2 h3 h4 h5 h6
    have off : ∀ s s', (∀ y, y < 4 * (c - 1 - 1) → x.testBit (y / 4) = s.testBit (dl (max v w) (dl (min v w) y) / 4)) → (∀ y, y < 4 * (c - 1 - 1) → x.testBit (y / 4) = s'.testBit (dl (max v w) (dl (min v w) y) / 4)) → ∀ z, z < 4 * c → z / 4 ≠ v → z / 4 ≠ w → sm s z = sm s' z := by
      intro s s' g1 g2 z hz hz1 hz2
      have k1 : z / 4 ≠ max v w := by omega
      have k2 : dm (max v w) z / 4 ≠ min v w := by
        unfold dm
        by_cases t : z < 4 * max v w
        · rw [if_pos t]; omega
        · rw [if_neg t]; omega
      have k3 := dm_lt (show max v w < c by omega) hz k1
      have k4 := dm_lt (show min v w < c - 1 by omega) k3 k2
      have a1 := g1 _ k4
      have a2 := g2 _ k4
      rw [dl_dm k2, dl_dm k1] at a1 a2
      exact sm_off (a1.symm.trans a2)
    have r := bigon_PP hV hv hw hvw hE hi hj (sm_ok s1 c) (off s2 s1 b2 b1) (off s3 s1 b3 b1) (four_P hv hi h1) (four_P hw hj h2) (four_P hv hi h3) (four_Q hw hj h4) (four_Q hv hi h5) (four_P hw hj h6)
    have p := Lo_pos hV (by omega) s2
    refine ⟨Lo c o f s2 - 1, ?_, by omega, ?_⟩
    · rw [Lo_cc hV] at p ⊢
      rw [Lo_cc hV]
      omega
    · rw [Lo_cc hV] at p ⊢
      rw [Lo_cc hV]
      omega
  have shift : ∀ n : Nat, gZ n ((c : Int) - 2 * (pc x : Int)) e = gZ n ((c : Int) - 2 * (pc x : Int) - 2) (e - 2) ∧ gZ n ((c : Int) - 2 * (pc x : Int) - 4) e = gZ n ((c : Int) - 2 * (pc x : Int) - 2) (e + 2) := fun n => by
    have a1 := gZ_shift 2 n ((c : Int) - 2 * (pc x : Int) - 2) (e - 2)
    have a2 := gZ_shift (-2) n ((c : Int) - 2 * (pc x : Int) - 2) (e + 2)
    rw [show (c : Int) - 2 * (pc x : Int) - 2 + 2 = (c : Int) - 2 * (pc x : Int) by omega, show e - 2 + 2 = e by omega] at a1
    rw [show (c : Int) - 2 * (pc x : Int) - 2 + -2 = (c : Int) - 2 * (pc x : Int) - 4 by omega, show e + 2 + -2 = e by omega] at a2
    exact ⟨a1, a2⟩
  have ec : ((c - 1 - 1 : Nat) : Int) - 2 * (pc x : Int) = (c : Int) - 2 * (pc x : Int) - 2 := by omega
  have s0 : (c : Int) - 2 * ((pc (ins2 v w 0 0 x) : Nat) : Int) = (c : Int) - 2 * (pc x : Int) := by have := q00.2.2.2; omega
  have s1 : (c : Int) - 2 * ((pc (ins2 v w 0 1 x) : Nat) : Int) = (c : Int) - 2 * (pc x : Int) - 2 := by have := q01.2.2.2; omega
  have s2 : (c : Int) - 2 * ((pc (ins2 v w 1 0 x) : Nat) : Int) = (c : Int) - 2 * (pc x : Int) - 2 := by have := q10.2.2.2; omega
  have s3 : (c : Int) - 2 * ((pc (ins2 v w 1 1 x) : Nat) : Int) = (c : Int) - 2 * (pc x : Int) - 4 := by have := q11.2.2.2; omega
  rw [ec, s0, s1, s2, s3]
  by_cases z : i % 2 = 0
  · have di : decide (i % 2 = 1) = false := decide_eq_false (by omega)
    have dj : decide (j % 2 = 1) = true := decide_eq_true (by omega)
    rw [di, dj] at nP nQ
    rw [nQ _ q10.1 q10.2.1 q10.2.2.1]
    obtain ⟨n, n1, n2, n3⟩ := nP _ _ _ q01.1 q00.1 q11.1 q01.2.1 q01.2.2.1 q00.2.1 q00.2.2.1 q11.2.1 q11.2.2.1
    rw [n1, n2, n3, gL_succ, gL_succ, gL_succ, gZ_succ, (shift n).1, (shift n).2]
    omega
  · have di : decide (i % 2 = 1) = true := decide_eq_true (by omega)
    have dj : decide (j % 2 = 1) = false := decide_eq_false (by omega)
    rw [di, dj] at nP nQ
    rw [nQ _ q01.1 q01.2.1 q01.2.2.1]
    obtain ⟨n, n1, n2, n3⟩ := nP _ _ _ q10.1 q11.1 q00.1 q10.2.1 q10.2.2.1 q11.2.1 q11.2.2.1 q00.2.1 q00.2.2.1
    rw [n1, n2, n3, gL_succ, gL_succ, gL_succ, gZ_succ, (shift n).1, (shift n).2]
    omega
