/-! ===== the bracket under the moves ===== -/
theorem sm_ok (st c : Nat) : ∀ x, x < 4 * c → sm st x < 4 * c ∧ sm st x / 4 = x / 4 := fun x hx => by
  refine ⟨(sm_inv st c x hx).1, ?_⟩
  rcases sm_turn st x with r | r <;> rw [r] <;> unfold tn <;> omega
theorem tn_ok (k c : Nat) : ∀ x, x < 4 * c → tn k x < 4 * c ∧ tn k x / 4 = x / 4 := fun x hx => ⟨tn_lt hx, by unfold tn; omega⟩
theorem dl_div {v x : Nat} : dl v x / 4 = (if x / 4 < v then x / 4 else x / 4 + 1) ∧ dl v x % 4 = x % 4 := by
  unfold dl
  by_cases z : x < 4 * v
  · rw [if_pos z, if_pos (by omega)]; exact ⟨rfl, rfl⟩
  · rw [if_neg z, if_neg (by omega)]; omega
theorem dl_at {v x y : Nat} (h1 : y / 4 = x / 4) : dl v y = 4 * (dl v x / 4) + y % 4 := by
  have a := dl_div (v := v) (x := x)
  have b := dl_div (v := v) (x := y)
  rw [h1] at b
  omega
theorem dl_sm {v st st' x : Nat} (h : st'.testBit (x / 4) = st.testBit (dl v x / 4)) : dl v (sm st' x) = sm st (dl v x) := by
  have hd : sm st' x / 4 = x / 4 := by
    rcases sm_turn st' x with r | r <;> rw [r] <;> unfold tn <;> omega
  rw [dl_at hd]
  have m := (dl_div (v := v) (x := x)).2
  unfold sm
  rw [h, m]
  have m2 : dl v x % 2 = x % 2 := by omega
  rw [m2]
  by_cases q : st.testBit (dl v x / 4) = true
  · rw [if_pos q, if_pos q]; omega
  · rw [if_neg q, if_neg q]
    by_cases p : x % 2 = 0
    · rw [if_pos p]; omega
    · rw [if_neg p]; omega
theorem dl_tn {v k x : Nat} : dl v (tn k x) = tn k (dl v x) := by
  have hd : tn k x / 4 = x / 4 := by unfold tn; omega
  rw [dl_at hd]
  have m := (dl_div (v := v) (x := x)).2
  unfold tn
  omega
/-- pairings of a crossing by a state, seen from the end k -/
theorem sm_en {st v k : Nat} (hk : k < 4) : (st.testBit v = decide (k % 2 = 1) → sm st (en v k) = en v (k + 1) ∧ sm st (en v (k + 1)) = en v k ∧ sm st (en v (k + 2)) = en v (k + 3) ∧ sm st (en v (k + 3)) = en v (k + 2)) ∧
    (st.testBit v = !decide (k % 2 = 1) → sm st (en v k) = en v (k + 3) ∧ sm st (en v (k + 3)) = en v k ∧ sm st (en v (k + 1)) = en v (k + 2) ∧ sm st (en v (k + 2)) = en v (k + 1)) := by
  have e0 := sm_at (st := st) (v := v) (i := 0) (by omega)
  have e1 := sm_at (st := st) (v := v) (i := 1) (by omega)
  have e2 := sm_at (st := st) (v := v) (i := 2) (by omega)
  have e3 := sm_at (st := st) (v := v) (i := 3) (by omega)
  rcases (show k = 0 ∨ k = 1 ∨ k = 2 ∨ k = 3 by omega) with rfl | rfl | rfl | rfl <;> (constructor <;> intro h <;> rw [h] at e0 e1 e2 e3 <;> simp at e0 e1 e2 e3 <;> unfold en <;> simp <;> omega)
theorem Lo_cc {c o : Nat} {f : Nat → Nat} (hV : Vd c o f) (st : Nat) : Lo c o f st = o + cc (Vlt (4 * c)) (fR (4 * c) (ot c f) (sm st)) (4 * c) := by
  unfold Lo
  rw [nLo_cc hV]
theorem Lo_pos {c o : Nat} {f : Nat → Nat} (hV : Vd c o f) (h : 0 < c + o) (st : Nat) : 1 ≤ Lo c o f st := by
  rw [Lo_cc hV]
  rcases Nat.eq_zero_or_pos c with z | z
  · omega
  · have := cc_pos (V := Vlt (4 * c)) (L := fR (4 * c) (ot c f) (sm st)) (M := 4 * c) (a := 0) (by omega) (Vlt_iff.mpr (by omega))
    omega
/-- the number of components stays -/
theorem kink_comp {c o : Nat} {f : Nat → Nat} (hV : Vd c o f) {v k : Nat} (hv : v < c) (hk : k < 4) (hE : kE f v k) (ho : (kkD (c, o, f) v k).2.1 ≤ 4) : o + nCl c f 2 = (kkD (c, o, f) v k).2.1 + nCl (c - 1) (kkD (c, o, f) v k).2.2 2 := by
  have hW : Vd (c - 1) (kkD (c, o, f) v k).2.1 (kkD (c, o, f) v k).2.2 := kk_VS (d := (c, o, f)) hV hv hk hE ho
  rw [nCl_cc hV, nCl_cc hW]
  refine kink_Q hV hv hk hE ho (tn_ok 2 c) (fun x hx => dl_tn) (Or.inr ⟨?_, ?_, ?_, ?_⟩) <;> (unfold tn en; omega)
theorem kink_some {c o : Nat} {f : Nat → Nat} (hV : Vd c o f) {v k : Nat} (hv : v < c) (hk : k < 4) (hE : kE f v k) (ho : (kkD (c, o, f) v k).2.1 ≤ 4) : 0 < (c - 1) + (kkD (c, o, f) v k).2.1 := by
  have a := kink_comp hV hv hk hE ho
  have hW : Vd (c - 1) (kkD (c, o, f) v k).2.1 (kkD (c, o, f) v k).2.2 := kk_VS (d := (c, o, f)) hV hv hk hE ho
  have b := nCl_pos hV (by omega) 2
  rcases Nat.eq_zero_or_pos (c - 1) with z | z
  · have : nCl (c - 1) (kkD (c, o, f) v k).2.2 2 = 0 := by
      rw [nCl_cc hW, z]
      exact cc_none (fun x hx => absurd hx (by omega))
    omega
  · omega
/-- a kink: the bracket is -A^3 times what is left, or -A^(-3) times -/
theorem kink_BZ {c o : Nat} {f : Nat → Nat} (hV : Vd c o f) {v k : Nat} (hv : v < c) (hk : k < 4) (hE : kE f v k) (ho : (kkD (c, o, f) v k).2.1 ≤ 4) (e : Int) :
    BZ c o f e = -BZ (c - 1) (kkD (c, o, f) v k).2.1 (kkD (c, o, f) v k).2.2 (if k % 2 = 0 then e - 3 else e + 3) := by
  have hc := hV.1
  have hW : Vd (c - 1) (kkD (c, o, f) v k).2.1 (kkD (c, o, f) v k).2.2 := kk_VS (d := (c, o, f)) hV hv hk hE ho
  have hne := kink_some hV hv hk hE ho
  unfold BZ
  rw [si_ins _ hv, ← si_neg]
  refine fb_si_cong (fun x hx => ?_)
  have hx2 : x < 128 := Nat.lt_of_lt_of_le hx (show 2 ^ (c - 1) ≤ 2 ^ 7 from Nat.pow_le_pow_right (by omega) (by omega))
  have hp := ins_pc v (by omega) x hx2
  have bits : ∀ y, y < 4 * (c - 1) → x.testBit (y / 4) = (ins v 0 x).testBit (dl v y / 4) ∧ x.testBit (y / 4) = (ins v 1 x).testBit (dl v y / 4) := fun y hy => by
    have a := (dl_div (v := v) (x := y)).1
    by_cases z : y / 4 < v
    · rw [if_pos z] at a
      have b := ins_bit v (by omega) x hx2 (y / 4) (by omega)
      rw [if_pos z, if_pos z] at b
      rw [a]; exact ⟨b.1.symm, b.2.symm⟩
    · rw [if_neg z] at a
      have b := ins_bit v (by omega) x hx2 (y / 4 + 1) (by omega)
      rw [if_neg (by omega), if_neg (by omega), if_neg (by omega), if_neg (by omega), Nat.add_sub_cancel] at b
      rw [a]; exact ⟨b.1.symm, b.2.symm⟩
  have bv := ins_bit v (by omega) x hx2 v (by omega)
  rw [if_neg (by omega), if_pos rfl, if_neg (by omega), if_pos rfl] at bv
  -- with P and with Q
  have nP : ∀ st, (∀ y, y < 4 * (c - 1) → x.testBit (y / 4) = st.testBit (dl v y / 4)) → st.testBit v = decide (k % 2 = 1) → Lo c o f st = Lo (c - 1) (kkD (c, o, f) v k).2.1 (kkD (c, o, f) v k).2.2 x + 1 := fun st hb hv2 => by
    obtain ⟨s0, s1, s2, s3⟩ := (sm_en (st := st) (v := v) hk).1 hv2
    rw [Lo_cc hV, Lo_cc hW, kink_P (s' := sm x) hV hv hk hE ho (sm_ok st c) (fun y hy => dl_sm (hb y hy)) s0 s1 s2 s3]
    omega
  have nQ : ∀ st, (∀ y, y < 4 * (c - 1) → x.testBit (y / 4) = st.testBit (dl v y / 4)) → st.testBit v = (!decide (k % 2 = 1)) → Lo c o f st = Lo (c - 1) (kkD (c, o, f) v k).2.1 (kkD (c, o, f) v k).2.2 x := fun st hb hv2 => by
    have s := (sm_en (st := st) (v := v) hk).2 hv2
    rw [Lo_cc hV, Lo_cc hW, kink_Q (s' := sm x) hV hv hk hE ho (sm_ok st c) (fun y hy => dl_sm (hb y hy)) (Or.inl s)]
  obtain ⟨n, hn⟩ : ∃ n, Lo (c - 1) (kkD (c, o, f) v k).2.1 (kkD (c, o, f) v k).2.2 x = n + 1 := ⟨Lo (c - 1) (kkD (c, o, f) v k).2.1 (kkD (c, o, f) v k).2.2 x - 1, by have := Lo_pos hW hne x; omega⟩
  rw [hn] at nP nQ
  rw [hn, gL_succ]
  by_cases z : k % 2 = 0
  · have d : decide (k % 2 = 1) = false := decide_eq_false (by omega)
    rw [d] at nP nQ
    rw [nP (ins v 0 x) (fun y hy => (bits y hy).1) bv.1, nQ (ins v 1 x) (fun y hy => (bits y hy).2) bv.2, gL_succ, gL_succ, hp.1, hp.2, gZ_succ, if_pos z]
    have a1 := gZ_shift (-2) n ((c : Int) - 2 * (pc x : Int)) (e + 2)
    have a2 := gZ_shift (-1) n ((c : Int) - 2 * (pc x : Int)) (e - 2)
    rw [show (c : Int) - 2 * ((pc x + 1 : Nat) : Int) = (c : Int) - 2 * (pc x : Int) + -2 by omega, show ((c - 1 : Nat) : Int) - 2 * (pc x : Int) = (c : Int) - 2 * (pc x : Int) + -1 by omega, show e - 3 = e - 2 + -1 by omega, a2]
    rw [show e + 2 + -2 = e by omega] at a1
    rw [a1]
    omega
  · have d : decide (k % 2 = 1) = true := decide_eq_true (by omega)
    rw [d] at nP nQ
    rw [nQ (ins v 0 x) (fun y hy => (bits y hy).1) bv.1, nP (ins v 1 x) (fun y hy => (bits y hy).2) bv.2, gL_succ, gL_succ, hp.1, hp.2, gZ_succ, if_neg z]
    have a1 := gZ_shift (-2) n ((c : Int) - 2 * (pc x : Int)) e
    have a2 := gZ_shift 1 n ((c : Int) - 2 * (pc x : Int) + -2) (e + 2)
    rw [show (c : Int) - 2 * ((pc x + 1 : Nat) : Int) = (c : Int) - 2 * (pc x : Int) + -2 by omega, show ((c - 1 : Nat) : Int) - 2 * (pc x : Int) = (c : Int) - 2 * (pc x : Int) + -2 + 1 by omega, show e + 3 = e + 2 + 1 by omega, a2, show e - 2 = e + -2 by omega, a1]
    omega
