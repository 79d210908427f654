/-! ===== ends renamed: mirror and switches ===== -/
theorem relabel {c o : Nat} {f f' s s' g gi : Nat → Nat} (hV : Vd c o f) (hV' : Vd c o f') (hg : ∀ x, x < 4 * c → g x < 4 * c ∧ gi x < 4 * c ∧ gi (g x) = x ∧ g (gi x) = x) (hf : ∀ x, x < 4 * c → f' x = f (g x)) (hs : ∀ x, x < 4 * c → g (s' x) = s (g x)) (hl : ∀ x, x < 4 * c → s' x < 4 * c) :
    cc (Vlt (4 * c)) (fR (4 * c) (ot c f') s') (4 * c) = cc (Vlt (4 * c)) (fR (4 * c) (ot c f) s) (4 * c) := by
  rw [fR_aR hV, fR_aR hV']
  have fwd : ∀ x y, Con (aR (Vlt (4 * c)) f' (sR (4 * c) s')) x y → Con (aR (Vlt (4 * c)) f (sR (4 * c) s)) (g x) (g y) := fun x y q => q.map g (fun u w r => by
    rcases r with ⟨hu, hw, e⟩ | ⟨hu, rfl⟩
    · have hu := Vlt_iff.mp hu
      have hw := Vlt_iff.mp hw
      exact Con.of (Or.inl ⟨Vlt_iff.mpr (hg u hu).1, Vlt_iff.mpr (hg w hw).1, by rw [← hf u hu, ← hf w hw]; exact e⟩)
    · exact Con.of (Or.inr ⟨(hg u hu).1, hs u hu⟩))
  have bwd : ∀ x y, Con (aR (Vlt (4 * c)) f (sR (4 * c) s)) x y → Con (aR (Vlt (4 * c)) f' (sR (4 * c) s')) (gi x) (gi y) := fun x y q => q.map gi (fun u w r => by
    rcases r with ⟨hu, hw, e⟩ | ⟨hu, rfl⟩
    · have hu := Vlt_iff.mp hu
      have hw := Vlt_iff.mp hw
      exact Con.of (Or.inl ⟨Vlt_iff.mpr (hg u hu).2.1, Vlt_iff.mpr (hg w hw).2.1, by rw [hf _ (hg u hu).2.1, hf _ (hg w hw).2.1, (hg u hu).2.2.2, (hg w hw).2.2.2]; exact e⟩)
    · have a := (hg u hu).2.1
      have b := hs _ a
      rw [(hg u hu).2.2.2] at b
      refine Con.of (Or.inr ⟨a, ?_⟩)
      rw [← b, (hg _ (hl _ a)).2.2.1])
  refine Nat.le_antisymm (cc_le g (fun x hx _ => ⟨(hg x hx).1, Vlt_iff.mpr (hg x hx).1⟩) (fun x y hx hy _ _ q => ?_)) (cc_le gi (fun x hx _ => ⟨(hg x hx).2.1, Vlt_iff.mpr (hg x hx).2.1⟩) (fun x y hx hy _ _ q => ?_))
  · have := bwd _ _ q
    rw [(hg x hx).2.2.1, (hg y hy).2.2.1] at this
    exact this
  · have := fwd _ _ q
    rw [(hg x hx).2.2.2, (hg y hy).2.2.2] at this
    exact this
theorem pR_label {N : Nat} {p p' g gi : Nat → Nat} (hg : ∀ x, x < N → g x < N ∧ gi x < N ∧ gi (g x) = x ∧ g (gi x) = x) (hp : ∀ x, x < N → g (p' x) = p (g x)) (hl : ∀ x, x < N → p' x < N) : cc (Vlt N) (pR N p') N = cc (Vlt N) (pR N p) N := by
  have fwd : ∀ x y, Con (pR N p') x y → Con (pR N p) (g x) (g y) := fun x y q => q.map g (fun u w r => by
    obtain ⟨hu, rfl⟩ := r
    exact Con.of ⟨(hg u hu).1, hp u hu⟩)
  have bwd : ∀ x y, Con (pR N p) x y → Con (pR N p') (gi x) (gi y) := fun x y q => q.map gi (fun u w r => by
    obtain ⟨hu, rfl⟩ := r
    have a := (hg u hu).2.1
    have b := hp _ a
    rw [(hg u hu).2.2.2] at b
    refine Con.of ⟨a, ?_⟩
    rw [← b, (hg _ (hl _ a)).2.2.1])
  refine Nat.le_antisymm (cc_le g (fun x hx _ => ⟨(hg x hx).1, Vlt_iff.mpr (hg x hx).1⟩) (fun x y hx hy _ _ q => ?_)) (cc_le gi (fun x hx _ => ⟨(hg x hx).2.1, Vlt_iff.mpr (hg x hx).2.1⟩) (fun x y hx hy _ _ q => ?_))
  · have := bwd _ _ q
    rw [(hg x hx).2.2.1, (hg y hy).2.2.1] at this
    exact this
  · have := fwd _ _ q
    rw [(hg x hx).2.2.2, (hg y hy).2.2.2] at this
    exact this
theorem turn_ok (c : Nat) : ∀ x, x < 4 * c → tn 1 x < 4 * c ∧ tn 3 x < 4 * c ∧ tn 3 (tn 1 x) = x ∧ tn 1 (tn 3 x) = x := fun x hx => ⟨tn_lt hx, tn_lt hx, (tn_tn x).1, (tn_tn x).2⟩
theorem mirF_eq (f : Nat → Nat) : ∀ i e, mirF f i e = f (if e / 4 < i then tn 1 e else e)
  | 0, e => by rw [if_neg (Nat.not_lt_zero _)]; rfl
  | i + 1, e => by
    show exch (mirF f i) i e = _
    rw [exch_eq, mirF_eq f i]
    unfold xs
    by_cases q : e / 4 = i
    · rw [if_pos q, if_neg (by omega), if_pos (by omega)]
      congr 1
      unfold tn; omega
    · rw [if_neg q]
      by_cases r : e / 4 < i
      · rw [if_pos r, if_pos (by omega)]
      · rw [if_neg r, if_neg (by omega)]
theorem mirF_in {f : Nat → Nat} {c x : Nat} (hx : x < 4 * c) : mirF f c x = f (tn 1 x) := by rw [mirF_eq, if_pos (by omega)]
theorem mir_ot {c o : Nat} {f : Nat → Nat} (hV : Vd c o f) {x : Nat} (hx : x < 4 * c) : ot c (mirF f c) x = tn 3 (ot c f (tn 1 x)) := by
  have hV' : Vd c o (mirF f c) := mir_VS (d := (c, o, f)) hV c
  have ht := ot_inv hV
  have h1 : tn 1 x < 4 * c := tn_lt hx
  obtain ⟨a, b, d⟩ := ht _ h1
  have h2 : tn 3 (ot c f (tn 1 x)) < 4 * c := tn_lt a
  have e : mirF f c x = mirF f c (tn 3 (ot c f (tn 1 x))) := by
    rw [mirF_in hx, mirF_in h2, (tn_tn _).2, ot_f hV h1]
  rcases ot_only hV' hx h2 e with r | r
  · exfalso
    refine d ?_
    have := congrArg (tn 1) r
    rw [(tn_tn _).2] at this
    exact this
  · exact r.symm
theorem mir_comp {c o : Nat} {f : Nat → Nat} (hV : Vd c o f) : nCl c (mirF f c) 2 = nCl c f 2 := by
  have hV' : Vd c o (mirF f c) := mir_VS (d := (c, o, f)) hV c
  rw [nCl_cc hV, nCl_cc hV']
  exact relabel (g := tn 1) (gi := tn 3) hV hV' (turn_ok c) (fun x hx => mirF_in hx) (fun x _ => by unfold tn; omega) (fun x hx => tn_lt hx)
theorem mir_parts {c o : Nat} {f : Nat → Nat} (hV : Vd c o f) : nCl c (mirF f c) 1 = nCl c f 1 := by
  have hV' : Vd c o (mirF f c) := mir_VS (d := (c, o, f)) hV c
  rw [nCl_cc hV, nCl_cc hV']
  exact relabel (g := tn 1) (gi := tn 3) hV hV' (turn_ok c) (fun x hx => mirF_in hx) (fun x _ => rfl) (fun x hx => tn_lt hx)
theorem mir_faces {c o : Nat} {f : Nat → Nat} (hV : Vd c o f) : cF (fp c (mirF f c)) (4 * c) = cF (fp c f) (4 * c) := by
  have hV' : Vd c o (mirF f c) := mir_VS (d := (c, o, f)) hV c
  rw [faces_cc hV, faces_cc hV']
  refine pR_label (g := tn 1) (gi := tn 3) (turn_ok c) (fun x hx => ?_) (fun x hx => tn_lt (ot_inv hV' x hx).1)
  show tn 1 (tn 1 (ot c (mirF f c) x)) = tn 1 (ot c f (tn 1 x))
  rw [mir_ot hV hx, (tn_tn _).2]
theorem mir_alt {c o : Nat} {f : Nat → Nat} (hV : Vd c o f) : (∀ e, e < 4 * c → (e + ot c (mirF f c) e) % 2 = 1) ↔ ∀ e, e < 4 * c → (e + ot c f e) % 2 = 1 := by
  constructor
  · intro h e he
    have h3 : tn 3 e < 4 * c := tn_lt he
    have := h _ h3
    rw [mir_ot hV h3, (tn_tn e).2] at this
    unfold tn at this
    omega
  · intro h e he
    have h1 : tn 1 e < 4 * c := tn_lt he
    have := h _ h1
    rw [mir_ot hV he]
    unfold tn at this ⊢
    omega
theorem mir_sm {c st x : Nat} (hc : c ≤ 8) (hst : st < 2 ^ c) (hx : x < 4 * c) : tn 1 (sm st x) = sm (2 ^ c - 1 - st) (tn 1 x) := by
  obtain ⟨v, hv⟩ : ∃ v, v = x / 4 := ⟨_, rfl⟩
  have hb := (not_bit c hc st hst).1 v (by omega)
  have e0 := sm_at (st := st) (v := v) (i := 0) (by omega)
  have e1 := sm_at (st := st) (v := v) (i := 1) (by omega)
  have e2 := sm_at (st := st) (v := v) (i := 2) (by omega)
  have e3 := sm_at (st := st) (v := v) (i := 3) (by omega)
  have d0 := sm_at (st := 2 ^ c - 1 - st) (v := v) (i := 0) (by omega)
  have d1 := sm_at (st := 2 ^ c - 1 - st) (v := v) (i := 1) (by omega)
  have d2 := sm_at (st := 2 ^ c - 1 - st) (v := v) (i := 2) (by omega)
  have d3 := sm_at (st := 2 ^ c - 1 - st) (v := v) (i := 3) (by omega)
  rw [hb] at d0 d1 d2 d3
  have t0 : tn 1 (4 * v) = 4 * v + 1 := by unfold tn; omega
  have t1 : tn 1 (4 * v + 1) = 4 * v + 2 := by unfold tn; omega
  have t2 : tn 1 (4 * v + 2) = 4 * v + 3 := by unfold tn; omega
  have t3 : tn 1 (4 * v + 3) = 4 * v := by unfold tn; omega
  cases q : st.testBit v with
  | true =>
    rw [q] at e0 e1 e2 e3 d0 d1 d2 d3
    simp at e0 e1 e2 e3 d0 d1 d2 d3
    rcases (show x = 4 * v ∨ x = 4 * v + 1 ∨ x = 4 * v + 2 ∨ x = 4 * v + 3 by omega) with r | r | r | r
    · rw [r, e0, t3, t0, d1]
    · rw [r, e1, t2, t1, d2]
    · rw [r, e2, t1, t2, d3]
    · rw [r, e3, t0, t3, d0]
  | false =>
    rw [q] at e0 e1 e2 e3 d0 d1 d2 d3
    simp at e0 e1 e2 e3 d0 d1 d2 d3
    rcases (show x = 4 * v ∨ x = 4 * v + 1 ∨ x = 4 * v + 2 ∨ x = 4 * v + 3 by omega) with r | r | r | r
    · rw [r, e0, t1, t0, d1]
    · rw [r, e1, t0, t1, d2]
    · rw [r, e2, t3, t2, d3]
    · rw [r, e3, t2, t3, d0]
theorem mir_BZ {c o : Nat} {f : Nat → Nat} (hV : Vd c o f) (e : Int) : BZ c o (mirF f c) e = BZ c o f (-e) := by
  have hV' : Vd c o (mirF f c) := mir_VS (d := (c, o, f)) hV c
  have hc := hV.1
  unfold BZ
  rw [← si_rev (fun st => gL (Lo c o f st) ((c : Int) - 2 * (pc st : Int)) (-e)) (2 ^ c)]
  refine fb_si_cong (fun st hst => ?_)
  have eL : Lo c o (mirF f c) st = Lo c o f (2 ^ c - 1 - st) := by
    rw [Lo_cc hV, Lo_cc hV']
    congr 1
    exact relabel (g := tn 1) (gi := tn 3) hV hV' (turn_ok c) (fun x hx => mirF_in hx) (fun x hx => mir_sm hc hst hx) (fun x hx => (sm_ok st c x hx).1)
  have ep := (not_bit c hc st hst).2
  show gL _ _ e = gL (Lo c o f (2 ^ c - 1 - st)) ((c : Int) - 2 * (pc (2 ^ c - 1 - st) : Int)) (-e)
  rw [eL, show (c : Int) - 2 * (pc (2 ^ c - 1 - st) : Int) = -((c : Int) - 2 * (pc st : Int)) by omega]
  unfold gL
  by_cases q : Lo c o f (2 ^ c - 1 - st) = 0
  · rw [if_pos q, if_pos q]
  · rw [if_neg q, if_neg q, gZ_neg]
/-- a crossing switched twice -/
theorem switch2_BZ {c o : Nat} {f : Nat → Nat} (hV : Vd c o f) (v : Nat) (e : Int) : BZ c o (exch (exch f v) v) e = BZ c o f e := by
  have hV' : Vd c o (exch (exch f v) v) := exch_VS (d := (c, o, exch f v)) (exch_VS (d := (c, o, f)) hV v) v
  unfold BZ
  refine fb_si_cong (fun st hst => ?_)
  have eL : Lo c o (exch (exch f v) v) st = Lo c o f st := by
    rw [Lo_cc hV, Lo_cc hV']
    congr 1
    refine relabel (g := fun x => if x / 4 = v then tn 2 x else x) (gi := fun x => if x / 4 = v then tn 2 x else x) hV hV' (fun x hx => ?_) (fun x hx => ?_) (fun x hx => ?_) (fun x hx => (sm_ok st c x hx).1)
    · by_cases q : x / 4 = v
      · simp only [if_pos q]
        have q2 : tn 2 x / 4 = v := by unfold tn; omega
        rw [if_pos q2]
        exact ⟨tn_lt hx, tn_lt hx, by unfold tn; omega, by unfold tn; omega⟩
      · simp only [if_neg q]
        exact ⟨hx, hx, trivial, trivial⟩
    · rw [exch_eq, exch_eq]
      unfold xs
      by_cases q : x / 4 = v
      · rw [if_pos q, if_pos (by omega)]
        simp only [if_pos q]
        congr 1
        unfold tn; omega
      · rw [if_neg q, if_neg q]
        simp only [if_neg q]
    · have d := (sm_ok st c x hx).2
      by_cases q : x / 4 = v
      · have q2 : sm st x / 4 = v := by omega
        simp only [if_pos q, if_pos q2]
        have e2 : tn 2 x / 4 = x / 4 := by unfold tn; omega
        unfold sm
        rw [e2]
        by_cases b : st.testBit (x / 4) = true
        · rw [if_pos b, if_pos b]; unfold tn; omega
        · rw [if_neg b, if_neg b]
          by_cases p : x % 2 = 0
          · rw [if_pos p, if_pos (by unfold tn; omega)]; unfold tn; omega
          · rw [if_neg p, if_neg (by unfold tn; omega)]; unfold tn; omega
      · have q2 : ¬ sm st x / 4 = v := by omega
        simp only [if_neg q, if_neg q2]
  rw [eL]
/-! in the plane all exponents are alike modulo 4 -/
theorem planar_K {c o : Nat} {f : Nat → Nat} (hV : Vd c o f) (h0 : c + 2 * nCl c f 1 = cF (fp c f) (4 * c)) : ∀ k, k ≤ c → ∀ st, st < 2 ^ k → ((2 * (Lo c o f st : Int) - 2 * (pc st : Int)) - (2 * (Lo c o f 0 : Int) - 2 * (pc 0 : Int))) % 4 = 0
  | 0, _, st, h => by
    have : st = 0 := by rw [Nat.pow_zero] at h; omega
    subst this
    omega
  | k + 1, hk, st, h => by
    by_cases q : st < 2 ^ k
    · exact planar_K hV h0 k (by omega) st q
    · have hc := hV.1
      have hb : st.testBit k = true := by
        have h2 : st / 2 ^ k = 1 := by
          rw [Nat.pow_succ] at h
          exact Nat.div_eq_of_lt_le (by omega) (by omega)
        rw [Nat.testBit_eq_decide_div_mod_eq, h2]
        rfl
      have hl : (st ^^^ 2 ^ k) < 2 ^ k := by
        refine Nat.lt_pow_two_of_testBit _ (fun j hj => ?_)
        by_cases e : j = k
        · subst e; rw [bit_on, hb]; rfl
        · rw [bit_off e]
          exact Nat.testBit_lt_two_pow (Nat.lt_of_lt_of_le h (Nat.pow_le_pow_right (by omega) (by omega)))
      have ih := planar_K hV h0 k (by omega) _ hl
      have hst : st < 2 ^ c := Nat.lt_of_lt_of_le h (Nat.pow_le_pow_right (by omega) hk)
      have hp : pc st = pc (st ^^^ 2 ^ k) + 1 := by
        rcases flip_pc hc hst (show k < c by omega) with z | z
        · exact z.2
        · rw [hb] at z; exact absurd z.1 (by decide)
      have hL := loops_planar hV h0 (st := st) (show k < c by omega)
      have e1 : Lo c o f st = o + nLo c f st := rfl
      have e2 : Lo c o f (st ^^^ 2 ^ k) = o + nLo c f (st ^^^ 2 ^ k) := rfl
      omega
theorem planar_mod {c o : Nat} {f : Nat → Nat} (hV : Vd c o f) (h0 : c + 2 * nCl c f 1 = cF (fp c f) (4 * c)) : ∃ r : Int, ∀ e, BZ c o f e ≠ 0 → (e - r) % 4 = 0 := by
  refine ⟨(c : Int) + 2 * (Lo c o f 0 : Int) - 2 * (pc 0 : Int) - 2, fun e he => Classical.byContradiction (fun hne => he ?_)⟩
  have hz : ∀ n, n ≤ 2 ^ c → fb_si (fun st => gL (Lo c o f st) ((c : Int) - 2 * (pc st : Int)) e) n = 0 := by
    intro n
    induction n with
    | zero => intro _; rfl
    | succ n ih =>
      intro hn
      rw [fb_si_succ, ih (by omega)]
      have k := planar_K hV h0 c (Nat.le_refl _) n (by omega)
      unfold gL
      by_cases q : Lo c o f n = 0
      · rw [if_pos q]; rfl
      · rw [if_neg q]
        by_cases z : gZ (Lo c o f n - 1) ((c : Int) - 2 * (pc n : Int)) e = 0
        · rw [z]; rfl
        · have m := gZ_mod _ _ _ z
          omega
  exact hz _ (Nat.le_refl _)
