/-! ===== loops, components, parts as classes of ends ===== -/
/-- joined by arcs (t) and at the crossings (s) -/
def fR (N : Nat) (t s : Nat → Nat) : Nat → Nat → Prop := fun x y => x < N ∧ (y = t x ∨ y = s x)
/-- the same without the crossing v -/
def oR (N : Nat) (t s : Nat → Nat) (v : Nat) : Nat → Nat → Prop := fun x y => x < N ∧ (y = t x ∨ (x / 4 ≠ v ∧ y = s x))
theorem con_of_lab {E : Nat} {f t : Nat → Nat} {R L : Nat → Nat → Prop} (only : ∀ x y, x < E → y < E → f x = f y → y = x ∨ y = t x) (hRt : ∀ x, x < E → Con R x (t x))
    (hL : ∀ a b, L a b → ∃ x y, x < E ∧ y < E ∧ f x = a ∧ f y = b ∧ Con R x y) {x y : Nat} (hx : x < E) (hy : y < E) (h : Con L (f x) (f y)) : Con R x y := by
  intro p hp
  have hh := h (fun a => ∃ e, e < E ∧ f e = a ∧ p e) (fun a b q => by
    obtain ⟨u, w, hu, hw, rfl, rfl, c⟩ := hL a b q
    have key : ∀ u, u < E → ((∃ e, e < E ∧ f e = f u ∧ p e) ↔ p u) := fun u hu => by
      constructor
      · rintro ⟨e, he, e1, e2⟩
        rcases only u e hu he e1.symm with r | r
        · rw [← r]; exact e2
        · rw [r] at e2; exact (hRt u hu p hp).mpr e2
      · intro z; exact ⟨u, hu, rfl, z⟩
    rw [key u hu, key w hw]
    exact c p hp)
  have key : ∀ u, u < E → ((∃ e, e < E ∧ f e = f u ∧ p e) ↔ p u) := fun u hu => by
    constructor
    · rintro ⟨e, he, e1, e2⟩
      rcases only u e hu he e1.symm with r | r
      · rw [← r]; exact e2
      · rw [r] at e2; exact (hRt u hu p hp).mpr e2
    · intro z; exact ⟨u, hu, rfl, z⟩
  rw [key x hx, key y hy] at hh
  exact hh
theorem lab_cc {E : Nat} {f lab : Nat → Nat} {R L : Nat → Nat → Prop} (H : LbIs L lab) (hf : ∀ e, e < E → f e < 17) (hocc : ∀ a b, L a b → (∃ e, e < E ∧ f e = a) ∧ ∃ e, e < E ∧ f e = b)
    (hc : ∀ x y, x < E → y < E → (Con R x y ↔ lab (f x) = lab (f y))) : fb_ct (fun n => occB f n E && (lab n == n)) 17 = cc (Vlt E) R E := by
  refine Nat.le_antisymm (ct_inj_ex (fun n y => ∃ e, e < E ∧ f e = n ∧ Con R y e) (fun n hn hp => ?_) (fun n n2 y hn hn2 hp hp2 r1 r2 => ?_)) (ct_inj_ex (fun x n => n = lab (f x)) (fun x hx hp => ?_) (fun x x2 n hx hx2 hp hp2 r1 r2 => ?_))
  · rw [Bool.and_eq_true, occB_iff] at hp
    obtain ⟨⟨e, he, e1⟩, _⟩ := hp
    obtain ⟨k, k1, k2, k3⟩ := rep_ex (L := R) (Vlt_iff.mpr he)
    exact ⟨k, by omega, dcd_iff.mpr k2, e, he, e1, k3⟩
  · obtain ⟨e, he, e1, c1⟩ := r1
    obtain ⟨e2, he2, e3, c2⟩ := r2
    rw [Bool.and_eq_true, beq_iff_eq] at hp hp2
    have := (hc e e2 he he2).mp (c1.sy.tr c2)
    rw [e1, e3, hp.2, hp2.2] at this
    exact this
  · obtain ⟨h1, h2, h3, h4⟩ := H
    have hb := hf x hx
    have hb2 := h1 (f x)
    refine ⟨lab (f x), by omega, ?_, rfl⟩
    rw [Bool.and_eq_true, occB_iff, beq_iff_eq]
    exact ⟨(h4 (fun a => ∃ e, e < E ∧ f e = a) (fun a b q => ⟨fun _ => (hocc a b q).2, fun _ => (hocc a b q).1⟩) (f x)).mpr ⟨x, hx, rfl⟩, h2 _⟩
  · exact rep_only (dcd_iff.mp hp) (dcd_iff.mp hp2) ((hc x x2 hx hx2).mpr (r1.symm.trans r2))
theorem nLo_cc {c o : Nat} {f : Nat → Nat} (hV : Vd c o f) (st : Nat) : nLo c f st = cc (Vlt (4 * c)) (fR (4 * c) (ot c f) (sm st)) (4 * c) := by
  have ht := ot_inv hV
  have hs := sm_inv st c
  refine lab_cc (lbS_is f st c) (fun e he => by have := hV.le16 e; omega) (occ_S f st) (fun x y hx hy => ?_)
  constructor
  · intro q
    refine (lbS_is f st c).con.mpr (q.map f (fun u w z => (lbS_is f st c).con.mp ?_))
    obtain ⟨hu, rfl | rfl⟩ := z
    · rw [ot_f hV hu]
    · rw [smL hu]
  · intro q
    refine con_of_lab (t := ot c f) (L := fun x y => ∃ j, j < c ∧ ((x = f (4 * j) ∧ y = f (sm st (4 * j))) ∨ (x = f (4 * j + 2) ∧ y = f (sm st (4 * j + 2))))) (fun x y hx hy e => ot_only hV hx hy e) (fun x hx => Con.of ⟨hx, Or.inl rfl⟩) (fun a b z => ?_) hx hy ((lbS_is f st c).con.mp q)
    obtain ⟨j, hj, ⟨rfl, rfl⟩ | ⟨rfl, rfl⟩⟩ := z
    · exact ⟨4 * j, sm st (4 * j), by omega, (hs _ (by omega)).1, rfl, rfl, Con.of ⟨by omega, Or.inr rfl⟩⟩
    · exact ⟨4 * j + 2, sm st (4 * j + 2), by omega, (hs _ (by omega)).1, rfl, rfl, Con.of ⟨by omega, Or.inr rfl⟩⟩
theorem nCl_cc {c o : Nat} {f : Nat → Nat} (hV : Vd c o f) (k : Nat) : nCl c f k = cc (Vlt (4 * c)) (fR (4 * c) (ot c f) (tn k)) (4 * c) := by
  have ht := ot_inv hV
  refine lab_cc (lbT_is f k (4 * c)) (fun e he => by have := hV.le16 e; omega) (fun a b => by
    rintro ⟨j, hj, rfl, rfl⟩
    exact ⟨⟨j, hj, rfl⟩, ⟨_, tn_lt hj, rfl⟩⟩) (fun x y hx hy => ?_)
  constructor
  · intro q
    refine (lbT_is f k (4 * c)).con.mpr (q.map f (fun u w z => ?_))
    obtain ⟨hu, rfl | rfl⟩ := z
    · exact Con.eq (ot_f hV hu).symm
    · exact Con.of ⟨u, hu, rfl, rfl⟩
  · intro q
    refine con_of_lab (t := ot c f) (L := fun x y => ∃ j, j < 4 * c ∧ x = f j ∧ y = f (tn k j)) (fun x y hx hy e => ot_only hV hx hy e) (fun x hx => Con.of ⟨hx, Or.inl rfl⟩) (fun a b z => ?_) hx hy ((lbT_is f k (4 * c)).con.mp q)
    obtain ⟨j, hj, rfl, rfl⟩ := z
    exact ⟨j, _, hj, tn_lt hj, rfl, rfl, Con.of ⟨hj, Or.inr rfl⟩⟩
theorem faces_cc {c o : Nat} {f : Nat → Nat} (hV : Vd c o f) : cF (fp c f) (4 * c) = cc (Vlt (4 * c)) (pR (4 * c) (fun x => tn 1 (ot c f x))) (4 * c) := cF_cc (fp_perm hV)
theorem gR_fR {N : Nat} {t : Nat → Nat} {V : Nat → Bool} {M : Nat} : cc V (gR N t) M = cc V (fR N t (tn 1)) M :=
  cc_pairs (fun x y q => Con.of ⟨q.1, q.2.symm⟩) (fun x y q => Con.of ⟨q.1, q.2.symm⟩)
/-- the genus of part 17: even, not below 0 -/
theorem genus_ok {c o : Nat} {f : Nat → Nat} (hV : Vd c o f) : ∃ q, c + 2 * nCl c f 1 = cF (fp c f) (4 * c) + 2 * q := by
  obtain ⟨q, h⟩ := genus_main (ot_inv hV)
  rw [gR_fR, ← nCl_cc hV, ← faces_cc hV] at h
  exact ⟨q, h⟩
theorem parts_le {c o : Nat} {f : Nat → Nat} (hV : Vd c o f) : nCl c f 1 ≤ nCl c f 2 := by
  rw [nCl_cc hV, nCl_cc hV]
  refine cc_le (fun x => x) (fun x hx h => ⟨hx, h⟩) (fun x y hx hy _ _ q => q.mono (fun u w z => ?_))
  obtain ⟨hu, rfl | rfl⟩ := z
  · exact Con.of ⟨hu, Or.inl rfl⟩
  · have e : tn 2 u = tn 1 (tn 1 u) := by unfold tn; omega
    rw [e]
    have h1 : Con (fR (4 * c) (ot c f) (tn 1)) u (tn 1 u) := Con.of ⟨hu, Or.inr rfl⟩
    exact h1.tr (Con.of ⟨tn_lt hu, Or.inr rfl⟩)
theorem nCl_pos {c o : Nat} {f : Nat → Nat} (hV : Vd c o f) (hc : 0 < c) (k : Nat) : 1 ≤ nCl c f k := by
  rw [nCl_cc hV]
  exact cc_pos (a := 0) (by omega) (Vlt_iff.mpr (by omega))
/-! a crossing's two pairs by themselves -/
theorem full_split {N M : Nat} {V : Nat → Bool} {t s : Nat → Nat} {v a b d e : Nat} (ha : a < N) (hd : d < N) (hb : b < N) (he : e < N) (va : a / 4 = v) (vb : b / 4 = v) (vd : d / 4 = v) (ve : e / 4 = v) (all : ∀ x, x / 4 = v → x = a ∨ x = b ∨ x = d ∨ x = e)
    (sa : s a = b) (sb : s b = a) (sd : s d = e) (se : s e = d) : cc V (fR N t s) M = cc V (addE (addE (oR N t s v) a b) d e) M := by
  refine cc_pairs (fun x y q => ?_) (fun x y q => ?_)
  · obtain ⟨hx, rfl | rfl⟩ := q
    · exact con_up (con_up (Con.of ⟨hx, Or.inl rfl⟩))
    · by_cases z : x / 4 = v
      · rcases all x z with r | r | r | r
        · subst r; rw [sa]; exact con_up con_new
        · subst r; rw [sb]; exact con_up con_new.sy
        · subst r; rw [sd]; exact con_new
        · subst r; rw [se]; exact con_new.sy
      · exact con_up (con_up (Con.of ⟨hx, Or.inr ⟨z, rfl⟩⟩))
  · rcases q with (⟨hx, rfl | ⟨_, rfl⟩⟩ | ⟨rfl, rfl⟩) | ⟨rfl, rfl⟩
    · exact Con.of ⟨hx, Or.inl rfl⟩
    · exact Con.of ⟨hx, Or.inr rfl⟩
    · exact Con.of ⟨ha, Or.inr sa.symm⟩
    · exact Con.of ⟨hd, Or.inr sd.symm⟩
theorem sm_at {st v i : Nat} (hi : i < 4) : sm st (4 * v + i) = if st.testBit v = true then 4 * v + (3 - i) else 4 * v + (if i % 2 = 0 then i + 1 else i - 1) := by
  unfold sm
  rw [show (4 * v + i) / 4 = v by omega, show (4 * v + i) % 4 = i by omega, show (4 * v + i) % 2 = i % 2 by omega]
theorem sm_off {st st' x : Nat} (h : st.testBit (x / 4) = st'.testBit (x / 4)) : sm st x = sm st' x := by unfold sm; rw [h]
theorem oR_cong {N M : Nat} {V : Nat → Bool} {t s s' : Nat → Nat} {v a b d e : Nat} (h : ∀ x, x < N → x / 4 ≠ v → s x = s' x) : cc V (addE (addE (oR N t s v) a b) d e) M = cc V (addE (addE (oR N t s' v) a b) d e) M := by
  refine cc_pairs (fun x y q => ?_) (fun x y q => ?_)
  · rcases q with (⟨hx, rfl | ⟨z, rfl⟩⟩ | ⟨rfl, rfl⟩) | ⟨rfl, rfl⟩
    · exact con_up (con_up (Con.of ⟨hx, Or.inl rfl⟩))
    · exact con_up (con_up (Con.of ⟨hx, Or.inr ⟨z, h x hx z⟩⟩))
    · exact con_up con_new
    · exact con_new
  · rcases q with (⟨hx, rfl | ⟨z, rfl⟩⟩ | ⟨rfl, rfl⟩) | ⟨rfl, rfl⟩
    · exact con_up (con_up (Con.of ⟨hx, Or.inl rfl⟩))
    · exact con_up (con_up (Con.of ⟨hx, Or.inr ⟨z, (h x hx z).symm⟩⟩))
    · exact con_up con_new
    · exact con_new
/-- the A-smoothing at v, the others by st -/
theorem split_A {c M st v : Nat} {V : Nat → Bool} {t : Nat → Nat} (hv : v < c) (h : st.testBit v = false) : cc V (fR (4 * c) t (sm st)) M = cc V (addE (addE (oR (4 * c) t (sm st) v) (4 * v) (4 * v + 1)) (4 * v + 2) (4 * v + 3)) M := by
  have e0 := sm_at (st := st) (v := v) (i := 0) (by omega)
  have e1 := sm_at (st := st) (v := v) (i := 1) (by omega)
  have e2 := sm_at (st := st) (v := v) (i := 2) (by omega)
  have e3 := sm_at (st := st) (v := v) (i := 3) (by omega)
  rw [h] at e0 e1 e2 e3
  exact full_split (by omega) (by omega) (by omega) (by omega) (by omega) (by omega) (by omega) (by omega) (fun x hx => by omega) e0 e1 e2 e3
theorem split_B {c M st v : Nat} {V : Nat → Bool} {t : Nat → Nat} (hv : v < c) (h : st.testBit v = true) : cc V (fR (4 * c) t (sm st)) M = cc V (addE (addE (oR (4 * c) t (sm st) v) (4 * v) (4 * v + 3)) (4 * v + 1) (4 * v + 2)) M := by
  have e0 := sm_at (st := st) (v := v) (i := 0) (by omega)
  have e1 := sm_at (st := st) (v := v) (i := 1) (by omega)
  have e2 := sm_at (st := st) (v := v) (i := 2) (by omega)
  have e3 := sm_at (st := st) (v := v) (i := 3) (by omega)
  rw [h] at e0 e1 e2 e3
  exact full_split (by omega) (by omega) (by omega) (by omega) (by omega) (by omega) (by omega) (by omega) (fun x hx => by omega) e0 e3 e1 e2
theorem cc_add1 {V : Nat → Bool} {L : Nat → Nat → Prop} {M a b : Nat} (hM : ∀ x, V x = true → x < M) (ha : V a = true) (hb : V b = true) : cc V (addE L a b) M ≤ cc V L M ∧ cc V L M ≤ cc V (addE L a b) M + 1 := by
  by_cases h : Con L a b
  · rw [cc_same h]; omega
  · rw [cc_merge hM ha hb h]; omega
/-- the two smoothings of a crossing differ by at most one loop -/
theorem two_smooth {V : Nat → Bool} {L : Nat → Nat → Prop} {M w x y z : Nat} (hM : ∀ x, V x = true → x < M) (hw : V w = true) (hx : V x = true) (hy : V y = true) (hz : V z = true) :
    cc V (addE (addE L w x) y z) M ≤ cc V (addE (addE L w z) x y) M + 1 ∧ cc V (addE (addE L w z) x y) M ≤ cc V (addE (addE L w x) y z) M + 1 := by
  have h1 := cc_add1 (L := addE (addE L w x) y z) hM hx hy
  have h2 := cc_add1 (L := addE (addE L w z) x y) hM hw hx
  have e : cc V (addE (addE (addE L w x) y z) x y) M = cc V (addE (addE (addE L w z) x y) w x) M := by
    refine cc_pairs (fun u p q => ?_) (fun u p q => ?_)
    · have a1 : Con (addE (addE (addE L w z) x y) w x) w x := con_new
      have a2 : Con (addE (addE (addE L w z) x y) w x) w z := con_up (con_up con_new)
      have a3 : Con (addE (addE (addE L w z) x y) w x) x y := con_up con_new
      rcases q with ((q | ⟨rfl, rfl⟩) | ⟨rfl, rfl⟩) | ⟨rfl, rfl⟩
      · exact con_up (con_up (con_up (Con.of q)))
      · exact a1
      · exact a3.sy.tr (a1.sy.tr a2)
      · exact a3
    · have a1 : Con (addE (addE (addE L w x) y z) x y) w x := con_up (con_up con_new)
      have a2 : Con (addE (addE (addE L w x) y z) x y) y z := con_up con_new
      have a3 : Con (addE (addE (addE L w x) y z) x y) x y := con_new
      rcases q with ((q | ⟨rfl, rfl⟩) | ⟨rfl, rfl⟩) | ⟨rfl, rfl⟩
      · exact con_up (con_up (con_up (Con.of q)))
      · exact a1.tr (a3.tr a2)
      · exact a3
      · exact a1
  omega
theorem bit_off {st v x : Nat} (h : x ≠ v) : (st ^^^ 2 ^ v).testBit x = st.testBit x := by
  rw [fb_bit_flip]
  have : decide (x = v) = false := decide_eq_false h
  rw [this, Bool.xor_false]
theorem bit_on {st v : Nat} : (st ^^^ 2 ^ v).testBit v = !st.testBit v := by
  rw [fb_bit_flip]
  have : decide (v = v) = true := decide_eq_true rfl
  rw [this, Bool.xor_true]
theorem loops_by {c o : Nat} {f : Nat → Nat} (hV : Vd c o f) {st v : Nat} (hv : v < c) : nLo c f st ≤ nLo c f (st ^^^ 2 ^ v) + 1 ∧ nLo c f (st ^^^ 2 ^ v) ≤ nLo c f st + 1 := by
  rw [nLo_cc hV, nLo_cc hV]
  have hM : ∀ x, Vlt (4 * c) x = true → x < 4 * c := fun x => Vlt_iff.mp
  have off : ∀ x, x < 4 * c → x / 4 ≠ v → sm st x = sm (st ^^^ 2 ^ v) x := fun x _ h => sm_off (bit_off h).symm
  have two := two_smooth (L := oR (4 * c) (ot c f) (sm st) v) (w := 4 * v) (x := 4 * v + 1) (y := 4 * v + 2) (z := 4 * v + 3) hM (Vlt_iff.mpr (by omega)) (Vlt_iff.mpr (by omega)) (Vlt_iff.mpr (by omega)) (Vlt_iff.mpr (by omega))
  cases hb : st.testBit v with
  | false =>
    rw [split_A hv hb, split_B hv (by rw [bit_on, hb]; rfl), ← oR_cong off]
    exact two
  | true =>
    rw [split_B hv hb, split_A hv (by rw [bit_on, hb]; rfl), ← oR_cong off]
    exact two.symm
/-! with two colours that change along arcs and around crossings it is just one loop -/
theorem sm_turn (st x : Nat) : sm st x = tn 1 x ∨ sm st x = tn 3 x := by
  unfold sm tn
  by_cases q : st.testBit (x / 4) = true
  · rw [if_pos q]
    rcases (show x % 4 = 0 ∨ x % 4 = 1 ∨ x % 4 = 2 ∨ x % 4 = 3 by omega) with r | r | r | r <;> omega
  · rw [if_neg q]
    by_cases p : x % 2 = 0
    · rw [if_pos p]; omega
    · rw [if_neg p]; omega
theorem col_sm {c : Nat} {col : Nat → Bool} (h : ∀ x, x < 4 * c → col (tn 1 x) = !col x) {st x : Nat} (hx : x < 4 * c) : col (sm st x) = !col x := by
  rcases sm_turn st x with r | r
  · rw [r]; exact h x hx
  · rw [r]
    have := h (tn 3 x) (tn_lt hx)
    rw [(tn_tn x).2] at this
    rw [this, Bool.not_not]
theorem col_perm {c : Nat} {t : Nat → Nat} {col : Nat → Bool} (ht : Inv2 (4 * c) t) (h1 : ∀ x, x < 4 * c → col (tn 1 x) = !col x) (h2 : ∀ x, x < 4 * c → col (t x) = !col x) (st : Nat) : Perm (4 * c) (fun x => if col x = true then t (sm st x) else x) (fun x => if col x = true then sm st (t x) else x) := fun x hx => by
  have hs := sm_inv st c
  obtain ⟨s1, s2, _⟩ := hs x hx
  obtain ⟨t1, t2, _⟩ := ht x hx
  obtain ⟨u1, u2, _⟩ := ht _ s1
  obtain ⟨w1, w2, _⟩ := hs _ t1
  have c1 := col_sm h1 (st := st) hx
  have c2 := h2 _ s1
  have c3 := h2 x hx
  have c4 := col_sm h1 (st := st) t1
  by_cases z : col x = true
  · have z1 : col (t (sm st x)) = true := by rw [c2, c1, z]; rfl
    have z2 : col (sm st (t x)) = true := by rw [c4, c3, z]; rfl
    simp only [z, if_true, z1, z2]
    exact ⟨u1, w1, by rw [u2, s2], by rw [w2, t2]⟩
  · simp only [if_neg z]
    exact ⟨hx, hx, trivial, trivial⟩
theorem col_cc {c : Nat} {t : Nat → Nat} {col : Nat → Bool} (ht : Inv2 (4 * c) t) (h1 : ∀ x, x < 4 * c → col (tn 1 x) = !col x) (h2 : ∀ x, x < 4 * c → col (t x) = !col x) (st : Nat) :
    cc (Vlt (4 * c)) (fR (4 * c) t (sm st)) (4 * c) = cc (fun x => Vlt (4 * c) x && col x) (pR (4 * c) (fun x => if col x = true then t (sm st x) else x)) (4 * c) := by
  have hs := sm_inv st c
  have pf : ∀ x y, pR (4 * c) (fun x => if col x = true then t (sm st x) else x) x y → Con (fR (4 * c) t (sm st)) x y := fun x y q => by
    obtain ⟨hx, rfl⟩ := q
    by_cases z : col x = true
    · simp only [if_pos z]
      have a : Con (fR (4 * c) t (sm st)) x (sm st x) := Con.of ⟨hx, Or.inr rfl⟩
      exact a.tr (Con.of ⟨(hs x hx).1, Or.inl rfl⟩)
    · simp only [if_neg z]; exact Con.rf
  refine Nat.le_antisymm (cc_le (fun x => if col x = true then x else t x) (fun x hx _ => ?_) (fun x y hx hy _ _ q => ?_)) (cc_le (fun x => x) (fun x hx h => ?_) (fun x y hx hy vx vy q => ?_))
  · by_cases z : col x = true
    · simp only [if_pos z]
      exact ⟨hx, by rw [Bool.and_eq_true]; exact ⟨Vlt_iff.mpr hx, z⟩⟩
    · simp only [if_neg z]
      have z2 : col (t x) = true := by rw [h2 x hx]; simpa using z
      exact ⟨(ht x hx).1, by rw [Bool.and_eq_true]; exact ⟨Vlt_iff.mpr (ht x hx).1, z2⟩⟩
  · have g : ∀ x, x < 4 * c → Con (fR (4 * c) t (sm st)) x (if col x = true then x else t x) := fun x hx => by
      by_cases z : col x = true
      · rw [if_pos z]; exact Con.rf
      · rw [if_neg z]; exact Con.of ⟨hx, Or.inl rfl⟩
    exact (g x hx).tr ((q.mono pf).tr (g y hy).sy)
  · rw [Bool.and_eq_true] at h
    exact ⟨hx, h.1⟩
  · rw [Bool.and_eq_true] at vx vy
    have m := q.map (L2 := pR (4 * c) (fun x => if col x = true then t (sm st x) else x)) (fun x => if col x = true then x else t x) (fun u w z => by
      obtain ⟨hu, rfl | rfl⟩ := z
      · by_cases z : col u = true
        · have z2 : ¬ col (t u) = true := by rw [h2 u hu, z]; decide
          simp only [if_pos z, if_neg z2]
          exact Con.eq (ht u hu).2.1.symm
        · have z2 : col (t u) = true := by rw [h2 u hu]; simpa using z
          simp only [if_neg z, if_pos z2]
          exact Con.rf
      · have cs := col_sm h1 (st := st) hu
        by_cases z : col u = true
        · have z2 : ¬ col (sm st u) = true := by rw [cs, z]; decide
          simp only [if_pos z, if_neg z2]
          exact Con.of ⟨hu, by simp only [if_pos z]⟩
        · have z2 : col (sm st u) = true := by rw [cs]; simpa using z
          simp only [if_neg z, if_pos z2]
          refine Con.sy (Con.of ⟨(hs u hu).1, ?_⟩)
          simp only [if_pos z2]
          rw [(hs u hu).2.1])
    simp only [if_pos vx.2, if_pos vy.2] at m
    exact m
theorem loops_one {c : Nat} {t : Nat → Nat} {col : Nat → Bool} (ht : Inv2 (4 * c) t) (h1 : ∀ x, x < 4 * c → col (tn 1 x) = !col x) (h2 : ∀ x, x < 4 * c → col (t x) = !col x) {st v : Nat} (hv : v < c) :
    cc (Vlt (4 * c)) (fR (4 * c) t (sm (st ^^^ 2 ^ v))) (4 * c) = cc (Vlt (4 * c)) (fR (4 * c) t (sm st)) (4 * c) + 1 ∨ cc (Vlt (4 * c)) (fR (4 * c) t (sm st)) (4 * c) = cc (Vlt (4 * c)) (fR (4 * c) t (sm (st ^^^ 2 ^ v))) (4 * c) + 1 := by
  rw [col_cc ht h1 h2, col_cc ht h1 h2]
  have q1 := h1 (4 * v) (by omega)
  have q2 := h1 (4 * v + 1) (by omega)
  have q3 := h1 (4 * v + 2) (by omega)
  rw [show tn 1 (4 * v) = 4 * v + 1 by unfold tn; omega] at q1
  rw [show tn 1 (4 * v + 1) = 4 * v + 2 by unfold tn; omega] at q2
  rw [show tn 1 (4 * v + 2) = 4 * v + 3 by unfold tn; omega] at q3
  have key : ∀ a b, a < 4 * c → b < 4 * c → a / 4 = v → b / 4 = v → a ≠ b → col a = true → col b = true → (∀ x, x / 4 = v → x ≠ a → x ≠ b → col x = false) → sm (st ^^^ 2 ^ v) a = sm st b → sm (st ^^^ 2 ^ v) b = sm st a →
      cc (fun x => Vlt (4 * c) x && col x) (pR (4 * c) (fun x => if col x = true then t (sm (st ^^^ 2 ^ v) x) else x)) (4 * c) = cc (fun x => Vlt (4 * c) x && col x) (pR (4 * c) (fun x => if col x = true then t (sm st x) else x)) (4 * c) + 1 ∨ cc (fun x => Vlt (4 * c) x && col x) (pR (4 * c) (fun x => if col x = true then t (sm st x) else x)) (4 * c) = cc (fun x => Vlt (4 * c) x && col x) (pR (4 * c) (fun x => if col x = true then t (sm (st ^^^ 2 ^ v) x) else x)) (4 * c) + 1 := by
    intro a b ha hb ea eb hab ca cb oth sa sb
    have e : cc (fun x => Vlt (4 * c) x && col x) (pR (4 * c) (fun x => if col x = true then t (sm (st ^^^ 2 ^ v) x) else x)) (4 * c) = cc (fun x => Vlt (4 * c) x && col x) (pR (4 * c) (fun x => (fun y => if col y = true then t (sm st y) else y) (sw a b x))) (4 * c) := by
      refine pR_cong (fun x hx => ?_)
      show (if col x = true then t (sm (st ^^^ 2 ^ v) x) else x) = (if col (sw a b x) = true then t (sm st (sw a b x)) else sw a b x)
      by_cases xa : x = a
      · rw [xa, sw_a, if_pos ca, if_pos cb, sa]
      · by_cases xb : x = b
        · rw [xb, sw_b, if_pos ca, if_pos cb, sb]
        · rw [sw_o xa xb]
          by_cases z : x / 4 = v
          · have := oth x z xa xb
            rw [this]
            rfl
          · rw [sm_off (bit_off z)]
    rw [e]
    have hP := col_perm ht h1 h2 st
    have va : (fun x => Vlt (4 * c) x && col x) a = true := by
      show (Vlt (4 * c) a && col a) = true
      rw [ca, Vlt_iff.mpr ha]; rfl
    have vb : (fun x => Vlt (4 * c) x && col x) b = true := by
      show (Vlt (4 * c) b && col b) = true
      rw [cb, Vlt_iff.mpr hb]; rfl
    have hM : ∀ x, (fun x => Vlt (4 * c) x && col x) x = true → x < 4 * c := fun x hx => by
      have hx : (Vlt (4 * c) x && col x) = true := hx
      rw [Bool.and_eq_true] at hx
      exact Vlt_iff.mp hx.1
    by_cases w : Con (pR (4 * c) (fun y => if col y = true then t (sm st y) else y)) a b
    · exact Or.inl (cyc_split hP hM va vb hab w)
    · exact Or.inr (cyc_join hP hM va vb hab w)
  have m0 := sm_at (st := st) (v := v) (i := 0) (by omega)
  have m1 := sm_at (st := st) (v := v) (i := 1) (by omega)
  have m2 := sm_at (st := st) (v := v) (i := 2) (by omega)
  have m3 := sm_at (st := st) (v := v) (i := 3) (by omega)
  have n0 := sm_at (st := st ^^^ 2 ^ v) (v := v) (i := 0) (by omega)
  have n1 := sm_at (st := st ^^^ 2 ^ v) (v := v) (i := 1) (by omega)
  have n2 := sm_at (st := st ^^^ 2 ^ v) (v := v) (i := 2) (by omega)
  have n3 := sm_at (st := st ^^^ 2 ^ v) (v := v) (i := 3) (by omega)
  rw [bit_on] at n0 n1 n2 n3
  have cross : sm (st ^^^ 2 ^ v) (4 * v) = sm st (4 * v + 2) ∧ sm (st ^^^ 2 ^ v) (4 * v + 2) = sm st (4 * v) ∧ sm (st ^^^ 2 ^ v) (4 * v + 1) = sm st (4 * v + 3) ∧ sm (st ^^^ 2 ^ v) (4 * v + 3) = sm st (4 * v + 1) := by
    cases hb : st.testBit v with
    | false =>
      rw [hb] at m0 m1 m2 m3 n0 n1 n2 n3
      simp at m0 m1 m2 m3 n0 n1 n2 n3
      omega
    | true =>
      rw [hb] at m0 m1 m2 m3 n0 n1 n2 n3
      simp at m0 m1 m2 m3 n0 n1 n2 n3
      omega
  cases h : col (4 * v) with
  | true =>
    rw [h] at q1
    rw [q1] at q2
    rw [q2] at q3
    refine key (4 * v) (4 * v + 2) (by omega) (by omega) (by omega) (by omega) (by omega) h q2 (fun x hx n1 n2 => ?_) cross.1 cross.2.1
    rcases (show x = 4 * v + 1 ∨ x = 4 * v + 3 by omega) with r | r
    · rw [r, q1]; rfl
    · rw [r, q3]; rfl
  | false =>
    rw [h] at q1
    rw [q1] at q2
    rw [q2] at q3
    refine key (4 * v + 1) (4 * v + 3) (by omega) (by omega) (by omega) (by omega) (by omega) q1 q3 (fun x hx n1 n2 => ?_) cross.2.2.1 cross.2.2.2
    rcases (show x = 4 * v ∨ x = 4 * v + 2 by omega) with r | r
    · rw [r, h]
    · rw [r, q2]; rfl
theorem loops_planar {c o : Nat} {f : Nat → Nat} (hV : Vd c o f) (h0 : c + 2 * nCl c f 1 = cF (fp c f) (4 * c)) {st v : Nat} (hv : v < c) : nLo c f (st ^^^ 2 ^ v) = nLo c f st + 1 ∨ nLo c f st = nLo c f (st ^^^ 2 ^ v) + 1 := by
  rw [nCl_cc hV, ← gR_fR, faces_cc hV] at h0
  obtain ⟨col, hc⟩ := planar_col (ot_inv hV) h0
  rw [nLo_cc hV, nLo_cc hV]
  exact loops_one (ot_inv hV) (fun x hx => (hc x hx).1) (fun x hx => (hc x hx).2) hv
