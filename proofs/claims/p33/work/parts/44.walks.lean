/-! ===== sets of ends as masks ===== -/
theorem bt_one (j : Nat) : bt 1 j = (j == 0) := by
  by_cases q : j < 32
  · have : ∀ j, j < 32 → bt 1 j = (j == 0) := by decide +kernel
    exact this j q
  · rw [b_big (by omega)]; symm; simp; omega
theorem q_contains {m : Int32} {x : Nat} (hx : x < 32) : kX9_contains m (nI x) = some (if bt m x = true then 1 else 0) := by
  have e : ((iushr m (nI x)) &&& 1 : Int32) = if bt m x = true then 1 else 0 := by
    refine b_ext (fun i hi => ?_)
    unfold iushr
    rw [b_and, b_ushr x hx, bt_one]
    by_cases q : i = 0
    · subst q
      cases bt m x <;> simp [bt_one, b_0]
    · cases bt m x <;> simp [bt_one, b_0, q]
  unfold kX9_contains
  rw [e]
  cases bt m x <;> rfl
theorem q_bit (x : Nat) : kX9_bit (nI x) = some (ishl 1 (nI x)) := rfl
theorem bt_bit {x y : Nat} (hx : x < 32) (hy : y < 32) : bt (ishl 1 (nI x)) y = (y == x) := by
  unfold ishl
  rw [b_shl x hx _ hy, bt_one]
  rw [Bool.eq_iff_iff]
  simp
  omega
theorem bt_add {m : Int32} {x y : Nat} (hx : x < 32) (hy : y < 32) : bt (m ||| ishl 1 (nI x)) y = (bt m y || (y == x)) := by rw [b_or, bt_bit hx hy]
def tn (k e : Nat) : Nat := e / 4 * 4 + (e + k) % 4
theorem xor2 : ∀ x, x < 32 → x ^^^ 2 = tn 2 x := by decide +kernel
theorem xor2I {x : Nat} (h : x < 32) : (nI x ^^^ 2 : Int32) = nI (tn 2 x) := by
  rw [fa_lit 2, fb_xorI, xor2 x h]
theorem tn2_inv (c : Nat) : Inv2 (4 * c) (tn 2) := fun x hx => by unfold tn; omega
noncomputable def ot (c : Nat) (f : Nat → Nat) (e : Nat) : Nat := Classical.epsilon (fun t => Oth c f e t)
theorem ot_is {c o : Nat} {f : Nat → Nat} (h : Vd c o f) {e : Nat} (he : e < 4 * c) : Oth c f e (ot c f e) := Classical.epsilon_spec (h.2.2.2.2 e he)
theorem ot_inv {c o : Nat} {f : Nat → Nat} (h : Vd c o f) : Inv2 (4 * c) (ot c f) := fun x hx => by
  obtain ⟨h1, h2, h3, h4⟩ := ot_is h hx
  obtain ⟨g1, g2, g3, g4⟩ := ot_is h h1
  refine ⟨h1, ?_, h2⟩
  rcases h4 _ g1 (g3.trans h3) with q | q
  · exact q
  · exact absurd q g2
theorem ot_f {c o : Nat} {f : Nat → Nat} (h : Vd c o f) {x : Nat} (hx : x < 4 * c) : f (ot c f x) = f x := (ot_is h hx).2.2.1
theorem ot_only {c o : Nat} {f : Nat → Nat} (h : Vd c o f) {x y : Nat} (hx : x < 4 * c) (hy : y < 4 * c) (e : f x = f y) : y = x ∨ y = ot c f x := (ot_is h hx).2.2.2 y hy e.symm
/-! labels of the pairs (f j, f (tn k j)) -/
def lbT (f : Nat → Nat) (k : Nat) : Nat → Nat → Nat
  | 0 => fun n => n
  | i + 1 => lbU (lbT f k i) (f i) (f (tn k i))
theorem lbT_is (f : Nat → Nat) (k : Nat) : ∀ i, LbIs (fun x y => ∃ j, j < i ∧ x = f j ∧ y = f (tn k j)) (lbT f k i)
  | 0 => LbIs.id.mono (fun a b => ⟨fun h => h.elim, fun ⟨_, h, _⟩ => absurd h (Nat.not_lt_zero _)⟩)
  | i + 1 => ((lbT_is f k i).step (f i) (f (tn k i))).mono (fun a b => by
      constructor
      · rintro (⟨j, h1, h2⟩ | ⟨h1, h2⟩)
        · exact ⟨j, by omega, h2⟩
        · exact ⟨i, by omega, h1, h2⟩
      · rintro ⟨j, h1, h2, h3⟩
        by_cases q : j = i
        · subst q; exact Or.inr ⟨h2, h3⟩
        · exact Or.inl ⟨j, by omega, h2, h3⟩)
theorem tn_lt {k c e : Nat} (h : e < 4 * c) : tn k e < 4 * c := by unfold tn; omega
theorem lbT_pos {c o : Nat} {f : Nat → Nat} (h : Vd c o f) (k : Nat) : ∀ i, i ≤ 4 * c → ∀ n, 1 ≤ n → 1 ≤ lbT f k i n
  | 0, _ => fun n hn => hn
  | i + 1, hi => lbU_pos (lbT_pos h k i (by omega)) (h.2.2.2.1 i (by omega)).1 (h.2.2.2.1 _ (tn_lt (by omega))).1
theorem occ0 {c o : Nat} {f : Nat → Nat} (h : Vd c o f) : occB f 0 (4 * c) = false := by
  cases q : occB f 0 (4 * c) with
  | false => rfl
  | true =>
    obtain ⟨e, h1, h2⟩ := occB_iff.mp q
    have := (h.2.2.2.1 e h1).1
    omega
/-- how many classes of arcs the pairs (f j, f (tn k j)) leave -/
def nCl (c : Nat) (f : Nat → Nat) (k : Nat) : Nat := fb_ct (fun n => occB f n (4 * c) && (lbT f k (4 * c) n == n)) 17
/-- the classes counted by the ends that are the first of theirs -/
theorem nCl_first {c o : Nat} {f : Nat → Nat} (hV : Vd c o f) (k : Nat) : nCl c f k = fb_ct (fun e => !occB (fun e => lbT f k (4 * c) (f e)) (lbT f k (4 * c) (f e)) e) (4 * c) := by
  have hL := lbT_is f k (4 * c)
  unfold nCl
  rw [cnt_classes hL (fun a b => by
    rintro ⟨j, h1, h2, h3⟩
    exact ⟨⟨j, h1, h2.symm⟩, ⟨tn k j, tn_lt h1, h3.symm⟩⟩) 17]
  exact (cnt_first (fun e => lbT f k (4 * c) (f e)) 17 (4 * c) (fun e he => by
    have := hL.1 (f e)
    have := hV.le16 e
    omega)).symm
/-! enterFrom: the walk through a component -/
def sym (m : Int32) : Nat → Bool := fun x => bt m x || bt m (tn 2 x)
noncomputable def p2 (c : Nat) (f : Nat → Nat) (e : Nat) : Nat := ot c f (tn 2 e)
noncomputable def p2i (c : Nat) (f : Nat → Nat) (e : Nat) : Nat := tn 2 (ot c f e)
theorem p2_perm {c o : Nat} {f : Nat → Nat} (hV : Vd c o f) : Perm (4 * c) (p2 c f) (p2i c f) := fun x hx => by
  have ht := ot_inv hV
  have hs := tn2_inv c
  obtain ⟨a1, a2, a3⟩ := ht x hx
  obtain ⟨b1, b2, b3⟩ := hs x hx
  obtain ⟨c1, c2, c3⟩ := ht _ b1
  obtain ⟨d1, d2, d3⟩ := hs _ a1
  refine ⟨c1, d1, ?_, ?_⟩
  · unfold p2 p2i; rw [c2, b2]
  · unfold p2 p2i; rw [d2, a2]
theorem q_enterFrom {a : Nat → Int32} {c o : Nat} {f : Nat → Nat} (hA : Rp a f) (hV : Vd c o f) {m0 : Int32} {start : Nat} (hst : start < 4 * c) (hn : sym m0 start = false) (ht0 : ∀ x, x < 4 * c → sym m0 x = sym m0 (ot c f x)) :
    ∃ m, kX7_enterFrom (nI start) m0 (nI c) a = some m ∧ WC (4 * c) (tn 2) (ot c f) (sym m0) start (fun x => lbT f 2 (4 * c) (f x)) (sym m) ∧ (∀ y, y < 32 → (bt m y = true ↔ bt m0 y = true ∨ Orb (p2 c f) start y)) ∧
      ((∀ y, y < 4 * c → bt m0 y = true → bt m0 (tn 2 y) = false) → ∀ y, y < 4 * c → bt m y = true → bt m (tn 2 y) = false) := by
  have hc := hV.1
  have hs := tn2_inv c
  have ht := ot_inv hV
  have hp := p2_perm hV
  have hL := lbT_is f 2 (4 * c)
  have hRs : ∀ x, x < 4 * c → lbT f 2 (4 * c) (f (tn 2 x)) = lbT f 2 (4 * c) (f x) := fun x hx => (hL.2.2.1 _ _ ⟨x, hx, rfl, rfl⟩).symm
  have hRt : ∀ x, x < 4 * c → lbT f 2 (4 * c) (f (ot c f x)) = lbT f 2 (4 * c) (f x) := fun x hx => by rw [ot_f hV hx]
  have hs0 : ∀ x, x < 4 * c → sym m0 x = sym m0 (tn 2 x) := fun x hx => by unfold sym; rw [(hs x hx).2.1, Bool.or_comm]
  unfold kX7_enterFrom
  refine it3_way (fun i x y z => y = nI (itr (p2 c f) i start) ∧ z = nI i ∧ WI (4 * c) (tn 2) (ot c f) (sym m0) start (fun x => lbT f 2 (4 * c) (f x)) i (sym x) (itr (p2 c f) i start) ∧ (∀ w, w < 32 → (bt x w = true ↔ bt m0 w = true ∨ ∃ j, j < i ∧ itr (p2 c f) j start = w)) ∧
      ((∀ y, y < 4 * c → bt m0 y = true → bt m0 (tn 2 y) = false) → ∀ y, y < 4 * c → bt x y = true → bt x (tn 2 y) = false))
    (fun r => ∃ m, r = some m ∧ WC (4 * c) (tn 2) (ot c f) (sym m0) start (fun x => lbT f 2 (4 * c) (f x)) (sym m) ∧ (∀ y, y < 32 → (bt m y = true ↔ bt m0 y = true ∨ Orb (p2 c f) start y)) ∧ ((∀ y, y < 4 * c → bt m0 y = true → bt m0 (tn 2 y) = false) → ∀ y, y < 4 * c → bt m y = true → bt m (tn 2 y) = false))
    16 (fun K i x y z hi hI => ?_) ⟨rfl, rfl, WI.start hst hs0 ht0 hn, fun w _ => ⟨Or.inl, fun h => h.elim id (fun ⟨_, h, _⟩ => absurd h (Nat.not_lt_zero _))⟩, fun h => h⟩ (by omega)
  obtain ⟨rfl, rfl, hW, hb, hd⟩ := hI
  have w0 := hW.1
  have m0s : bt m0 start = false := by
    unfold sym at hn
    cases q : bt m0 start with
    | false => rfl
    | true => rw [q] at hn; cases hn
  unfold kX7_enterFrom_L1
  by_cases q : i = 16
  · left
    subst q
    have hcur := WI.fullCur hW (by omega)
    exact ⟨x, if_pos (by decide), WI.full ht hst hW (by omega), fun y hy => (hb y hy).trans (by rw [orb_iff (by omega) hcur]), hd⟩
  · by_cases q2 : bt x (itr (p2 c f) i start) = true
    · left
      have hcur := hW.2.2.2.2.1 (by unfold sym; rw [q2]; rfl)
      have hi1 : 1 ≤ i := by
        rcases Nat.eq_zero_or_pos i with z | z
        · subst z
          rcases (hb start (by omega)).mp q2 with r | ⟨_, r, _⟩
          · rw [m0s] at r; cases r
          · exact absurd r (Nat.not_lt_zero _)
        · exact z
      refine ⟨x, ?_, WI.stop ht hst hn hW (by unfold sym; rw [q2]; rfl), fun y hy => (hb y hy).trans (by rw [orb_iff hi1 hcur]), hd⟩
      rw [if_neg (by rw [fa_lit 16]; exact nI_ge (by omega) (by omega)), q_contains (by omega), bnd1_e, if_pos q2]
      rfl
    · right
      have q3 : bt x (itr (p2 c f) i start) = false := by simpa using q2
      have hsc : sym x (itr (p2 c f) i start) = false := by
        cases z : sym x (itr (p2 c f) i start) with
        | false => rfl
        | true =>
          have e := hW.2.2.2.2.1 z
          rcases Nat.eq_zero_or_pos i with r | r
          · subst r
            rcases hW.2.2.2.1 with ⟨_, _, r⟩ | ⟨_, r⟩
            · rw [r _ w0, e, hn] at z; cases z
            · have e2 : ∀ w, w < 32 → (bt x w = bt m0 w) := fun w hw => by
                rw [Bool.eq_iff_iff, hb w hw]
                exact ⟨fun h => h.elim id (fun ⟨_, h, _⟩ => absurd h (Nat.not_lt_zero _)), Or.inl⟩
              have t1 := (hs start hst).1
              unfold sym at r hn
              rw [e2 _ (by omega), e2 _ (by omega), hn] at r
              cases r
          · have := (hb start (by omega)).mpr (Or.inr ⟨0, r, rfl⟩)
            rw [← e, q3] at this
            cases this
      obtain ⟨t1, t2, t3⟩ := hs _ w0
      have ho := ot_is hV t1
      refine ⟨by omega, x ||| ishl 1 (nI (itr (p2 c f) i start)), nI (itr (p2 c f) (i + 1) start), nI (i + 1), ?_, rfl, rfl, WI.step hs ht hRs hRt hst hW hsc (fun y hy => ?_), fun w hw => ?_, fun hd0 y hy hy2 => ?_⟩
      · rw [if_neg (by rw [fa_lit 16]; exact nI_ge (by omega) (by omega)), q_contains (by omega), bnd1_e, if_neg q2, if_pos rfl, q_bit, bnd1_e, xor2I (by omega), q_oe hA hc t1 ho, bnd1_e, nI_1]
        rfl
      · have ty := (hs y hy).1
        unfold sym
        rw [bt_add (by omega) (by omega), bt_add (by omega) (by omega)]
        have e1 : (tn 2 y == itr (p2 c f) i start) = (y == tn 2 (itr (p2 c f) i start)) := by
          rw [Bool.eq_iff_iff]
          simp only [beq_iff_eq]
          exact ⟨fun e => by rw [← e, (hs y hy).2.1], fun e => by rw [e, t2]⟩
        rw [e1]
        cases bt x y <;> cases bt x (tn 2 y) <;> cases (y == itr (p2 c f) i start) <;> cases (y == tn 2 (itr (p2 c f) i start)) <;> rfl
      · rw [bt_add (by omega) hw, Bool.or_eq_true, hb w hw, beq_iff_eq]
        constructor
        · rintro ((h | ⟨j, h1, h2⟩) | h)
          · exact Or.inl h
          · exact Or.inr ⟨j, by omega, h2⟩
          · exact Or.inr ⟨i, by omega, h.symm⟩
        · rintro (h | ⟨j, h1, h2⟩)
          · exact Or.inl (Or.inl h)
          · by_cases z : j = i
            · subst z; exact Or.inr h2.symm
            · exact Or.inl (Or.inr ⟨j, by omega, h2⟩)
      · have hd1 := hd hd0
        have ty := (hs y hy).1
        rw [bt_add (by omega) (by omega), Bool.or_eq_true, beq_iff_eq] at hy2
        rw [bt_add (by omega) (by omega)]
        have hsc2 : bt x (tn 2 (itr (p2 c f) i start)) = false := by
          unfold sym at hsc
          rw [q3] at hsc
          exact hsc
        rcases hy2 with h | h
        · rw [hd1 y hy h, Bool.false_or]
          have : tn 2 y ≠ itr (p2 c f) i start := fun e => by
            rw [← e, (hs y hy).2.1] at hsc2
            rw [h] at hsc2
            cases hsc2
          simpa using this
        · rw [h, hsc2, Bool.false_or]
          simpa using t3
theorem q_count {a : Nat → Int32} {c o : Nat} {f : Nat → Nat} (hA : Rp a f) (hV : Vd c o f) : kX7_count (nI c) a = some (nI (nCl c f 2)) := by
  have hc := hV.1
  have hs := tn2_inv c
  have ht := ot_inv hV
  have hL := lbT_is f 2 (4 * c)
  have hRs : ∀ x, x < 4 * c → lbT f 2 (4 * c) (f (tn 2 x)) = lbT f 2 (4 * c) (f x) := fun x hx => (hL.2.2.1 _ _ ⟨x, hx, rfl, rfl⟩).symm
  have hRt : ∀ x, x < 4 * c → lbT f 2 (4 * c) (f (ot c f x)) = lbT f 2 (4 * c) (f x) := fun x hx => by rw [ot_f hV hx]
  rw [nCl_first hV 2]
  unfold kX7_count
  rw [q_endCount, bnd1_e]
  refine it3_inv (fun i x y z => z = nI i ∧ y = nI (fb_ct (fun e => !occB (fun e => lbT f 2 (4 * c) (f e)) (lbT f 2 (4 * c) (f e)) e) i) ∧ ∀ e, e < 4 * c → (sym x e = true ↔ occB (fun e => lbT f 2 (4 * c) (f e)) (lbT f 2 (4 * c) (f e)) i = true)) (fun r => r = some (nI (fb_ct (fun e => !occB (fun e => lbT f 2 (4 * c) (f e)) (lbT f 2 (4 * c) (f e)) e) (4 * c)))) (4 * c) (fun K i x y z hi hI => ?_) (fun K x y z hI => ?_) ⟨rfl, rfl, fun e he => ?_⟩ (by omega)
  · obtain ⟨rfl, rfl, hS⟩ := hI
    have hSi := hS i hi
    have s1 := fb_ct_succ (fun e => !occB (fun e => lbT f 2 (4 * c) (f e)) (lbT f 2 (4 * c) (f e)) e) i
    have t1 := (hs i hi).1
    have g0 : ¬ nI (4 * c) ≤ nI i := nI_ge hi (by omega)
    have old : sym x i = true → (∀ e, e < 4 * c → (sym x e = true ↔ occB (fun e => lbT f 2 (4 * c) (f e)) (lbT f 2 (4 * c) (f e)) (i + 1) = true)) := fun hs1 e he => by
      rw [hS e he]
      show _ ↔ (occB _ _ i || _) = true
      rw [Bool.or_eq_true]
      refine ⟨Or.inl, fun q => q.elim id (fun q => ?_)⟩
      have q := beq_iff_eq.mp q
      have q2 := hSi.mp hs1
      rw [← q]
      exact q2
    unfold kX7_count_L1
    rw [if_neg g0, q_contains (by omega), bnd1_e]
    by_cases b1 : bt x i = true
    · have hsy : sym x i = true := by unfold sym; rw [b1]; rfl
      refine ⟨x, nI (fb_ct (fun e => !occB (fun e => lbT f 2 (4 * c) (f e)) (lbT f 2 (4 * c) (f e)) e) (i + 1)), nI (i + 1), ?_, rfl, rfl, old hsy⟩
      rw [if_pos b1, if_neg (by decide), s1, hSi.mp hsy, nI_1]
      rfl
    · rw [if_neg b1, if_pos rfl, xor2I (by omega), q_contains (by omega), bnd1_e]
      by_cases b2 : bt x (tn 2 i) = true
      · have hsy : sym x i = true := by unfold sym; rw [b2, Bool.or_true]
        refine ⟨x, nI (fb_ct (fun e => !occB (fun e => lbT f 2 (4 * c) (f e)) (lbT f 2 (4 * c) (f e)) e) (i + 1)), nI (i + 1), ?_, rfl, rfl, old hsy⟩
        rw [if_pos b2, if_neg (by decide), s1, hSi.mp hsy, nI_1]
        rfl
      · have hsy : sym x i = false := by
          unfold sym
          simp at b1 b2
          rw [b1, b2]; rfl
        have hno : occB (fun e => lbT f 2 (4 * c) (f e)) (lbT f 2 (4 * c) (f i)) i = false := by
          cases z : occB (fun e => lbT f 2 (4 * c) (f e)) (lbT f 2 (4 * c) (f i)) i with
          | false => rfl
          | true => rw [hSi.mpr z] at hsy; cases hsy
        obtain ⟨m, e1, e2, -, -⟩ := q_enterFrom hA hV hi hsy (fun e he => by
          rw [Bool.eq_iff_iff, hS e he, hS _ (ht e he).1, hRt e he])
        have e3 := WC.is ht hi hL (fun a b => by
          rintro ⟨j, h1, h2, h3⟩
          exact ⟨j, h1, Or.inl ⟨h2.symm, h3.symm⟩⟩) hs (fun x y hx hy e => ot_only hV hx hy e) e2
        refine ⟨m, nI (fb_ct (fun e => !occB (fun e => lbT f 2 (4 * c) (f e)) (lbT f 2 (4 * c) (f e)) e) (i + 1)), nI (i + 1), ?_, rfl, rfl, fun e he => ?_⟩
        · rw [if_neg b2, if_pos rfl, e1, bnd1_e, s1, hno, nI_1, nI_1]
          rfl
        · rw [e3 e he, hS e he]
          show _ ↔ (occB _ _ i || _) = true
          rw [Bool.or_eq_true, beq_iff_eq]
          exact ⟨fun q => q.elim Or.inl (fun q => Or.inr q.symm), fun q => q.elim Or.inl (fun q => Or.inr q.symm)⟩
  · obtain ⟨rfl, rfl, hS⟩ := hI
    unfold kX7_count_L1
    rw [if_pos (nI_le (Nat.le_refl _) (by omega))]
  · unfold sym
    rw [b_0, b_0]
    exact ⟨fun h => (by cases h), fun h => (by cases h)⟩
