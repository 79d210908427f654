/-! ===== the loops of a state ===== -/
/-- the end to which the state st joins the end e at its crossing -/
def sm (st : Nat) (e : Nat) : Nat := if st.testBit (e / 4) = true then 4 * (e / 4) + (3 - e % 4) else 4 * (e / 4) + (if e % 2 = 0 then e % 4 + 1 else e % 4 - 1)
theorem sm_inv (st c : Nat) : Inv2 (4 * c) (sm st) := fun x hx => by
  have d : ∀ y, y / 4 = x / 4 → (st.testBit (y / 4) = true ↔ st.testBit (x / 4) = true) := fun y e => by rw [e]
  unfold sm
  by_cases q : st.testBit (x / 4) = true
  · rw [if_pos q]
    have e : (4 * (x / 4) + (3 - x % 4)) / 4 = x / 4 := by omega
    rw [e, if_pos q]
    omega
  · rw [if_neg q]
    by_cases p : x % 2 = 0
    · rw [if_pos p]
      have e : (4 * (x / 4) + (x % 4 + 1)) / 4 = x / 4 := by omega
      rw [e, if_neg q, if_neg (by omega)]
      omega
    · rw [if_neg p]
      have e : (4 * (x / 4) + (x % 4 - 1)) / 4 = x / 4 := by omega
      rw [e, if_neg q, if_pos (by omega)]
      omega
/-- the second arcs of the reference's two joins at a crossing -/
def lbS (f : Nat → Nat) (st : Nat) : Nat → Nat → Nat
  | 0 => fun n => n
  | k + 1 => lbU (lbU (lbS f st k) (f (4 * k)) (f (sm st (4 * k)))) (f (4 * k + 2)) (f (sm st (4 * k + 2)))
theorem lbS_is (f : Nat → Nat) (st : Nat) : ∀ k, LbIs (fun x y => ∃ j, j < k ∧ ((x = f (4 * j) ∧ y = f (sm st (4 * j))) ∨ (x = f (4 * j + 2) ∧ y = f (sm st (4 * j + 2))))) (lbS f st k)
  | 0 => LbIs.id.mono (fun a b => ⟨fun h => h.elim, fun ⟨_, h, _⟩ => absurd h (Nat.not_lt_zero _)⟩)
  | k + 1 => (((lbS_is f st k).step (f (4 * k)) (f (sm st (4 * k)))).step (f (4 * k + 2)) (f (sm st (4 * k + 2)))).mono (fun a b => by
      constructor
      · rintro ((⟨j, h1, h2⟩ | h) | h)
        · exact ⟨j, by omega, h2⟩
        · exact ⟨k, by omega, Or.inl h⟩
        · exact ⟨k, by omega, Or.inr h⟩
      · rintro ⟨j, h1, h2⟩
        by_cases q : j = k
        · subst q
          exact h2.elim (fun h => Or.inl (Or.inr h)) Or.inr
        · exact Or.inl (Or.inl ⟨j, by omega, h2⟩))
theorem lbS_pos {c o : Nat} {f : Nat → Nat} (h : Vd c o f) (st : Nat) : ∀ k, k ≤ c → ∀ n, 1 ≤ n → 1 ≤ lbS f st k n
  | 0, _ => fun n hn => hn
  | k + 1, hk => by
    have hs := sm_inv st c
    exact lbU_pos (lbU_pos (lbS_pos h st k (by omega)) (h.2.2.2.1 (4 * k) (by omega)).1 (h.2.2.2.1 _ (hs (4 * k) (by omega)).1).1) (h.2.2.2.1 (4 * k + 2) (by omega)).1 (h.2.2.2.1 _ (hs (4 * k + 2) (by omega)).1).1
/-- the loops without the circles -/
def nLo (c : Nat) (f : Nat → Nat) (st : Nat) : Nat := fb_ct (fun n => occB f n (4 * c) && (lbS f st c n == n)) 17
theorem nLo_le (c : Nat) {o : Nat} {f : Nat → Nat} (hV : Vd c o f) (st : Nat) : nLo c f st ≤ 16 := by
  have h2 := fb_ct_le (fun k => (fun n => occB f n (4 * c) && (lbS f st c n == n)) (1 + k)) 16
  have h3 : fb_ct (fun n => occB f n (4 * c) && (lbS f st c n == n)) 1 = 0 := by
    rw [fb_ct_succ]
    simp [occ0 hV, fb_ct]
  unfold nLo
  rw [show 17 = 1 + 16 from rfl, fb_ct_split, h3, Nat.zero_add]
  exact h2
theorem occ_S {c : Nat} (f : Nat → Nat) (st : Nat) : ∀ a b, (∃ j, j < c ∧ ((a = f (4 * j) ∧ b = f (sm st (4 * j))) ∨ (a = f (4 * j + 2) ∧ b = f (sm st (4 * j + 2))))) → (∃ e, e < 4 * c ∧ f e = a) ∧ ∃ e, e < 4 * c ∧ f e = b := fun a b => by
  have hs := sm_inv st c
  rintro ⟨j, h1, ⟨h2, h3⟩ | ⟨h2, h3⟩⟩
  · exact ⟨⟨4 * j, by omega, h2.symm⟩, ⟨_, (hs (4 * j) (by omega)).1, h3.symm⟩⟩
  · exact ⟨⟨4 * j + 2, by omega, h2.symm⟩, ⟨_, (hs (4 * j + 2) (by omega)).1, h3.symm⟩⟩
theorem nLo_first {c o : Nat} {f : Nat → Nat} (hV : Vd c o f) (st : Nat) : nLo c f st = fb_ct (fun e => !occB (fun e => lbS f st c (f e)) (lbS f st c (f e)) e) (4 * c) := by
  have hL := lbS_is f st c
  unfold nLo
  rw [cnt_classes hL (occ_S f st) 17]
  exact (cnt_first (fun e => lbS f st c (f e)) 17 (4 * c) (fun e he => by
    have := hL.1 (f e)
    have := hV.le16 e
    omega)).symm
theorem smL {c : Nat} {f : Nat → Nat} {st x : Nat} (hx : x < 4 * c) : lbS f st c (f (sm st x)) = lbS f st c (f x) := by
  have hL := (lbS_is f st c).2.2.1
  have hs := sm_inv st c
  have p0 := hL _ _ ⟨x / 4, by omega, Or.inl ⟨rfl, rfl⟩⟩
  have p2 := hL _ _ ⟨x / 4, by omega, Or.inr ⟨rfl, rfl⟩⟩
  have d0 : 4 * (x / 4) / 4 = x / 4 := by omega
  have d2 : (4 * (x / 4) + 2) / 4 = x / 4 := by omega
  by_cases q : st.testBit (x / 4) = true
  · have s0 : sm st (4 * (x / 4)) = 4 * (x / 4) + 3 := by unfold sm; rw [d0, if_pos q]; omega
    have s2 : sm st (4 * (x / 4) + 2) = 4 * (x / 4) + 1 := by unfold sm; rw [d2, if_pos q]; omega
    have sx : sm st x = 4 * (x / 4) + (3 - x % 4) := by unfold sm; rw [if_pos q]
    rw [s0] at p0
    rw [s2] at p2
    rw [sx]
    rcases (show x % 4 = 0 ∨ x % 4 = 1 ∨ x % 4 = 2 ∨ x % 4 = 3 by omega) with r | r | r | r
    · rw [r, show 4 * (x / 4) + (3 - 0) = 4 * (x / 4) + 3 by omega, ← p0, show 4 * (x / 4) = x by omega]
    · rw [r, show 4 * (x / 4) + (3 - 1) = 4 * (x / 4) + 2 by omega, p2, show 4 * (x / 4) + 1 = x by omega]
    · rw [r, show 4 * (x / 4) + (3 - 2) = 4 * (x / 4) + 1 by omega, ← p2, show 4 * (x / 4) + 2 = x by omega]
    · rw [r, show 4 * (x / 4) + (3 - 3) = 4 * (x / 4) by omega, p0, show 4 * (x / 4) + 3 = x by omega]
  · have s0 : sm st (4 * (x / 4)) = 4 * (x / 4) + 1 := by unfold sm; rw [d0, if_neg q, if_pos (by omega)]; omega
    have s2 : sm st (4 * (x / 4) + 2) = 4 * (x / 4) + 3 := by unfold sm; rw [d2, if_neg q, if_pos (by omega)]; omega
    have sx : sm st x = 4 * (x / 4) + (if x % 2 = 0 then x % 4 + 1 else x % 4 - 1) := by unfold sm; rw [if_neg q]
    rw [s0] at p0
    rw [s2] at p2
    rw [sx]
    rcases (show x % 4 = 0 ∨ x % 4 = 1 ∨ x % 4 = 2 ∨ x % 4 = 3 by omega) with r | r | r | r
    · rw [if_pos (by omega), r, show 4 * (x / 4) + (0 + 1) = 4 * (x / 4) + 1 by omega, ← p0, show 4 * (x / 4) = x by omega]
    · rw [if_neg (by omega), r, show 4 * (x / 4) + (1 - 1) = 4 * (x / 4) by omega, p0, show 4 * (x / 4) + 1 = x by omega]
    · rw [if_pos (by omega), r, show 4 * (x / 4) + (2 + 1) = 4 * (x / 4) + 3 by omega, ← p2, show 4 * (x / 4) + 2 = x by omega]
    · rw [if_neg (by omega), r, show 4 * (x / 4) + (3 - 1) = 4 * (x / 4) + 2 by omega, p2, show 4 * (x / 4) + 3 = x by omega]
/-! the class's -/
def OeR (c : Nat) (f : Nat → Nat) (oe : Nat → Int32) : Prop := ∀ e, e < 4 * c → oe e = nI (ot c f e)
theorem q_note {a : Nat → Int32} {c o : Nat} {f : Nat → Nat} (hA : Rp a f) (hV : Vd c o f) (oe : Nat → Int32) : ∃ oe', kX0_noteOtherEnds oe (nI c) a = some oe' ∧ OeR c f oe' := by
  have hc := hV.1
  unfold kX0_noteOtherEnds
  refine it2_inv (F := kX0_noteOtherEnds_L1 (nI c) a) (x1 := 0) (x2 := oe) (n := 400) (fun i x y => x = nI i ∧ ∀ e, e < 4 * c → e < i → y e = nI (ot c f e)) (fun r => ∃ oe', r = some oe' ∧ OeR c f oe') 32 (fun K i x y hi hI => ?_) (fun K x y hI => ?_) ⟨rfl, fun e _ h => absurd h (Nat.not_lt_zero _)⟩ (by omega)
  · obtain ⟨rfl, hy⟩ := hI
    have g0 : ¬ (32 : Int32) ≤ nI i := by rw [fa_lit 32]; exact nI_ge (by omega) (by omega)
    rcases Nat.lt_or_ge i (4 * c) with q | q
    · have ho := ot_is hV q
      refine ⟨nI (i + 1), upd y i (nI (ot c f i)), ?_, rfl, fun e he h => ?_⟩
      · unfold kX0_noteOtherEnds_L1
        rw [if_neg g0, q_oe hA hc q ho, bnd1_e, ck_nI (by omega) (by omega), nI_clamp (by omega), nI_1]
      · by_cases z : e = i
        · subst z; rw [pk_us]
        · rw [pk_un z]; exact hy e he (by omega)
    · refine ⟨nI (i + 1), upd y i (nI i), ?_, rfl, fun e he h => ?_⟩
      · unfold kX0_noteOtherEnds_L1
        rw [if_neg g0, q_oeNone hA hc (by omega) (fun x hx e => by
          have h1 := (hV.2.2.2.1 x hx).1
          have h2 := hV.2.2.1 i q
          omega), bnd1_e, ck_nI (by omega) (by omega), nI_clamp (by omega), nI_1]
      · rw [pk_un (by omega)]; exact hy e he (by omega)
  · obtain ⟨rfl, hy⟩ := hI
    refine ⟨y, ?_, fun e he => hy e he (by omega)⟩
    unfold kX0_noteOtherEnds_L1
    rw [if_pos (by decide)]
theorem bt_nI {n i : Nat} (h : n < 2 ^ 31) : bt (nI n) i = n.testBit i := by
  unfold bt
  rw [show (nI n).toBitVec = BitVec.ofNat 32 n from rfl, BitVec.getLsbD_ofNat]
  by_cases q : i < 32
  · simp [q]
  · simp [q]
    exact Nat.testBit_lt_two_pow (Nat.lt_of_lt_of_le h (Nat.pow_le_pow_right (show 0 < 2 by omega) (show 31 ≤ i by omega)))
theorem xor1 : ∀ x, x < 32 → (nI x ^^^ 1 : Int32) = nI (4 * (x / 4) + (if x % 2 = 0 then x % 4 + 1 else x % 4 - 1)) := by decide +kernel
theorem xor3 : ∀ x, x < 32 → (nI x ^^^ 3 : Int32) = nI (4 * (x / 4) + (3 - x % 4)) := by decide +kernel
theorem q_followLoop {oe : Nat → Int32} {c o : Nat} {f : Nat → Nat} (hO : OeR c f oe) (hV : Vd c o f) {st : Nat} (hst0 : st < 2 ^ 31) {m0 : Int32} {start : Nat} (hst : start < 4 * c) (hn : bt m0 start = false) (hs0 : ∀ x, x < 4 * c → bt m0 x = bt m0 (sm st x)) (ht0 : ∀ x, x < 4 * c → bt m0 x = bt m0 (ot c f x)) :
    ∃ m, kX0_followLoop (nI start) (nI st) m0 oe = some m ∧ WC (4 * c) (sm st) (ot c f) (bt m0) start (fun x => lbS f st c (f x)) (bt m) := by
  have hc := hV.1
  have hs := sm_inv st c
  have ht := ot_inv hV
  have hRs : ∀ x, x < 4 * c → lbS f st c (f (sm st x)) = lbS f st c (f x) := fun x hx => smL hx
  have hRt : ∀ x, x < 4 * c → lbS f st c (f (ot c f x)) = lbS f st c (f x) := fun x hx => by rw [ot_f hV hx]
  unfold kX0_followLoop
  refine it3_way (F := kX0_followLoop_L1 (nI st) (nI start) oe) (x1 := m0) (x2 := nI start) (x3 := 0) (n := 400) (fun i x y z => ∃ cur, y = nI cur ∧ z = nI i ∧ WI (4 * c) (sm st) (ot c f) (bt m0) start (fun x => lbS f st c (f x)) i (bt x) cur) (fun r => ∃ m, r = some m ∧ WC (4 * c) (sm st) (ot c f) (bt m0) start (fun x => lbS f st c (f x)) (bt m)) 32 (fun K i x y z hi hI => ?_) ⟨start, rfl, rfl, WI.start hst hs0 ht0 hn⟩ (by omega)
  obtain ⟨cur, rfl, rfl, hW⟩ := hI
  have w0 := hW.1
  obtain ⟨t1, t2, t3⟩ := hs cur w0
  unfold kX0_followLoop_L1
  by_cases q : i = 32
  · left
    subst q
    exact ⟨x, if_pos (by decide), WI.full ht hst hW (by omega)⟩
  · have g0 : ¬ (32 : Int32) ≤ nI i := by rw [fa_lit 32]; exact nI_ge (by omega) (by omega)
    rw [if_neg g0, q_contains (by omega), bnd1_e]
    by_cases q2 : bt x cur = true
    · left
      exact ⟨x, by rw [if_pos q2]; rfl, WI.stop ht hst hn hW q2⟩
    · right
      have q3 : bt x cur = false := by simpa using q2
      have g1 : ¬ nI (sm st cur) < 0 := nI_pos (by omega)
      have g2 : ¬ (32 : Int32) ≤ nI (sm st cur) := by rw [fa_lit 32]; exact nI_ge (by omega) (by omega)
      have run : kX0_followLoop_J2 (nI cur) K x (nI start) (nI i) oe (nI (sm st cur)) = K (x ||| (ishl 1 (nI cur) ||| ishl 1 (nI (sm st cur)))) (nI (ot c f (sm st cur))) (nI (i + 1)) := by
        unfold kX0_followLoop_J2
        rw [q_bit, bnd1_e, q_bit, bnd1_e, if_neg g1, if_neg g2, ck_nI (by omega) (by omega), nI_clamp (by omega), hO _ t1, nI_1]
      refine ⟨by omega, x ||| (ishl 1 (nI cur) ||| ishl 1 (nI (sm st cur))), nI (ot c f (sm st cur)), nI (i + 1), ?_, ot c f (sm st cur), rfl, rfl, WI.step hs ht hRs hRt hst hW q3 (fun y hy => ?_)⟩
      · rw [if_neg q2, if_pos rfl, shr2 (by omega), q_contains (by omega), bnd1_e, bt_nI hst0]
        by_cases b : st.testBit (cur / 4) = true
        · have e : sm st cur = 4 * (cur / 4) + (3 - cur % 4) := if_pos b
          rw [if_pos b, if_neg (by decide), xor3 cur (by omega), ← e, run]
        · have e : sm st cur = 4 * (cur / 4) + (if cur % 2 = 0 then cur % 4 + 1 else cur % 4 - 1) := if_neg b
          rw [if_neg b, if_pos rfl, xor1 cur (by omega), ← e, run]
      · rw [b_or, b_or, bt_bit (by omega) (by omega), bt_bit (by omega) (by omega)]
theorem q_countLoops {oe : Nat → Int32} {c o : Nat} {f : Nat → Nat} (hO : OeR c f oe) (hV : Vd c o f) {st : Nat} (hst0 : st < 2 ^ 31) : kX0_countLoops (nI st) oe (nI c) (nI o) = some (nI (o + nLo c f st)) := by
  have hc := hV.1
  have hs := sm_inv st c
  have ht := ot_inv hV
  have hL := lbS_is f st c
  rw [nLo_first hV st]
  unfold kX0_countLoops
  rw [q_endCount, bnd1_e]
  refine it3_inv (F := kX0_countLoops_L1 (nI (4 * c)) (nI st) oe) (x1 := 0) (x2 := nI o) (x3 := 0) (n := 400) (fun i x y z => z = nI i ∧ y = nI (o + fb_ct (fun e => !occB (fun e => lbS f st c (f e)) (lbS f st c (f e)) e) i) ∧ (∀ e, e < 4 * c → (bt x e = true ↔ occB (fun e => lbS f st c (f e)) (lbS f st c (f e)) i = true))) (fun r => r = some (nI (o + fb_ct (fun e => !occB (fun e => lbS f st c (f e)) (lbS f st c (f e)) e) (4 * c)))) (4 * c) (fun K i x y z hi hI => ?_) (fun K x y z hI => ?_) ⟨rfl, rfl, fun e he => ?_⟩ (by omega)
  · obtain ⟨rfl, rfl, hS⟩ := hI
    have hSi := hS i hi
    have s1 := fb_ct_succ (fun e => !occB (fun e => lbS f st c (f e)) (lbS f st c (f e)) e) i
    unfold kX0_countLoops_L1
    rw [if_neg (nI_ge hi (by omega)), q_contains (by omega), bnd1_e]
    by_cases b1 : bt x i = true
    · have b2 := hSi.mp b1
      refine ⟨x, nI (o + fb_ct (fun e => !occB (fun e => lbS f st c (f e)) (lbS f st c (f e)) e) (i + 1)), nI (i + 1), ?_, rfl, rfl, fun e he => ?_⟩
      · rw [if_pos b1, if_neg (by decide), s1, b2, nI_1]; rfl
      · rw [hS e he]
        show _ ↔ (occB _ _ i || _) = true
        rw [Bool.or_eq_true, beq_iff_eq]
        exact ⟨Or.inl, fun q => q.elim id (fun q => by rw [← q]; exact b2)⟩
    · have b1' : bt x i = false := by simpa using b1
      have b2 : occB (fun e => lbS f st c (f e)) (lbS f st c (f i)) i = false := by
        cases z : occB (fun e => lbS f st c (f e)) (lbS f st c (f i)) i with
        | false => rfl
        | true => exact absurd (hSi.mpr z) b1
      obtain ⟨m, e1, e2⟩ := q_followLoop hO hV hst0 hi b1' (fun e he => by
        rw [Bool.eq_iff_iff, hS e he, hS _ (hs e he).1, smL he]) (fun e he => by
        rw [Bool.eq_iff_iff, hS e he, hS _ (ht e he).1, ot_f hV he])
      have e3 := WC.is ht hi hL (fun a b => by
        rintro ⟨j, h1, ⟨h2, h3⟩ | ⟨h2, h3⟩⟩
        · exact ⟨4 * j, by omega, Or.inl ⟨h2.symm, h3.symm⟩⟩
        · exact ⟨4 * j + 2, by omega, Or.inl ⟨h2.symm, h3.symm⟩⟩) hs (fun x y hx hy e => ot_only hV hx hy e) e2
      refine ⟨m, nI (o + fb_ct (fun e => !occB (fun e => lbS f st c (f e)) (lbS f st c (f e)) e) (i + 1)), nI (i + 1), ?_, rfl, rfl, fun e he => ?_⟩
      · rw [if_neg b1, if_pos rfl, e1, bnd1_e, s1, b2, nI_1, nI_1]
        rfl
      · rw [e3 e he, hS e he]
        show _ ↔ (occB _ _ i || _) = true
        rw [Bool.or_eq_true, beq_iff_eq]
        exact ⟨fun q => q.elim Or.inl (fun q => Or.inr q.symm), fun q => q.elim Or.inl (fun q => Or.inr q.symm)⟩
  · obtain ⟨rfl, rfl, hS⟩ := hI
    unfold kX0_countLoops_L1
    rw [if_pos (nI_le (Nat.le_refl _) (by omega))]
  · rw [b_0]
    exact ⟨fun h => (by cases h), fun h => (by cases h)⟩
/-! the reference's -/
theorem shrBit {st k : Nat} (hst : st < 2 ^ 31) (hk : k < 32) : ((ishr (nI st) (nI k)) &&& 1 : Int32) = if st.testBit k = true then 1 else 0 := by
  refine b_ext (fun i hi => ?_)
  unfold ishr
  rw [b_and, b_sshr k hk _ hi, bt_one]
  by_cases q : i = 0
  · subst q
    rw [Nat.add_zero, if_pos hk, bt_nI hst]
    cases st.testBit k <;> simp [bt_one, b_0]
  · cases st.testBit k <;> simp [bt_one, b_0, q]
