/-! ===== the class's bracket ===== -/
def pc (st : Nat) : Nat := fb_ct (fun k => st.testBit k) 8
theorem q_bitCount : ∀ st, st < 256 → kJ6_bitCount_0f7a4 (nI st) = some (nI (pc st)) := by decide +kernel
theorem pc_c {c st : Nat} (hc : c ≤ 8) (h : st < 2 ^ c) : pc st = fb_ct (fun k => st.testBit k) c := by
  unfold pc
  have e := fb_ct_split (fun k => st.testBit k) c (8 - c)
  rw [show c + (8 - c) = 8 by omega] at e
  rw [e]
  have z : fb_ct (fun k => (fun k => st.testBit k) (c + k)) (8 - c) = 0 := fb_ct_zero.mpr (fun k _ => Nat.testBit_lt_two_pow (Nat.lt_of_lt_of_le h (Nat.pow_le_pow_right (by omega) (by omega))))
  rw [z]
  rfl
theorem pc_le {c st : Nat} (hc : c ≤ 8) (h : st < 2 ^ c) : pc st ≤ c := by
  rw [pc_c hc h]
  exact fb_ct_le _ _
theorem two_c {c : Nat} (hc : c ≤ 8) : 2 ^ c ≤ 256 := by
  have := Nat.pow_le_pow_right (show 0 < 2 by omega) hc
  omega
theorem shlOne : ∀ c, c ≤ 8 → (ishl 1 (nI c) : Int32) = nI (2 ^ c) := by decide +kernel
/-- the loops of a state, circles included; what it adds to the bracket at place i -/
def Lo (c o : Nat) (f : Nat → Nat) (st : Nat) : Nat := o + nLo c f st
def brk (c o : Nat) (f : Nat → Nat) (i : Nat) : Int32 := sI (fun st => gI (Lo c o f st) (60 + c - 2 * pc st) i) (2 ^ c)
def TaR (c o : Nat) (f : Nat → Nat) (n : Nat) (T : Nat → Int32) : Prop := ∀ j, j < 189 → T j = nI (fb_ct (fun st => Lo c o f st * 9 + pc st == j) n)
theorem q_tally {oe : Nat → Int32} {c o : Nat} {f : Nat → Nat} (hO : OeR c f oe) (hV : Vd c o f) (T : Nat → Int32) : ∃ T', kX0_tallyStates oe T (nI c) (nI o) = some T' ∧ TaR c o f (2 ^ c) T' := by
  have hc := hV.1
  have ho4 := hV.2.1
  have hp := two_c hc
  unfold kX0_tallyStates
  refine it2_inv (F := kX0_tallyStates_L1 (nI c) oe (nI o)) (x1 := 0) (x2 := T) (n := 400) (fun i x y => x = nI i ∧ ∀ j, j < i → y j = 0) (fun r => ∃ T', r = some T' ∧ TaR c o f (2 ^ c) T') 189 (fun K i x y hi hI => ?_) (fun K x y hI => ?_) ⟨rfl, fun j h => absurd h (Nat.not_lt_zero _)⟩ (by omega)
  · obtain ⟨rfl, hy⟩ := hI
    refine ⟨nI (i + 1), upd y i 0, ?_, rfl, fun j hj => ?_⟩
    · unfold kX0_tallyStates_L1
      rw [if_neg (by rw [fa_lit 189]; exact nI_ge (by omega) (by omega)), ck_nI (by omega) (by omega), nI_clamp (by omega), nI_1]
    · by_cases q : j = i
      · rw [q, pk_us]
      · rw [pk_un q]; exact hy j (by omega)
  · obtain ⟨rfl, hy⟩ := hI
    have run : kX0_tallyStates_L1 (nI c) oe (nI o) K (nI 189) y = it2 (kX0_tallyStates_L2 (nI c) oe (nI o)) 400 0 y := by
      unfold kX0_tallyStates_L1
      rw [if_pos (by decide)]
    rw [run]
    refine it2_inv (F := kX0_tallyStates_L2 (nI c) oe (nI o)) (x1 := 0) (x2 := y) (n := 400) (fun i x y => x = nI i ∧ TaR c o f i y) (fun r => ∃ T', r = some T' ∧ TaR c o f (2 ^ c) T') (2 ^ c) (fun K i x y hi hI => ?_) (fun K x y hI => ?_) ⟨rfl, fun j hj => hy j hj⟩ (by omega)
    · obtain ⟨rfl, hT⟩ := hI
      have h1 := nLo_le c hV i
      have h2 := pc_le hc hi
      have hL : Lo c o f i ≤ 20 := by unfold Lo; omega
      have ei : (nI (Lo c o f i) * 9 + nI (pc i) : Int32) = nI (Lo c o f i * 9 + pc i) := by
        rw [fa_lit 9, pk_mul, nI_add]
      refine ⟨nI (i + 1), upd y (Lo c o f i * 9 + pc i) (y (Lo c o f i * 9 + pc i) + 1), ?_, rfl, fun j hj => ?_⟩
      · unfold kX0_tallyStates_L2
        rw [shlOne c hc, if_neg (nI_ge hi (by omega)), q_countLoops hO hV (by omega), bnd1_e, q_bitCount i (by omega), bnd1_e]
        show bnd1 (kX0_tallyIndex (nI (Lo c o f i)) (nI (pc i))) _ = _
        unfold kX0_tallyIndex
        rw [bnd1_e, ei, if_neg (nI_pos (by omega)), if_neg (by rw [fa_lit 189]; exact nI_ge (by omega) (by omega)), ck_nI (by omega) (by omega), ck_nI (by omega) (by omega), nI_clamp (by omega), nI_1]
      · rw [fb_ct_succ]
        by_cases q : j = Lo c o f i * 9 + pc i
        · subst q
          rw [pk_us, hT _ hj, if_pos (by simp), nI_1]
        · rw [pk_un q, hT j hj, if_neg (fun z => q (beq_iff_eq.mp z).symm)]
          rfl
    · obtain ⟨rfl, hT⟩ := hI
      refine ⟨y, ?_, hT⟩
      unfold kX0_tallyStates_L2
      rw [shlOne c hc, if_pos (nI_le (Nat.le_refl _) (by omega))]
/-! the coefficients, by their places -/
theorem q_at {x : Int32} {cf : Nat → Int32} {j : Nat} (hx : x + 60 = nI j) (hj : j < 121) : kX0_at x cf = some (cf j) := by
  unfold kX0_at
  rw [hx, if_neg (nI_pos (by omega)), if_neg (by rw [fa_lit 121]; exact nI_ge (by omega) (by omega)), ck_nI (by omega) (by omega), nI_clamp (by omega)]
theorem q_atLo {x : Int32} {cf : Nat → Int32} (hx : x + 60 < 0) : kX0_at x cf = some 0 := by
  unfold kX0_at kX0_at_J1
  rw [if_pos hx]
theorem q_atHi {x : Int32} {cf : Nat → Int32} (hx : 121 ≤ x + 60) : kX0_at x cf = some 0 := by
  unfold kX0_at kX0_at_J1
  by_cases q : x + 60 < 0
  · rw [if_pos q]
  · rw [if_neg q, if_pos hx]
theorem sub_add (x y : Int32) : x - y + y = x := by rw [Int32.sub_add_cancel]
theorem idx1 : ∀ i, i < 121 → (((nI i - 60) - 2) + 60 : Int32) = nI i - 2 := by decide +kernel
theorem idx2 : ∀ i, i < 121 → (((nI i - 60) + 2) + 60 : Int32) = nI (i + 2) := by decide +kernel
theorem idx3 : ∀ i, i < 2 → ((nI i - 2) : Int32) < 0 := by decide +kernel
theorem q_mul (cf pr : Nat → Int32) : ∃ cf' pr', kX0_multiplyByD cf pr = some (cf', pr') ∧ ∀ i, i < 121 → cf' i = mD cf i := by
  unfold kX0_multiplyByD
  refine it2_inv (F := kX0_multiplyByD_L1 cf) (x1 := 0) (x2 := pr) (n := 400) (fun i x y => x = nI i ∧ ∀ j, j < i → y j = mD cf j) (fun r => ∃ cf' pr', r = some (cf', pr') ∧ ∀ i, i < 121 → cf' i = mD cf i) 121 (fun K i x y hi hI => ?_) (fun K x y hI => ?_) ⟨rfl, fun j h => absurd h (Nat.not_lt_zero _)⟩ (by omega)
  · obtain ⟨rfl, hy⟩ := hI
    have a1 : kX0_at ((nI i - 60) - 2) cf = some (if 2 ≤ i then cf (i - 2) else 0) := by
      by_cases q : 2 ≤ i
      · rw [if_pos q]
        exact q_at (by rw [idx1 i hi]; exact pk_sub (b := 2) q) (by omega)
      · rw [if_neg q]
        exact q_atLo (by rw [idx1 i hi]; exact idx3 i (by omega))
    have a2 : kX0_at ((nI i - 60) + 2) cf = some (if i + 2 < 121 then cf (i + 2) else 0) := by
      by_cases q : i + 2 < 121
      · rw [if_pos q]
        exact q_at (idx2 i hi) q
      · rw [if_neg q]
        exact q_atHi (by rw [idx2 i hi, fa_lit 121]; exact nI_le (by omega) (by omega))
    refine ⟨nI (i + 1), upd y i (mD cf i), ?_, rfl, fun j hj => ?_⟩
    · unfold kX0_multiplyByD_L1
      rw [if_neg (by rw [fa_lit 121]; exact nI_ge (by omega) (by omega)), a1, bnd1_e, a2, bnd1_e, ck_nI (by omega) (by omega), nI_clamp (by omega), nI_1]
      rfl
    · by_cases q : j = i
      · subst q; rw [pk_us]
      · rw [pk_un q]; exact hy j (by omega)
  · obtain ⟨rfl, hy⟩ := hI
    have run : kX0_multiplyByD_L1 cf K (nI 121) y = it2 (kX0_multiplyByD_L2 y) 400 0 cf := by
      unfold kX0_multiplyByD_L1
      rw [if_pos (by decide)]
    rw [run]
    refine it2_inv (F := kX0_multiplyByD_L2 y) (x1 := 0) (x2 := cf) (n := 400) (fun i x z => x = nI i ∧ ∀ j, j < i → z j = mD cf j) (fun r => ∃ cf' pr', r = some (cf', pr') ∧ ∀ i, i < 121 → cf' i = mD cf i) 121 (fun K i x z hi hI => ?_) (fun K x z hI => ?_) ⟨rfl, fun j h => absurd h (Nat.not_lt_zero _)⟩ (by omega)
    · obtain ⟨rfl, hz⟩ := hI
      refine ⟨nI (i + 1), upd z i (y i), ?_, rfl, fun j hj => ?_⟩
      · unfold kX0_multiplyByD_L2
        rw [if_neg (by rw [fa_lit 121]; exact nI_ge (by omega) (by omega)), ck_nI (by omega) (by omega), ck_nI (by omega) (by omega), nI_clamp (by omega), nI_1]
      · by_cases q : j = i
        · subst q; rw [pk_us]; exact hy j (by omega)
        · rw [pk_un q]; exact hz j (by omega)
    · obtain ⟨rfl, hz⟩ := hI
      refine ⟨z, y, ?_, hz⟩
      unfold kX0_multiplyByD_L2
      rw [if_pos (by decide)]
theorem expI {c b : Nat} (hb : b ≤ c) (hc : c ≤ 8) : ((nI c - 2 * nI b) + 60 : Int32) = nI (60 + c - 2 * b) := by
  have key : ∀ c, c < 9 → ∀ b, b < 9 → b ≤ c → ((nI c - 2 * nI b) + 60 : Int32) = nI (60 + c - 2 * b) := by decide +kernel
  exact key c (by omega) b (by omega) hb
theorem q_addT {T cf : Nat → Int32} {c l b : Nat} (hc : c ≤ 8) (hb : b ≤ c) (hl : l ≤ 20) : kX0_addTally (nI (l * 9 + b)) (nI c - 2 * nI b) T cf = some (upd cf (60 + c - 2 * b) (cf (60 + c - 2 * b) + T (l * 9 + b))) := by
  unfold kX0_addTally
  rw [expI hb hc, if_neg (nI_pos (by omega)), if_neg (by rw [fa_lit 189]; exact nI_ge (by omega) (by omega)), if_neg (nI_pos (by omega)), if_neg (by rw [fa_lit 121]; exact nI_ge (by omega) (by omega)), ck_nI (by omega) (by omega), ck_nI (by omega) (by omega), ck_nI (by omega) (by omega), nI_clamp (by omega), nI_clamp (by omega)]
theorem q_rowT {T : Nat → Int32} {c l : Nat} (hc : c ≤ 8) (hl : l ≤ 20) (cf : Nat → Int32) (K2 : Int32 → (Nat → Int32) → (Nat → Int32) → Option ((Nat → Int32) × (Nat → Int32))) (pr : Nat → Int32) : ∃ cf', it2 (kX0_sumStates_L3 (nI c) K2 (nI l) pr T) 400 0 cf = K2 (nI l + (-1)) cf' pr ∧ ∀ i, i < 121 → cf' i = cf i + adT T c l i := by
  refine it2_inv (F := kX0_sumStates_L3 (nI c) K2 (nI l) pr T) (x1 := 0) (x2 := cf) (n := 400) (fun b x y => x = nI b ∧ ∀ i, i < 121 → y i = cf i + (if i ≤ 60 + c ∧ 60 ≤ i + c ∧ (60 + c - i) % 2 = 0 ∧ (60 + c - i) / 2 < b then T (l * 9 + (60 + c - i) / 2) else 0)) (fun r => ∃ cf', r = K2 (nI l + (-1)) cf' pr ∧ ∀ i, i < 121 → cf' i = cf i + adT T c l i) (c + 1) (fun K b x y hb hI => ?_) (fun K x y hI => ?_) ⟨rfl, fun i hi => ?_⟩ (by omega)
  · obtain ⟨rfl, hy⟩ := hI
    have ei : (nI l * 9 + nI b : Int32) = nI (l * 9 + b) := by rw [fa_lit 9, pk_mul, nI_add]
    refine ⟨nI (b + 1), upd y (60 + c - 2 * b) (y (60 + c - 2 * b) + T (l * 9 + b)), ?_, rfl, fun i hi => ?_⟩
    · unfold kX0_sumStates_L3 kX0_tallyIndex
      rw [if_neg (nI_nlt (by omega) (by omega)), bnd1_e, ei, q_addT hc (by omega) hl, bnd1_e, nI_1]
    · by_cases q : i = 60 + c - 2 * b
      · subst q
        rw [pk_us, hy _ hi, if_neg (by omega), if_pos (by omega), Int32.add_zero, show (60 + c - (60 + c - 2 * b)) / 2 = b by omega]
      · rw [pk_un q, hy i hi]
        by_cases r : i ≤ 60 + c ∧ 60 ≤ i + c ∧ (60 + c - i) % 2 = 0 ∧ (60 + c - i) / 2 < b
        · rw [if_pos r, if_pos (by omega)]
        · rw [if_neg r, if_neg (by omega)]
  · obtain ⟨rfl, hy⟩ := hI
    refine ⟨y, ?_, fun i hi => ?_⟩
    · unfold kX0_sumStates_L3
      rw [if_pos (nI_lt (by omega) (by omega))]
    · rw [hy i hi]
      unfold adT
      by_cases r : i ≤ 60 + c ∧ 60 ≤ i + c ∧ (60 + c - i) % 2 = 0
      · rw [if_pos r, if_pos (by omega)]
      · rw [if_neg r, if_neg (by omega)]
  · rw [if_neg (by omega), Int32.add_zero]
theorem mD_cong {p q : Nat → Int32} {i : Nat} (hi : i < 121) (h : ∀ j, j < 121 → p j = q j) : mD p i = mD q i := by
  unfold mD
  by_cases r : i + 2 < 121
  · rw [if_pos r, if_pos r, h _ r, h (i - 2) (by omega)]
  · rw [if_neg r, if_neg r, h (i - 2) (by omega)]
theorem q_sum {T : Nat → Int32} {c : Nat} (hc : c ≤ 8) (cf pr : Nat → Int32) : ∃ cf' pr', kX0_sumStates (nI c) T cf pr = some (cf', pr') ∧ ∀ i, i < 121 → cf' i = hr T c 20 i := by
  unfold kX0_sumStates
  refine it2_inv (F := kX0_sumStates_L1 (nI c) T pr) (x1 := 0) (x2 := cf) (n := 400) (fun i x y => x = nI i ∧ ∀ j, j < i → y j = 0) (fun r => ∃ cf' pr', r = some (cf', pr') ∧ ∀ i, i < 121 → cf' i = hr T c 20 i) 121 (fun K i x y hi hI => ?_) (fun K x y hI => ?_) ⟨rfl, fun j h => absurd h (Nat.not_lt_zero _)⟩ (by omega)
  · obtain ⟨rfl, hy⟩ := hI
    refine ⟨nI (i + 1), upd y i 0, ?_, rfl, fun j hj => ?_⟩
    · unfold kX0_sumStates_L1
      rw [if_neg (by rw [fa_lit 121]; exact nI_ge (by omega) (by omega)), ck_nI (by omega) (by omega), nI_clamp (by omega), nI_1]
    · by_cases q : j = i
      · rw [q, pk_us]
      · rw [pk_un q]; exact hy j (by omega)
  · obtain ⟨rfl, hy⟩ := hI
    have run : kX0_sumStates_L1 (nI c) T pr K (nI 121) y = it3 (kX0_sumStates_L2 (nI c) T) 400 20 y pr := by
      unfold kX0_sumStates_L1
      rw [if_pos (by decide)]
    rw [run]
    refine it3_inv (F := kX0_sumStates_L2 (nI c) T) (x1 := 20) (x2 := y) (x3 := pr) (n := 400) (fun k x y z => x = nI (20 - k) ∧ ∀ i, i < 121 → y i = hr T c k i) (fun r => ∃ cf' pr', r = some (cf', pr') ∧ ∀ i, i < 121 → cf' i = hr T c 20 i) 20 (fun K k x y z hk hI => ?_) (fun K x y z hI => ?_) ⟨rfl, hy⟩ (by omega)
    · obtain ⟨rfl, hh⟩ := hI
      obtain ⟨c1, p1, e1, g1⟩ := q_mul y z
      obtain ⟨c2, e2, g2⟩ := q_rowT hc (show 20 - k ≤ 20 by omega) c1 K p1 (T := T)
      refine ⟨nI (20 - (k + 1)), c2, p1, ?_, rfl, fun i hi => ?_⟩
      · unfold kX0_sumStates_L2
        have em : (nI (20 - k) + (-1) : Int32) = nI (20 - (k + 1)) := by
          rw [show 20 - k = 20 - (k + 1) + 1 by omega, pk_m1]
        rw [if_neg (by rw [fa_lit 1]; exact nI_nlt (by omega) (by omega)), e1, bnd2_e, e2, em]
      · rw [g2 i hi, g1 i hi, mD_cong hi hh]
        rfl
    · obtain ⟨rfl, hh⟩ := hI
      refine ⟨y, z, ?_, hh⟩
      unfold kX0_sumStates_L2
      rw [if_pos (by decide)]
theorem q_prepareNew {a oe T cf pr : Nat → Int32} {c o : Nat} {f : Nat → Nat} (hA : Rp a f) (hV : Vd c o f) : ∃ oe' T' cf' pr', kX0_prepare 0 oe T cf pr (nI c) (nI o) a = some (1, oe', T', cf', pr') ∧ ∀ i, i < 121 → cf' i = brk c o f i := by
  have hc := hV.1
  obtain ⟨oe', e1, g1⟩ := q_note hA hV oe
  obtain ⟨T', e2, g2⟩ := q_tally g1 hV T
  obtain ⟨cf', pr', e3, g3⟩ := q_sum (T := T') hc cf pr
  refine ⟨oe', T', cf', pr', ?_, fun i hi => ?_⟩
  · unfold kX0_prepare
    rw [if_pos rfl, e1, bnd1_e, e2, bnd1_e, e3, bnd2_e]
  · rw [g3 i hi, hr_cong hc g2 20 i]
    have ext : ∀ st, st < 2 ^ c → (Lo c o f st) * 9 + pc st = (if st < 2 ^ c then Lo c o f st else 0) * 9 + (if st < 2 ^ c then pc st else 0) := fun st h => by rw [if_pos h, if_pos h]
    have e4 : (fun j => nI (fb_ct (fun st => Lo c o f st * 9 + pc st == j) (2 ^ c))) = fun j => nI (fb_ct (fun st => (if st < 2 ^ c then Lo c o f st else 0) * 9 + (if st < 2 ^ c then pc st else 0) == j) (2 ^ c)) := by
      funext j
      rw [fb_ct_cong (fun st h => by rw [ext st h])]
    rw [e4, hr_states hc (fun st => if st < 2 ^ c then Lo c o f st else 0) (fun st => if st < 2 ^ c then pc st else 0) (fun st => ?_) (fun st => ?_) (2 ^ c) i hi]
    · unfold brk
      exact sI_cong (fun st h => by simp only [if_pos h])
    · by_cases h : st < 2 ^ c
      · have := nLo_le c hV st
        have := hV.2.1
        simp only [if_pos h]; unfold Lo; omega
      · simp only [if_neg h]; omega
    · by_cases h : st < 2 ^ c
      · simp only [if_pos h]; exact pc_le hc h
      · simp only [if_neg h]; omega
