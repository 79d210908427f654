/-! ===== the reference's bracket ===== -/
/-- D^n's part up to the k-th summand -/
def gP (n s k i : Nat) : Int32 := if i ≤ s + 2 * n ∧ (s + 2 * n - i) % 4 = 0 ∧ (s + 2 * n - i) / 4 < k then bI n ((s + 2 * n - i) / 4) else 0
theorem gP_full {n s i : Nat} (hn : n < 20) (hs : s ≤ 68) : gP n s (n + 1) i = gD n s i := by
  unfold gP gD
  by_cases h : i ≤ s + 2 * n ∧ (s + 2 * n - i) % 4 = 0
  · by_cases q : (s + 2 * n - i) / 4 < n + 1
    · rw [if_pos ⟨h.1, h.2, q⟩, if_pos h]
    · rw [if_neg (fun z => q z.2.2), if_pos h, bI_out (by omega) (by omega) (by omega)]
  · rw [if_neg (fun z => h ⟨z.1, z.2.1⟩), if_neg h]
theorem idxB : ∀ n, n < 20 → ∀ k, k < n + 1 → ∀ s, s < 69 → 52 ≤ s → ((nI s + 2 * (nI (n + 1) - 1)) - 4 * nI k : Int32) = nI (s + 2 * n - 4 * k) := by
  intro n hn k hk s hs hs2
  have e1 : (nI (n + 1) - 1 : Int32) = nI n := nI_pred n
  rw [e1, fa_lit 2, pk_mul, nI_add, fa_lit 4, pk_mul, pk_sub (by omega)]
theorem sixty (s : Nat) : (60 + (nI s - 60) : Int32) = nI s := by
  rw [Int32.add_comm, Int32.sub_add_cancel]
theorem m_inner {n s : Nat} (hn : n < 20) (hs1 : 52 ≤ s) (hs2 : s ≤ 68) (br : Nat → Int32) (lab : Nat → Int32) (K2 : Int32 → (Nat → Int32) → (Nat → Int32) → Option ((Nat → Int32) × (Nat → Int32))) (v1 : Int32) :
    ∃ br', it3 (kX10_findBracket_L5 (nI (n + 1)) K2 v1 lab (nI s - 60)) 400 (bI n 0) 0 br = K2 (v1 + 1) lab br' ∧ ∀ i, i < 121 → br' i = br i + gD n s i := by
  refine it3_inv (F := kX10_findBracket_L5 (nI (n + 1)) K2 v1 lab (nI s - 60)) (x1 := bI n 0) (x2 := 0) (x3 := br) (n := 400) (fun k x y z => x = bI n k ∧ y = nI k ∧ ∀ i, i < 121 → z i = br i + gP n s k i) (fun r => ∃ br', r = K2 (v1 + 1) lab br' ∧ ∀ i, i < 121 → br' i = br i + gD n s i) (n + 1) (fun K k x y z hk hI => ?_) (fun K x y z hI => ?_) ⟨rfl, rfl, fun i hi => ?_⟩ (by omega)
  · obtain ⟨rfl, rfl, hz⟩ := hI
    have e1 : (nI (n + 1) - 1 : Int32) = nI n := nI_pred n
    have e2 : ((nI s + 2 * (nI (n + 1) - 1)) - 4 * nI k : Int32) = nI (s + 2 * n - 4 * k) := idxB n hn k hk s (by omega) hs1
    have e3 := bI_step n hn k hk
    refine ⟨bI n (k + 1), nI (k + 1), upd z (s + 2 * n - 4 * k) (z (s + 2 * n - 4 * k) + bI n k), ?_, rfl, rfl, fun i hi => ?_⟩
    · unfold kX10_findBracket_L5
      rw [sixty, e2, e1, if_neg (nI_nlt (by omega) (by omega)), ck_nI (by omega) (by omega), ck_nI (by omega) (by omega), nI_clamp (by omega), nI_1, cz_nI (by omega) (by omega), e3]
    · by_cases q : i = s + 2 * n - 4 * k
      · subst q
        rw [pk_us, hz _ hi]
        unfold gP
        rw [if_neg (by omega), if_pos (by omega), Int32.add_zero, show (s + 2 * n - (s + 2 * n - 4 * k)) / 4 = k by omega]
      · rw [pk_un q, hz i hi]
        unfold gP
        by_cases r : i ≤ s + 2 * n ∧ (s + 2 * n - i) % 4 = 0 ∧ (s + 2 * n - i) / 4 < k
        · rw [if_pos r, if_pos (by omega)]
        · rw [if_neg r, if_neg (by omega)]
  · obtain ⟨rfl, rfl, hz⟩ := hI
    have e1 : (nI (n + 1) - 1 : Int32) = nI n := nI_pred n
    refine ⟨z, ?_, fun i hi => by rw [hz i hi, gP_full hn hs2]⟩
    unfold kX10_findBracket_L5
    rw [e1, if_pos (nI_lt (by omega) (by omega))]
  · unfold gP
    rw [if_neg (by omega), Int32.add_zero]
theorem m_stateSum {now lab br : Nat → Int32} {c o : Nat} {f : Nat → Nat} (h : Mr now c o f) (hV : Vd c o f) {st : Nat} (hst : st < 2 ^ c) (K2 : Int32 → (Nat → Int32) → (Nat → Int32) → Option ((Nat → Int32) × (Nat → Int32))) :
    ∃ lab' br', it2 (kX10_findBracket_L3 now (nI st) lab K2 br) 400 0 0 = K2 (nI (st + 1)) lab' br' ∧ ∀ i, i < 121 → br' i = br i + gI (Lo c o f st) (60 + c - 2 * pc st) i := by
  have hc := hV.1
  have ho4 := hV.2.1
  have hp := two_c hc
  have hpl := pc_le hc hst
  obtain ⟨lab', e0⟩ := m_loops (lab := lab) h hV (st := st) (by omega)
  have eL : nLo c f st + o = Lo c o f st := by unfold Lo; omega
  rw [eL] at e0
  have hL : Lo c o f st ≤ 20 := by
    have := nLo_le c hV st
    unfold Lo; omega
  refine it2_inv (F := kX10_findBracket_L3 now (nI st) lab K2 br) (x1 := 0) (x2 := 0) (n := 400) (fun i x y => x = nI (60 + i - 2 * fb_ct (fun k => st.testBit k) i) - 60 ∧ y = nI i) (fun r => ∃ lab' br', r = K2 (nI (st + 1)) lab' br' ∧ ∀ i, i < 121 → br' i = br i + gI (Lo c o f st) (60 + c - 2 * pc st) i) c (fun K i x y hi hI => ?_) (fun K x y hI => ?_) ⟨by show (0 : Int32) = nI 60 - 60; decide, rfl⟩ (by omega)
  · obtain ⟨rfl, rfl⟩ := hI
    have hle := fb_ct_le (fun k => st.testBit k) i
    have s1 := fb_ct_succ (fun k => st.testBit k) i
    refine ⟨nI (60 + (i + 1) - 2 * fb_ct (fun k => st.testBit k) (i + 1)) - 60, nI (i + 1), ?_, rfl, rfl⟩
    unfold kX10_findBracket_L3 kX10_findBracket_J6
    rw [m_crossings h, bnd1_e, if_neg (nI_ge hi (by omega)), shrBit (by omega) (by omega), s1, nI_1]
    by_cases q : st.testBit i = true
    · rw [if_pos q, if_pos q, if_pos rfl]
      have e : (nI (60 + i - 2 * fb_ct (fun k => st.testBit k) i) - 60 + (-1) : Int32) = nI (60 + (i + 1) - 2 * (fb_ct (fun k => st.testBit k) i + 1)) - 60 := by
        rw [show 60 + i - 2 * fb_ct (fun k => st.testBit k) i = 60 + (i + 1) - 2 * (fb_ct (fun k => st.testBit k) i + 1) + 1 by omega, ← nI_1, Int32.sub_eq_add_neg, Int32.sub_eq_add_neg, Int32.add_assoc, Int32.add_assoc, Int32.add_comm (-60) (-1), ← Int32.add_assoc 1]
        congr 1
      rw [e]
    · rw [if_neg q, if_neg q, if_neg (by decide)]
      have e : (nI (60 + i - 2 * fb_ct (fun k => st.testBit k) i) - 60 + 1 : Int32) = nI (60 + (i + 1) - 2 * (fb_ct (fun k => st.testBit k) i + 0)) - 60 := by
        rw [show 60 + (i + 1) - 2 * (fb_ct (fun k => st.testBit k) i + 0) = 60 + i - 2 * fb_ct (fun k => st.testBit k) i + 1 by omega, ← nI_1, Int32.sub_eq_add_neg, Int32.sub_eq_add_neg, Int32.add_assoc, Int32.add_assoc, Int32.add_comm (-60) 1]
      rw [e]
  · obtain ⟨rfl, rfl⟩ := hI
    have epc := pc_c hc hst
    unfold kX10_findBracket_L3 kX10_findBracket_J4
    rw [m_crossings h, bnd1_e, if_pos (nI_le (Nat.le_refl _) (by omega)), e0, bnd2_e, ← epc]
    rcases Nat.eq_zero_or_pos (Lo c o f st) with z | z
    · rw [z]
      have run : ∀ t : Int32, it3 (kX10_findBracket_L5 (nI 0) K2 (nI st) lab' (nI (60 + c - 2 * pc st) - 60)) 400 t 0 br = K2 (nI (st + 1)) lab' br := fun t => by
        show kX10_findBracket_L5 (nI 0) K2 (nI st) lab' (nI (60 + c - 2 * pc st) - 60) (it3 _ 399) t 0 br = _
        unfold kX10_findBracket_L5
        rw [if_pos (by decide), nI_1]
      refine ⟨lab', br, ?_, fun i _ => by unfold gI; rw [if_pos rfl, Int32.add_zero]⟩
      rw [run, run]
      split <;> rfl
    · obtain ⟨n, hn⟩ : ∃ n, Lo c o f st = n + 1 := ⟨Lo c o f st - 1, by omega⟩
      rw [hn]
      obtain ⟨br', e1, e2⟩ := m_inner (n := n) (s := 60 + c - 2 * pc st) (by omega) (by omega) (by omega) br lab' K2 (nI st)
      have eg : ∀ i, gI (n + 1) (60 + c - 2 * pc st) i = gD n (60 + c - 2 * pc st) i := fun i => by unfold gI; rw [if_neg (by omega), Nat.add_sub_cancel]
      refine ⟨lab', br', ?_, fun i hi => by rw [e2 i hi, eg]⟩
      have e3 : (nI (n + 1) - 1 : Int32) = nI n := nI_pred n
      have b0 : bI n 0 = if n % 2 = 0 then 1 else -1 := by
        unfold bI
        rw [bin_zero n (by omega)]
        rfl
      rw [nI_1] at e1
      rw [e3, fa_lit 2, irem_nI (by omega) (by omega) (by omega), ← e1, b0]
      by_cases q : n % 2 = 0
      · rw [q, if_pos rfl, if_pos (show nI 0 = (0 : Int32) from rfl)]
      · rw [show n % 2 = 1 by omega, if_neg (by decide), if_neg (by decide)]
theorem m_findBracket {now lab br : Nat → Int32} {c o : Nat} {f : Nat → Nat} (h : Mr now c o f) (hV : Vd c o f) : ∃ lab' br', kX10_findBracket now lab br = some (lab', br') ∧ ∀ i, i < 121 → br' i = brk c o f i := by
  have hc := hV.1
  have hp := two_c hc
  unfold kX10_findBracket
  refine it2_inv (F := kX10_findBracket_L1 now lab) (x1 := 0) (x2 := br) (n := 400) (fun i x y => x = nI i ∧ ∀ j, j < i → y j = 0) (fun r => ∃ lab' br', r = some (lab', br') ∧ ∀ i, i < 121 → br' i = brk c o f i) 121 (fun K i x y hi hI => ?_) (fun K x y hI => ?_) ⟨rfl, fun j h => absurd h (Nat.not_lt_zero _)⟩ (by omega)
  · obtain ⟨rfl, hy⟩ := hI
    refine ⟨nI (i + 1), upd y i 0, ?_, rfl, fun j hj => ?_⟩
    · unfold kX10_findBracket_L1
      rw [if_neg (by rw [fa_lit 120]; exact nI_nlt (by omega) (by omega)), ck_nI (by omega) (by omega), nI_clamp (by omega), nI_1]
    · by_cases q : j = i
      · rw [q, pk_us]
      · rw [pk_un q]; exact hy j (by omega)
  · obtain ⟨rfl, hy⟩ := hI
    have run : kX10_findBracket_L1 now lab K (nI 121) y = it3 (kX10_findBracket_L2 now) 400 0 lab y := by
      unfold kX10_findBracket_L1
      rw [if_pos (by decide)]
    rw [run]
    refine it3_inv (F := kX10_findBracket_L2 now) (x1 := 0) (x2 := lab) (x3 := y) (n := 400) (fun st x la z => x = nI st ∧ ∀ i, i < 121 → z i = sI (fun st => gI (Lo c o f st) (60 + c - 2 * pc st) i) st) (fun r => ∃ lab' br', r = some (lab', br') ∧ ∀ i, i < 121 → br' i = brk c o f i) (2 ^ c) (fun K st x la z hst hI => ?_) (fun K x la z hI => ?_) ⟨rfl, hy⟩ (by omega)
    · obtain ⟨rfl, hz⟩ := hI
      obtain ⟨lab', br', e1, e2⟩ := m_stateSum (lab := la) (br := z) h hV hst K
      refine ⟨nI (st + 1), lab', br', ?_, rfl, fun i hi => by rw [e2 i hi, hz i hi]; rfl⟩
      unfold kX10_findBracket_L2
      rw [m_crossings h, bnd1_e, shlOne c hc, if_neg (nI_ge hst (by omega)), e1]
    · obtain ⟨rfl, hz⟩ := hI
      refine ⟨la, z, ?_, hz⟩
      unfold kX10_findBracket_L2
      rw [m_crossings h, bnd1_e, shlOne c hc, if_pos (nI_le (Nat.le_refl _) (by omega))]
/-! ===== the lowest and the highest place, the alternating sum ===== -/
theorem at60 : ∀ i, i < 121 → ((nI i - 60) + 60 : Int32) = nI i := by decide +kernel
theorem gt60 : ∀ i, i < 400 → ((60 : Int32) < nI i - 60 ↔ 120 < i) := by decide +kernel
theorem lt60 : ∀ i, i < 122 → ((nI i - 1 - 60 : Int32) < -60 ↔ i = 0) := by decide +kernel
/-- the place v of the first coefficient other than 0, or none -/
def LoP (g : Nat → Int32) (v : Int32) : Prop := (∃ j, j < 121 ∧ g j ≠ 0 ∧ (∀ k, k < j → g k = 0) ∧ v = nI j - 60) ∨ ((∀ k, k < 121 → g k = 0) ∧ v = -1000009)
def HiP (g : Nat → Int32) (v : Int32) : Prop := (∃ j, j < 121 ∧ g j ≠ 0 ∧ (∀ k, j < k → k < 121 → g k = 0) ∧ v = nI j - 60) ∨ ((∀ k, k < 121 → g k = 0) ∧ v = -1000009)
theorem LoP.only {g : Nat → Int32} {v w : Int32} (h1 : LoP g v) (h2 : LoP g w) : v = w := by
  rcases h1 with ⟨j, a1, a2, a3, rfl⟩ | ⟨a1, rfl⟩ <;> rcases h2 with ⟨k, b1, b2, b3, rfl⟩ | ⟨b1, rfl⟩
  · rcases Nat.lt_trichotomy j k with q | q | q
    · exact absurd (b3 j q) a2
    · rw [q]
    · exact absurd (a3 k q) b2
  · exact absurd (b1 j a1) a2
  · exact absurd (a1 k b1) b2
  · rfl
theorem HiP.only {g : Nat → Int32} {v w : Int32} (h1 : HiP g v) (h2 : HiP g w) : v = w := by
  rcases h1 with ⟨j, a1, a2, a3, rfl⟩ | ⟨a1, rfl⟩ <;> rcases h2 with ⟨k, b1, b2, b3, rfl⟩ | ⟨b1, rfl⟩
  · rcases Nat.lt_trichotomy j k with q | q | q
    · exact absurd (a3 k q b1) b2
    · rw [q]
    · exact absurd (b3 j q a1) a2
  · exact absurd (b1 j a1) a2
  · exact absurd (a1 k b1) b2
  · rfl
theorem LoP.cong {g h : Nat → Int32} {v : Int32} (e : ∀ i, i < 121 → g i = h i) (hv : LoP g v) : LoP h v := by
  rcases hv with ⟨j, a1, a2, a3, rfl⟩ | ⟨a1, rfl⟩
  · exact Or.inl ⟨j, a1, by rw [← e j a1]; exact a2, fun k hk => by rw [← e k (by omega)]; exact a3 k hk, rfl⟩
  · exact Or.inr ⟨fun k hk => by rw [← e k hk]; exact a1 k hk, rfl⟩
theorem HiP.cong {g h : Nat → Int32} {v : Int32} (e : ∀ i, i < 121 → g i = h i) (hv : HiP g v) : HiP h v := by
  rcases hv with ⟨j, a1, a2, a3, rfl⟩ | ⟨a1, rfl⟩
  · exact Or.inl ⟨j, a1, by rw [← e j a1]; exact a2, fun k h1 hk => by rw [← e k hk]; exact a3 k h1 hk, rfl⟩
  · exact Or.inr ⟨fun k hk => by rw [← e k hk]; exact a1 k hk, rfl⟩
theorem q_lowest (cf : Nat → Int32) : ∃ v, kX0_lowest cf = some v ∧ LoP cf v := by
  unfold kX0_lowest
  refine it1_way (F := kX0_lowest_L1 cf) (x1 := -60) (n := 400) (fun i x => x = nI i - 60 ∧ ∀ k, k < i → cf k = 0) (fun r => ∃ v, r = some v ∧ LoP cf v) 121 (fun K i x hi hI => ?_) ⟨by decide, fun k h => absurd h (Nat.not_lt_zero _)⟩ (by omega)
  obtain ⟨rfl, hx⟩ := hI
  unfold kX0_lowest_L1
  by_cases q : i = 121
  · left
    subst q
    exact ⟨-1000009, if_pos (by decide), Or.inr ⟨hx, rfl⟩⟩
  · rw [if_neg (fun z => by have := (gt60 i (by omega)).mp z; omega), q_at (at60 i (by omega)) (by omega), bnd1_e]
    by_cases z : cf i = 0
    · right
      refine ⟨by omega, nI (i + 1) - 60, ?_, rfl, fun k hk => ?_⟩
      · rw [if_pos z, ← nI_1, Int32.sub_eq_add_neg, Int32.sub_eq_add_neg, Int32.add_assoc, Int32.add_assoc, Int32.add_comm (-60) 1]
      · by_cases w : k = i
        · rw [w]; exact z
        · exact hx k (by omega)
    · left
      exact ⟨nI i - 60, if_neg z, Or.inl ⟨i, by omega, z, hx, rfl⟩⟩
theorem q_highest (cf : Nat → Int32) : ∃ v, kX0_highest cf = some v ∧ HiP cf v := by
  unfold kX0_highest
  refine it1_way (F := kX0_highest_L1 cf) (x1 := 60) (n := 400) (fun i x => x = nI (121 - i) - 1 - 60 ∧ ∀ k, 121 - i ≤ k → k < 121 → cf k = 0) (fun r => ∃ v, r = some v ∧ HiP cf v) 121 (fun K i x hi hI => ?_) ⟨by decide, fun k h1 h2 => by omega⟩ (by omega)
  obtain ⟨rfl, hx⟩ := hI
  unfold kX0_highest_L1
  by_cases q : i = 121
  · left
    subst q
    exact ⟨-1000009, if_pos (by decide), Or.inr ⟨fun k hk => hx k (by omega) hk, rfl⟩⟩
  · have e1 : (nI (121 - i) - 1 : Int32) = nI (120 - i) := by rw [show 121 - i = 120 - i + 1 by omega, nI_pred]
    rw [if_neg (fun z => by have := (lt60 (121 - i) (by omega)).mp z; omega), e1, q_at (at60 (120 - i) (by omega)) (by omega), bnd1_e]
    by_cases z : cf (120 - i) = 0
    · right
      refine ⟨by omega, nI (121 - (i + 1)) - 1 - 60, ?_, rfl, fun k h1 h2 => ?_⟩
      · rw [if_pos z, show 121 - (i + 1) = 120 - i by omega, Int32.sub_eq_add_neg, Int32.sub_eq_add_neg (nI (120 - i)) 1, Int32.sub_eq_add_neg, Int32.add_assoc, Int32.add_assoc, Int32.add_comm (-60) (-1)]
      · by_cases w : k = 120 - i
        · rw [w]; exact z
        · exact hx k (by omega) h2
    · left
      exact ⟨nI (120 - i) - 60, if_neg z, Or.inl ⟨120 - i, by omega, z, fun k h1 h2 => hx k (by omega) h2, rfl⟩⟩
theorem m_lowest (br : Nat → Int32) : ∃ v, kX10_lowest br = some v ∧ LoP br v := by
  unfold kX10_lowest
  refine it2_inv (F := kX10_lowest_L1 br) (x1 := -1000009) (x2 := 120) (n := 400) (fun i x y => y = nI (121 - i) - 1 ∧ ((∃ j, 121 - i ≤ j ∧ j < 121 ∧ br j ≠ 0 ∧ (∀ k, 121 - i ≤ k → k < j → br k = 0) ∧ x = nI j - 60) ∨ ((∀ k, 121 - i ≤ k → k < 121 → br k = 0) ∧ x = -1000009))) (fun r => ∃ v, r = some v ∧ LoP br v) 121 (fun K i x y hi hI => ?_) (fun K x y hI => ?_) ⟨by decide, Or.inr ⟨fun k h1 h2 => by omega, rfl⟩⟩ (by omega)
  · obtain ⟨rfl, hx⟩ := hI
    have e1 : (nI (121 - i) - 1 : Int32) = nI (120 - i) := by rw [show 121 - i = 120 - i + 1 by omega, nI_pred]
    have e2 : (nI (120 - i) + (-1) : Int32) = nI (121 - (i + 1)) - 1 := by rw [show 121 - (i + 1) = 120 - i by omega, Int32.sub_eq_add_neg]
    unfold kX10_lowest_L1
    rw [e1, if_neg (nI_pos (by omega)), ck_nI (by omega) (by omega), nI_clamp (by omega), e2]
    by_cases z : br (120 - i) = 0
    · refine ⟨x, _, if_pos z, rfl, hx.elim (fun ⟨j, h1, h2, h3, h4, h5⟩ => Or.inl ⟨j, by omega, h2, h3, fun k g1 g2 => ?_, h5⟩) (fun ⟨h1, h2⟩ => Or.inr ⟨fun k g1 g2 => ?_, h2⟩)⟩
      · by_cases w : k = 120 - i
        · rw [w]; exact z
        · exact h4 k (by omega) g2
      · by_cases w : k = 120 - i
        · rw [w]; exact z
        · exact h1 k (by omega) g2
    · exact ⟨_, _, if_neg z, rfl, Or.inl ⟨120 - i, by omega, by omega, z, fun k g1 g2 => by omega, rfl⟩⟩
  · obtain ⟨rfl, hx⟩ := hI
    refine ⟨x, ?_, hx.elim (fun ⟨j, h1, h2, h3, h4, h5⟩ => Or.inl ⟨j, h2, h3, fun k g => h4 k (by omega) g, h5⟩) (fun ⟨h1, h2⟩ => Or.inr ⟨fun k g => h1 k (by omega) g, h2⟩)⟩
    unfold kX10_lowest_L1
    rw [if_pos (by decide)]
theorem m_highest (lab br : Nat → Int32) : ∃ v, it2 (kX10_highestExponent_L1 lab br) 400 (-1000009) 0 = some (v, lab, br) ∧ HiP br v := by
  refine it2_inv (F := kX10_highestExponent_L1 lab br) (x1 := -1000009) (x2 := 0) (n := 400) (fun i x y => y = nI i ∧ ((∃ j, j < i ∧ br j ≠ 0 ∧ (∀ k, j < k → k < i → br k = 0) ∧ x = nI j - 60) ∨ ((∀ k, k < i → br k = 0) ∧ x = -1000009))) (fun r => ∃ v, r = some (v, lab, br) ∧ HiP br v) 121 (fun K i x y hi hI => ?_) (fun K x y hI => ?_) ⟨rfl, Or.inr ⟨fun k h1 => absurd h1 (Nat.not_lt_zero _), rfl⟩⟩ (by omega)
  · obtain ⟨rfl, hx⟩ := hI
    unfold kX10_highestExponent_L1
    rw [if_neg (by rw [fa_lit 120]; exact nI_nlt (by omega) (by omega)), ck_nI (by omega) (by omega), nI_clamp (by omega), nI_1]
    by_cases z : br i = 0
    · refine ⟨x, _, if_pos z, rfl, hx.elim (fun ⟨j, h2, h3, h4, h5⟩ => Or.inl ⟨j, by omega, h3, fun k g1 g2 => ?_, h5⟩) (fun ⟨h1, h2⟩ => Or.inr ⟨fun k g2 => ?_, h2⟩)⟩
      · by_cases w : k = i
        · rw [w]; exact z
        · exact h4 k g1 (by omega)
      · by_cases w : k = i
        · rw [w]; exact z
        · exact h1 k (by omega)
    · exact ⟨_, _, if_neg z, rfl, Or.inl ⟨i, by omega, z, fun k g1 g2 => by omega, rfl⟩⟩
  · obtain ⟨rfl, hx⟩ := hI
    refine ⟨x, ?_, hx⟩
    unfold kX10_highestExponent_L1
    rw [if_pos (by decide)]
/-- the sum, its sign: i summands from place j on -/
def aS (g : Nat → Int32) (j : Nat) : Nat → Int32 × Int32
  | 0 => (0, 1)
  | i + 1 => ((aS g j i).1 + (aS g j i).2 * g (j + 4 * i), -(aS g j i).2)
theorem aS_cong {g h : Nat → Int32} {j : Nat} (e : ∀ i, i < 121 → g i = h i) : ∀ i, (i = 0 ∨ j + 4 * (i - 1) < 121) → aS g j i = aS h j i
  | 0, _ => rfl
  | i + 1, hi => by
    have ih := aS_cong (j := j) e i (by omega)
    show ((aS g j i).1 + (aS g j i).2 * g (j + 4 * i), -(aS g j i).2) = ((aS h j i).1 + (aS h j i).2 * h (j + 4 * i), -(aS h j i).2)
    rw [ih, e _ (by omega)]
theorem step4 : ∀ n, n < 121 → (nI n - 60 + 4 : Int32) = nI (n + 4) - 60 := by decide +kernel
theorem idx60 : ∀ n, n < 121 → (60 + (nI n - 60) : Int32) = nI n := by decide +kernel
theorem abs_eq (x : Int32) : iabs x = if 0 ≤ x then x else -x := by
  unfold iabs
  rw [Int32.zero_sub]
theorem q_alternating {cf : Nat → Int32} {v : Int32} (hv : kX0_lowest cf = some v) (hl : LoP cf v) : ∃ w, kX0_alternatingSum cf = some w ∧ ((v = -1000009 ∧ w = 0) ∨ ∃ j, j < 121 ∧ v ≠ -1000009 ∧ v = nI j - 60 ∧ w = iabs (aS cf j ((124 - j) / 4)).1) := by
  unfold kX0_alternatingSum
  rw [hv, bnd1_e]
  by_cases q : v = -1000009
  · exact ⟨0, if_pos q, Or.inl ⟨q, rfl⟩⟩
  · rw [if_neg q]
    rcases hl with ⟨j, h1, h2, h3, rfl⟩ | ⟨_, h⟩
    · refine ⟨_, ?_, Or.inr ⟨j, h1, q, rfl, rfl⟩⟩
      refine it3_run (fun i => (aS cf j i).1) (fun i => (aS cf j i).2) (fun i => nI (j + 4 * i) - 60) ((124 - j) / 4) (fun K i hi => ?_) (fun K => ?_) rfl rfl rfl (by omega)
      · unfold kX0_alternatingSum_L1
        rw [if_neg (fun z => by have := (gt60 (j + 4 * i) (by omega)).mp z; omega), q_at (at60 (j + 4 * i) (by omega)) (by omega), bnd1_e, step4 _ (by omega)]
        rfl
      · unfold kX0_alternatingSum_L1
        rw [if_pos ((gt60 _ (by omega)).mpr (by omega))]
    · exact absurd h q
theorem m_determinant {now lab br : Nat → Int32} {c o : Nat} {f : Nat → Nat} (h : Mr now c o f) (hV : Vd c o f) : ∃ lab' br' v w, kX10_determinant now lab br = some (w, lab', br') ∧ LoP (brk c o f) v ∧ ((v = -1000009 ∧ w = 0) ∨ ∃ j, j < 121 ∧ v ≠ -1000009 ∧ v = nI j - 60 ∧ w = iabs (aS (brk c o f) j ((124 - j) / 4)).1) := by
  obtain ⟨lab', br', e1, e2⟩ := m_findBracket (lab := lab) (br := br) h hV
  obtain ⟨v, e3, e4⟩ := m_lowest br'
  have e5 := e4.cong e2
  unfold kX10_determinant
  rw [e1, bnd2_e, e3, bnd1_e]
  by_cases q : v = -1000009
  · exact ⟨lab', br', v, 0, if_pos q, e5, Or.inl ⟨q, rfl⟩⟩
  · rw [if_neg q]
    rcases e4 with ⟨j, h1, h2, h3, rfl⟩ | ⟨_, h⟩
    · refine ⟨lab', br', nI j - 60, _, ?_, e5, Or.inr ⟨j, h1, q, rfl, rfl⟩⟩
      refine it3_run (fun i => (aS br' j i).1) (fun i => (aS br' j i).2) (fun i => nI (j + 4 * i) - 60) ((124 - j) / 4) (fun K i hi => ?_) (fun K => ?_) rfl rfl rfl (by omega)
      · unfold kX10_determinant_L1
        rw [if_neg (fun z => by have := (gt60 (j + 4 * i) (by omega)).mp z; omega), idx60 _ (by omega), ck_nI (by omega) (by omega), nI_clamp (by omega), step4 _ (by omega)]
        rfl
      · unfold kX10_determinant_L1
        rw [if_pos ((gt60 _ (by omega)).mpr (by omega)), aS_cong e2 _ (by omega), abs_eq]
        by_cases z : 0 ≤ (aS (brk c o f) j ((124 - j) / 4)).1
        · rw [if_pos z, if_pos z]
        · rw [if_neg z, if_neg z]
    · exact absurd h q
