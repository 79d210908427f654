/-! ===== what the bracket's row tells: lowest, highest, determinant ===== -/
def sg2 (i : Nat) : Int := if i % 2 = 0 then 1 else -1
theorem sg2_or (i : Nat) : sg2 i = 1 ∨ sg2 i = -1 := by
  unfold sg2
  by_cases q : i % 2 = 0
  · exact Or.inl (if_pos q)
  · exact Or.inr (if_neg q)
def altZ (B : Int → Int) (e0 : Int) (N : Nat) : Int := fb_si (fun i => sg2 i * B (e0 + 4 * (i : Int))) N
theorem altZ_succ (B : Int → Int) (e0 : Int) (N : Nat) : altZ B e0 (N + 1) = altZ B e0 N + sg2 N * B (e0 + 4 * (N : Int)) := rfl
theorem alt_g0 (s e : Int) : ∀ N : Nat, (altZ (gZ 0 s) e N = 0 ∨ altZ (gZ 0 s) e N = 1 ∨ altZ (gZ 0 s) e N = -1) ∧ ((∀ i : Nat, i < N → s ≠ e + 4 * (i : Int)) → altZ (gZ 0 s) e N = 0)
  | 0 => ⟨Or.inl rfl, fun _ => rfl⟩
  | N + 1 => by
    obtain ⟨h1, h2⟩ := alt_g0 s e N
    rw [altZ_succ]
    have e0 : gZ 0 s (e + 4 * (N : Int)) = if e + 4 * (N : Int) = s then 1 else 0 := rfl
    rw [e0]
    by_cases q : e + 4 * (N : Int) = s
    · rw [if_pos q, h2 (fun i hi z => by omega), Int.mul_one, Int.zero_add]
      refine ⟨Or.inr (sg2_or N), fun z => absurd q.symm (z N (by omega))⟩
    · rw [if_neg q, Int.mul_zero, Int.add_zero]
      exact ⟨h1, fun z => h2 (fun i hi => z i (by omega))⟩
theorem alt_gs (n : Nat) (s e : Int) : ∀ N : Nat, altZ (gZ (n + 1) s) e N = -altZ (gZ n s) (e - 2) N - altZ (gZ n s) (e + 2) N
  | 0 => rfl
  | N + 1 => by
    rw [altZ_succ, altZ_succ, altZ_succ, alt_gs n s e N, gZ_succ, show e + 4 * (N : Int) - 2 = e - 2 + 4 * (N : Int) by omega, show e + 4 * (N : Int) + 2 = e + 2 + 4 * (N : Int) by omega]
    rcases sg2_or N with q | q
    · rw [q]; omega
    · rw [q]; omega
theorem alt_g : ∀ (n : Nat) (s e : Int) (N : Nat), -(2 ^ n : Nat) ≤ altZ (gZ n s) e N ∧ altZ (gZ n s) e N ≤ (2 ^ n : Nat)
  | 0, s, e, N => by
    have := (alt_g0 s e N).1
    rw [Nat.pow_zero]
    omega
  | n + 1, s, e, N => by
    have a := alt_g n s (e - 2) N
    have b := alt_g n s (e + 2) N
    rw [alt_gs, Nat.pow_succ]
    omega
theorem alt_z : ∀ (e : Int) (N : Nat), altZ (fun _ => 0) e N = 0
  | _, 0 => rfl
  | e, N + 1 => by
    rw [altZ_succ, alt_z e N, Int.mul_zero]
    rfl
theorem pow19 {L : Nat} (h : L ≤ 20) : (2 ^ (L - 1) : Nat) ≤ 524288 := by
  have : 2 ^ (L - 1) ≤ 2 ^ 19 := Nat.pow_le_pow_right (by omega) (by omega)
  exact this
theorem alt_gL {L : Nat} (h : L ≤ 20) (s e : Int) (N : Nat) : -524288 ≤ altZ (gL L s) e N ∧ altZ (gL L s) e N ≤ 524288 := by
  have p := pow19 h
  by_cases q : L = 0
  · have : gL L s = fun _ => 0 := by
      funext x
      unfold gL
      rw [if_pos q]
    rw [this, alt_z]
    omega
  · have : gL L s = gZ (L - 1) s := by
      funext x
      unfold gL
      rw [if_neg q]
    rw [this]
    have := alt_g (L - 1) s e N
    omega
theorem gL_bd {L : Nat} (h : L ≤ 20) (s e : Int) : -524288 ≤ gL L s e ∧ gL L s e ≤ 524288 := by
  have p := pow19 h
  unfold gL
  by_cases q : L = 0
  · rw [if_pos q]; omega
  · rw [if_neg q]
    have := gZ_abs (L - 1) s e
    omega
theorem alt_sum (F : Nat → Int → Int) (M : Nat) (e : Int) : ∀ N, altZ (fun x => fb_si (fun st => F st x) M) e N = fb_si (fun st => altZ (F st) e N) M
  | 0 => by
    show 0 = fb_si (fun _ => 0) M
    have : ∀ m, fb_si (fun _ => (0 : Int)) m = 0 := fun m => by
      induction m with
      | zero => rfl
      | succ m ih => rw [fb_si_succ, ih]; rfl
    rw [this]
  | N + 1 => by
    rw [altZ_succ, alt_sum F M e N, ← fb_si_mul, ← fb_si_add]
    rfl
theorem two_le {c : Nat} (h : c ≤ 8) : (2 ^ c : Nat) ≤ 256 := by
  have : 2 ^ c ≤ 2 ^ 8 := Nat.pow_le_pow_right (by omega) h
  exact this
theorem bz_bd {d : St} (hV : VS d) (e : Int) : -134217728 ≤ bzD d e ∧ bzD d e ≤ 134217728 := by
  have p := two_le hV.1
  have b := fb_si_bound (f := fun st => gL (Lo d.1 d.2.1 d.2.2 st) ((d.1 : Int) - 2 * (pc st : Int)) e) (c := 524288) (by decide) (n := 2 ^ d.1) (fun k _ => gL_bd (Lo_le hV k) _ _)
  have e1 : bzD d e = fb_si (fun st => gL (Lo d.1 d.2.1 d.2.2 st) ((d.1 : Int) - 2 * (pc st : Int)) e) (2 ^ d.1) := rfl
  rw [← e1] at b
  omega
theorem alt_bd {d : St} (hV : VS d) (e : Int) (N : Nat) : -134217728 ≤ altZ (bzD d) e N ∧ altZ (bzD d) e N ≤ 134217728 := by
  have p := two_le hV.1
  have e1 : altZ (bzD d) e N = fb_si (fun st => altZ (gL (Lo d.1 d.2.1 d.2.2 st) ((d.1 : Int) - 2 * (pc st : Int))) e N) (2 ^ d.1) := alt_sum (fun st => gL (Lo d.1 d.2.1 d.2.2 st) ((d.1 : Int) - 2 * (pc st : Int))) (2 ^ d.1) e N
  have b := fb_si_bound (f := fun st => altZ (gL (Lo d.1 d.2.1 d.2.2 st) ((d.1 : Int) - 2 * (pc st : Int))) e N) (c := 524288) (by decide) (n := 2 ^ d.1) (fun k _ => alt_gL (Lo_le hV k) _ _ _)
  rw [← e1] at b
  omega
theorem ofI0 {z : Int} (h1 : -2147483648 ≤ z) (h2 : z < 2147483648) : Int32.ofInt z = 0 ↔ z = 0 := by
  constructor
  · intro h
    have e := fb_ofI h1 h2
    rw [h] at e
    exact e.symm
  · intro h
    rw [h]; rfl
theorem brD_0 {d : St} (hV : VS d) {i : Nat} (hi : i < 121) : brD d i = 0 ↔ bzD d ((i : Int) - 60) = 0 := by
  have b := bz_bd hV ((i : Int) - 60)
  rw [brD_bz hV hi, ofI0 (by omega) (by omega)]
theorem bz_far {d : St} (hV : VS d) {e : Int} (h : e < -46 ∨ 46 < e) : bzD d e = 0 := BZ_far hV h
theorem bz_far' {d : St} (hV : VS d) {e : Int} (h : bzD d e ≠ 0) : -46 ≤ e ∧ e ≤ 46 := by
  by_cases q : e < -46 ∨ 46 < e
  · exact absurd (bz_far hV q) h
  · omega
/-- the lowest, the highest exponent -/
def LoZ (B : Int → Int) (e0 : Int) : Prop := B e0 ≠ 0 ∧ ∀ e, e < e0 → B e = 0
def HiZ (B : Int → Int) (e0 : Int) : Prop := B e0 ≠ 0 ∧ ∀ e, e0 < e → B e = 0
theorem LoZ.only {B : Int → Int} {a b : Int} (h1 : LoZ B a) (h2 : LoZ B b) : a = b := by
  have x : ¬ a < b := fun z => h1.1 (h2.2 a z)
  have y : ¬ b < a := fun z => h2.1 (h1.2 b z)
  omega
theorem nI60o : ∀ j : Nat, j < 121 → (nI j - 60 : Int32) = Int32.ofInt ((j : Int) - 60) := by decide +kernel
theorem lo_cases {d : St} (hV : VS d) : (∃ e0, LoZ (bzD d) e0 ∧ -46 ≤ e0 ∧ e0 ≤ 46 ∧ loD d = Int32.ofInt e0 ∧ ∃ j : Nat, j < 121 ∧ e0 = (j : Int) - 60 ∧ loD d = nI j - 60 ∧ brD d j ≠ 0 ∧ ∀ k, k < j → brD d k = 0) ∨ ((∀ e, bzD d e = 0) ∧ loD d = -1000009 ∧ ∀ k, k < 121 → brD d k = 0) := by
  rcases loD_ok d with ⟨j, h1, h2, h3, h4⟩ | ⟨h1, h2⟩
  · left
    have n0 : bzD d ((j : Int) - 60) ≠ 0 := fun z => h2 ((brD_0 hV h1).mpr z)
    have b := bz_far' hV n0
    refine ⟨(j : Int) - 60, ⟨n0, fun e he => ?_⟩, b.1, b.2, by rw [h4, nI60o j h1], j, h1, rfl, h4, h2, h3⟩
    by_cases q : e < -60
    · exact bz_far hV (by omega)
    · obtain ⟨k, hk⟩ : ∃ k : Nat, e = (k : Int) - 60 := ⟨(e + 60).toNat, by omega⟩
      rw [hk]
      exact (brD_0 hV (by omega)).mp (h3 k (by omega))
  · right
    refine ⟨fun e => ?_, h2, h1⟩
    by_cases q : e < -46 ∨ 46 < e
    · exact bz_far hV q
    · obtain ⟨k, hk⟩ : ∃ k : Nat, e = (k : Int) - 60 := ⟨(e + 60).toNat, by omega⟩
      rw [hk]
      exact (brD_0 hV (by omega)).mp (h1 k (by omega))
theorem hi_cases {d : St} (hV : VS d) : (∃ e0, HiZ (bzD d) e0 ∧ -46 ≤ e0 ∧ e0 ≤ 46 ∧ hiD d = Int32.ofInt e0 ∧ ∃ j : Nat, j < 121 ∧ e0 = (j : Int) - 60 ∧ hiD d = nI j - 60 ∧ brD d j ≠ 0 ∧ ∀ k, j < k → k < 121 → brD d k = 0) ∨ ((∀ e, bzD d e = 0) ∧ hiD d = -1000009 ∧ ∀ k, k < 121 → brD d k = 0) := by
  rcases hiD_ok d with ⟨j, h1, h2, h3, h4⟩ | ⟨h1, h2⟩
  · left
    have n0 : bzD d ((j : Int) - 60) ≠ 0 := fun z => h2 ((brD_0 hV h1).mpr z)
    have b := bz_far' hV n0
    refine ⟨(j : Int) - 60, ⟨n0, fun e he => ?_⟩, b.1, b.2, by rw [h4, nI60o j h1], j, h1, rfl, h4, h2, h3⟩
    by_cases q : 60 < e
    · exact bz_far hV (by omega)
    · obtain ⟨k, hk⟩ : ∃ k : Nat, e = (k : Int) - 60 := ⟨(e + 60).toNat, by omega⟩
      rw [hk]
      exact (brD_0 hV (by omega)).mp (h3 k (by omega) (by omega))
  · right
    refine ⟨fun e => ?_, h2, h1⟩
    by_cases q : e < -46 ∨ 46 < e
    · exact bz_far hV q
    · obtain ⟨k, hk⟩ : ∃ k : Nat, e = (k : Int) - 60 := ⟨(e + 60).toNat, by omega⟩
      rw [hk]
      exact (brD_0 hV (by omega)).mp (h1 k (by omega))
/-! the determinant -/
def DtZ (B : Int → Int) (w : Int) : Prop := ((∀ e, B e = 0) ∧ w = 0) ∨ ∃ e0, LoZ B e0 ∧ (w = altZ B e0 31 ∨ w = -altZ B e0 31) ∧ 0 ≤ w
theorem DtZ.only {B : Int → Int} {v w : Int} (h1 : DtZ B v) (h2 : DtZ B w) : v = w := by
  rcases h1 with ⟨a, b⟩ | ⟨e, a, b, c⟩ <;> rcases h2 with ⟨a', b'⟩ | ⟨e', a', b', c'⟩
  · omega
  · exact absurd (a _) a'.1
  · exact absurd (a' _) a.1
  · have := a.only a'
    subst this
    omega
theorem alt_more (B : Int → Int) (e0 : Int) {N : Nat} : ∀ k : Nat, (∀ i : Nat, N ≤ i → i < N + k → B (e0 + 4 * (i : Int)) = 0) → altZ B e0 (N + k) = altZ B e0 N
  | 0, _ => rfl
  | k + 1, h => by
    show altZ B e0 (N + k + 1) = _
    rw [altZ_succ, alt_more B e0 k (fun i h1 h2 => h i h1 (by omega)), h (N + k) (by omega) (by omega), Int.mul_zero, Int.add_zero]
theorem sg2_s (i : Nat) : sg2 (i + 1) = -sg2 i := by
  unfold sg2
  by_cases q : i % 2 = 0
  · rw [if_pos q, if_neg (by omega)]
  · rw [if_neg q, if_pos (by omega)]; rfl
theorem aS_alt {d : St} (hV : VS d) {j : Nat} : ∀ i : Nat, (i = 0 ∨ j + 4 * (i - 1) < 121) → aS (brD d) j i = (Int32.ofInt (altZ (bzD d) ((j : Int) - 60) i), Int32.ofInt (sg2 i))
  | 0, _ => rfl
  | i + 1, hi => by
    show ((aS (brD d) j i).1 + (aS (brD d) j i).2 * brD d (j + 4 * i), -(aS (brD d) j i).2) = _
    rw [aS_alt hV i (by omega), altZ_succ, sg2_s, brD_bz hV (by omega), show ((j + 4 * i : Nat) : Int) - 60 = (j : Int) - 60 + 4 * (i : Int) by omega, Int32.ofInt_add, Int32.ofInt_mul, Int32.ofInt_neg]
theorem iabs_of {z : Int} (h1 : -134217728 ≤ z) (h2 : z ≤ 134217728) : ∃ w, (w = z ∨ w = -z) ∧ 0 ≤ w ∧ w ≤ 134217728 ∧ iabs (Int32.ofInt z) = Int32.ofInt w := by
  have e := fb_ofI (z := z) (by omega) (by omega)
  have z0 : (0 : Int32).toInt = 0 := rfl
  rw [abs_eq]
  by_cases q : 0 ≤ z
  · refine ⟨z, Or.inl rfl, q, h2, if_pos ?_⟩
    rw [fa_le, e, z0]; exact q
  · refine ⟨-z, Or.inr rfl, by omega, by omega, ?_⟩
    rw [if_neg (by rw [fa_le, e, z0]; exact q), Int32.ofInt_neg]
theorem dt_of {d : St} (hV : VS d) {w : Int32} (h : DtP (brD d) w) : ∃ z, DtZ (bzD d) z ∧ w = Int32.ofInt z ∧ 0 ≤ z ∧ z ≤ 134217728 := by
  obtain ⟨v, hl, hd⟩ := h
  have hv := (loD_is hl).1
  rcases lo_cases hV with ⟨e0, l1, l2, l3, l4, j, j1, j2, j3, j4, j5⟩ | ⟨z1, z2, z3⟩
  · rcases hd with ⟨a, b⟩ | ⟨k, k1, k2, k3, k4⟩
    · exact absurd (j3.symm.trans (hv.symm.trans a)) (nI60ne j j1)
    · have ejk : j = k := nI60 j j1 k k1 (j3.symm.trans (hv.symm.trans k3))
      subst ejk
      rw [aS_alt hV _ (by omega)] at k4
      have more : altZ (bzD d) ((j : Int) - 60) 31 = altZ (bzD d) ((j : Int) - 60) ((124 - j) / 4) := by
        have := alt_more (bzD d) ((j : Int) - 60) (N := (124 - j) / 4) (31 - (124 - j) / 4) (fun i h1 h2 => bz_far hV (by omega))
        rw [show (124 - j) / 4 + (31 - (124 - j) / 4) = 31 by omega] at this
        exact this
      obtain ⟨b1, b2⟩ := alt_bd hV ((j : Int) - 60) 31
      rw [← more] at k4
      obtain ⟨w', w1, w2, w3, w4⟩ := iabs_of b1 b2
      refine ⟨w', Or.inr ⟨(j : Int) - 60, j2 ▸ l1, w1, w2⟩, k4.trans w4, w2, w3⟩
  · rcases hd with ⟨a, b⟩ | ⟨k, k1, k2, k3, k4⟩
    · exact ⟨0, Or.inl ⟨z1, rfl⟩, b, by omega, by omega⟩
    · exact absurd (hv.trans z2) k2
theorem DtZ.shift {B B' : Int → Int} {w δ : Int} {s : Int} (hs : s = 1 ∨ s = -1) (h : ∀ e, B e = s * B' (e - δ)) (hd : DtZ B w) : DtZ B' w := by
  have h' : ∀ e, B' e = s * B (e + δ) := fun e => by
    rw [h, Int.add_sub_cancel]
    rcases hs with r | r
    · rw [r, Int.one_mul, Int.one_mul]
    · rw [r]; omega
  rcases hd with ⟨a, b⟩ | ⟨e0, a, b, c⟩
  · exact Or.inl ⟨fun e => by rw [h', a, Int.mul_zero], b⟩
  · have al : ∀ N : Nat, altZ B' (e0 - δ) N = s * altZ B e0 N := fun N => by
      induction N with
      | zero => exact (Int.mul_zero s).symm
      | succ N ih =>
        rw [altZ_succ, altZ_succ, ih, h', show e0 - δ + 4 * (N : Int) + δ = e0 + 4 * (N : Int) by omega]
        rcases hs with r | r
        · rw [r, Int.one_mul, Int.one_mul, Int.one_mul]
        · rcases sg2_or N with u | u
          · rw [r, u]; omega
          · rw [r, u]; omega
    refine Or.inr ⟨e0 - δ, ⟨?_, fun e he => ?_⟩, ?_, c⟩
    · rw [h', Int.sub_add_cancel]
      intro z
      apply a.1
      rcases hs with r | r
      · rw [r, Int.one_mul] at z; exact z
      · rw [r] at z; omega
    · rw [h', a.2 _ (by omega), Int.mul_zero]
    · rw [al]
      rcases hs with r | r
      · rw [r, Int.one_mul]; exact b
      · rw [r, Int.neg_one_mul, Int.neg_neg]; exact b.symm
/-- the row turned about -/
theorem alt_rev (B : Int → Int) (h0 : Int) : ∀ m : Nat, altZ (fun e => B (-e)) (-h0) (m + 1) = sg2 m * altZ B (h0 - 4 * (m : Int)) (m + 1) := fun m => by
  unfold altZ
  rw [← si_rev, ← fb_si_mul]
  refine fb_si_cong (fun k hk => ?_)
  have es : sg2 (m + 1 - 1 - k) = sg2 m * sg2 k := by
    unfold sg2
    by_cases q : m % 2 = 0 <;> by_cases r : k % 2 = 0
    · rw [if_pos q, if_pos r, if_pos (by omega)]; rfl
    · rw [if_pos q, if_neg r, if_neg (by omega)]; rfl
    · rw [if_neg q, if_pos r, if_neg (by omega)]; rfl
    · rw [if_neg q, if_neg r, if_pos (by omega)]; rfl
  have ee : -(-h0 + 4 * ((m + 1 - 1 - k : Nat) : Int)) = h0 - 4 * (m : Int) + 4 * (k : Int) := by omega
  show sg2 (m + 1 - 1 - k) * B (-(-h0 + 4 * ((m + 1 - 1 - k : Nat) : Int))) = sg2 m * (sg2 k * B (h0 - 4 * (m : Int) + 4 * (k : Int)))
  rw [es, ee, Int.mul_assoc]
theorem DtZ.rev {d : St} (hV : VS d) {r w : Int} (hr : ∀ e, bzD d e ≠ 0 → (e - r) % 4 = 0) (hd : DtZ (bzD d) w) : DtZ (fun e => bzD d (-e)) w := by
  rcases hd with ⟨a, b⟩ | ⟨e0, a, b, c⟩
  · exact Or.inl ⟨fun e => a _, b⟩
  · rcases hi_cases hV with ⟨h0, l1, l2, l3, _⟩ | ⟨z1, _⟩
    · have b0 := bz_far' hV a.1
      have m1 := hr _ a.1
      have m2 := hr _ l1.1
      have le : e0 ≤ h0 := by
        by_cases q : h0 < e0
        · exact absurd (a.2 _ q) l1.1
        · omega
      obtain ⟨m, hm⟩ : ∃ m : Nat, h0 - e0 = 4 * (m : Int) := ⟨((h0 - e0) / 4).toNat, by omega⟩
      have e1 : altZ (bzD d) e0 31 = altZ (bzD d) e0 (m + 1) := by
        have := alt_more (bzD d) e0 (N := m + 1) (31 - (m + 1)) (fun i h1 h2 => l1.2 _ (by omega))
        rw [show m + 1 + (31 - (m + 1)) = 31 by omega] at this
        exact this
      have e2 : altZ (fun e => bzD d (-e)) (-h0) 31 = altZ (fun e => bzD d (-e)) (-h0) (m + 1) := by
        have := alt_more (fun e => bzD d (-e)) (-h0) (N := m + 1) (31 - (m + 1)) (fun i h1 h2 => a.2 _ (by omega))
        rw [show m + 1 + (31 - (m + 1)) = 31 by omega] at this
        exact this
      have e3 := alt_rev (bzD d) h0 m
      rw [show h0 - 4 * (m : Int) = e0 by omega, ← e1, ← e2] at e3
      refine Or.inr ⟨-h0, ⟨?_, fun e he => l1.2 _ (by omega)⟩, ?_, c⟩
      · show bzD d (- -h0) ≠ 0
        rw [Int.neg_neg]; exact l1.1
      · rw [e3]
        rcases sg2_or m with q | q
        · rw [q, Int.one_mul]; exact b
        · rw [q, Int.neg_one_mul, Int.neg_neg]; exact b.symm
    · exact absurd (z1 _) a.1
