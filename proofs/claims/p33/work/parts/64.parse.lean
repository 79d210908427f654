/-! ===== the parsers, side by side ===== -/
theorem q_charCong {L : Nat} {cs ts : Nat → Int32} (hT : TX L cs ts) (v : Int32) : kX8_character v (nI L) cs = kX8_character v (nI L) ts := by
  have hL := hT.1
  rcases ix v (n := L) (by omega) with q | q | ⟨j, hj, rfl⟩
  · unfold kX8_character
    rw [if_pos q, if_pos q]
  · unfold kX8_character
    rw [if_pos q, if_pos q]
  · rw [q_char hL hj, q_char hL hj, hT.2 j hj]
theorem q_readCong {L : Nat} {cs ts : Nat → Int32} (hT : TX L cs ts) (i d pc po : Int32) (pa : Nat → Int32) : kX4_read i d (nI L) cs pc po pa = kX4_read i d (nI L) ts pc po pa := by
  have h := q_charCong hT
  have dd : ∀ v, kX8_isDigit v (nI L) cs = kX8_isDigit v (nI L) ts := fun v => by unfold kX8_isDigit; rw [h]
  have s : ∀ v, kX8_startsToken v (nI L) cs = kX8_startsToken v (nI L) ts := fun v => by unfold kX8_startsToken; simp only [dd, h]
  have a : ∀ v, kX8_arcFrom v (nI L) cs = kX8_arcFrom v (nI L) ts := fun v => by unfold kX8_arcFrom; simp only [dd, h]
  have t : ∀ v i d c o a', kX4_takeToken v i d (nI L) cs c o a' = kX4_takeToken v i d (nI L) ts c o a' := fun v i d c o a' => by unfold kX4_takeToken; simp only [a, h]
  have F : kX4_read_L1 (nI L) cs = kX4_read_L1 (nI L) ts := by
    funext K x i d c o a'
    unfold kX4_read_L1
    simp only [s, t]
  unfold kX4_read
  rw [F]
abbrev RS : Type := Int32 × Int32 × Int32 × Int32 × Int32 × (Nat → Int32)
/-- the class's reading from a place on, whatever is left of its rounds -/
def CR (L : Nat) (ts : Nat → Int32) (p : Nat) (i d c o : Int32) (a : Nat → Int32) (res : Option RS) : Prop := ∀ n, L - p < n → it6 (kX4_read_L1 (nI L) ts) n (nI p) i d c o a = res
theorem CR.step {L : Nat} {ts : Nat → Int32} {p : Nat} {i d c o i' d' c' o' : Int32} {a a' : Nat → Int32} {res : Option RS} (hp : p < L) (h : ∀ K, kX4_read_L1 (nI L) ts K (nI p) i d c o a = K (nI (p + 1)) i' d' c' o' a') (hc : CR L ts (p + 1) i' d' c' o' a' res) : CR L ts p i d c o a res := fun n hn => by
  cases n with
  | zero => omega
  | succ n =>
    show kX4_read_L1 (nI L) ts (it6 (kX4_read_L1 (nI L) ts) n) (nI p) i d c o a = res
    rw [h]
    exact hc n (by omega)
theorem CR.stop {L : Nat} {ts : Nat → Int32} {p : Nat} {i d c o : Int32} {a : Nat → Int32} {res : Option RS} (h : ∀ K, kX4_read_L1 (nI L) ts K (nI p) i d c o a = res) : CR L ts p i d c o a res := fun n hn => by
  cases n with
  | zero => omega
  | succ n =>
    show kX4_read_L1 (nI L) ts (it6 (kX4_read_L1 (nI L) ts) n) (nI p) i d c o a = res
    exact h _
theorem CR.quiet {L : Nat} {ts : Nat → Int32} {i d c o : Int32} {a : Nat → Int32} {res : Option RS} (hL : L ≤ 160) {p : Nat} : ∀ {m : Nat}, (∀ j, p ≤ j → j < p + m → j < L ∧ kX8_startsToken (nI j) (nI L) ts = some 0) → CR L ts (p + m) i d c o a res → CR L ts p i d c o a res
  | 0, _, hc => hc
  | m + 1, h, hc => by
    refine CR.quiet hL (m := m) (fun j j1 j2 => h j j1 (by omega)) ?_
    obtain ⟨h1, h2⟩ := h (p + m) (by omega) (by omega)
    refine CR.step h1 (fun K => ?_) hc
    unfold kX4_read_L1
    rw [if_neg (nI_ge h1 (by omega)), h2, bnd1_e, if_pos rfl, nI_1]
def nd (L : Nat) (ts : Nat → Int32) (p : Nat) : Prop := ¬ (dg L ts p ∧ dp L ts p)
theorem CR.tok {L : Nat} {ts : Nat → Int32} {p : Nat} {i d c o i' d' c' o' : Int32} {a a' : Nat → Int32} {res : Option RS} (hL : L ≤ 160) (hp : p < L) (h32 : ts p ≠ 32) (hn : nd L ts p) (h : kX4_takeToken (nI p) i d (nI L) ts c o a = some (1, i', d', c', o', a')) (hc : CR L ts (p + 1) i' d' c' o' a' res) : CR L ts p i d c o a res :=
  CR.step hp (fun K => by
    unfold kX4_read_L1
    rw [if_neg (nI_ge hp (by omega)), q_starts hL hp h32 hn, bnd1_e, if_neg (by decide), h, bnd6_e, if_neg (by decide), nI_1]) hc
def FailAt (L : Nat) (ts : Nat → Int32) (p : Nat) (i d c o : Int32) (a : Nat → Int32) (q : Nat) : Prop := ∃ i' d' c' o' a', CR L ts p i d c o a (some (nI q, i', d', c', o', a'))
theorem FailAt.tok {L : Nat} {ts : Nat → Int32} {p : Nat} {i d c o i' d' c' o' : Int32} {a a' : Nat → Int32} (hL : L ≤ 160) (hp : p < L) (h32 : ts p ≠ 32) (hn : nd L ts p) (h : kX4_takeToken (nI p) i d (nI L) ts c o a = some (0, i', d', c', o', a')) : FailAt L ts p i d c o a p :=
  ⟨i', d', c', o', a', CR.stop (fun K => by
    unfold kX4_read_L1
    rw [if_neg (nI_ge hp (by omega)), q_starts hL hp h32 hn, bnd1_e, if_neg (by decide), h, bnd6_e, if_pos rfl])⟩
theorem FailAt.end {L : Nat} {ts : Nat → Int32} {d c o : Int32} {a : Nat → Int32} (hL : L ≤ 160) : FailAt L ts L 1 d c o a L :=
  ⟨1, d, c, o, a, CR.stop (fun K => by
    unfold kX4_read_L1 kX4_isWhole
    rw [if_pos (nI_le (by omega) (by omega)), if_neg (by decide), bnd1_e, if_pos rfl])⟩
theorem FailAt.skip {L : Nat} {ts : Nat → Int32} {p q m : Nat} {i d c o : Int32} {a : Nat → Int32} (hL : L ≤ 160) (hpm : p ≤ m) (hm : m ≤ L) (h : ∀ j, p ≤ j → j < m → ts j = 32) (hf : FailAt L ts m i d c o a q) : FailAt L ts p i d c o a q := by
  obtain ⟨i', d', c', o', a', hc⟩ := hf
  refine ⟨i', d', c', o', a', CR.quiet hL (m := m - p) (fun j j1 j2 => ⟨by omega, q_quietS hL (by omega) (h j j1 (by omega))⟩) ?_⟩
  rw [show p + (m - p) = m by omega]; exact hc
theorem CR.skip {L : Nat} {ts : Nat → Int32} {p m : Nat} {i d c o : Int32} {a : Nat → Int32} {res : Option RS} (hL : L ≤ 160) (hpm : p ≤ m) (hm : m ≤ L) (h : ∀ j, p ≤ j → j < m → ts j = 32) (hc : CR L ts m i d c o a res) : CR L ts p i d c o a res := by
  refine CR.quiet hL (m := m - p) (fun j j1 j2 => ⟨by omega, q_quietS hL (by omega) (h j j1 (by omega))⟩) ?_
  rw [show p + (m - p) = m by omega]; exact hc
theorem nd_skip {L : Nat} {ts : Nat → Int32} {p m : Nat} (hn : nd L ts p) (hpm : p ≤ m) (h : ∀ j, p ≤ j → j < m → ts j = 32) : nd L ts m := by
  by_cases q : m = p
  · rw [q]; exact hn
  · intro z
    exact dg32 (h (m - 1) (by omega) (by omega)) z.2.2
theorem nd_no {L : Nat} {ts : Nat → Int32} {p : Nat} (h : ¬ dg L ts p) : nd L ts p := fun z => h z.1
def cn (f : Nat → Nat) (w : Nat) : Nat := fb_ct (fun e => f e == w) 32
theorem cn_eq {f : Nat → Nat} {w n : Nat} (hn : n ≤ 32) (h : ∀ e, n ≤ e → f e ≠ w) : fb_ct (fun e => f e == w) n = cn f w := by
  unfold cn
  have := fb_ct_split (fun e => f e == w) n (32 - n)
  rw [show n + (32 - n) = 32 by omega] at this
  have z : fb_ct (fun k => f (n + k) == w) (32 - n) = 0 := fb_ct_zero.mpr (fun k hk => by simp [h (n + k) (by omega)])
  rw [z, Nat.add_zero] at this
  exact this.symm
theorem cn_put {f : Nat → Nat} {i w v : Nat} (hi : i < 32) (h0 : f i = 0) (hv : 1 ≤ v) : cn (updN f i w) v = cn f v + (if w = v then 1 else 0) := by
  unfold cn
  have h := fb_ct_upd (fun e => f e == v) (w == v) (i := i) (n := 32) hi
  have e : (fun e => updN f i w e == v) = (fun k => if k = i then (w == v) else (f k == v)) := by
    funext k
    unfold updN
    by_cases q : k = i
    · rw [if_pos q, if_pos q]
    · rw [if_neg q, if_neg q]
  rw [e]
  have z : (f i == v) = false := by rw [h0]; simp; omega
  simp only [z] at h
  rw [if_neg (show ¬ (false = true) by decide), Nat.add_zero] at h
  by_cases q : w = v
  · rw [if_pos q]
    rw [if_pos (show (w == v) = true by simp [q])] at h
    exact h
  · rw [if_neg q]
    rw [if_neg (show ¬ ((w == v) = true) by simp [q])] at h
    exact h
def UsR (uses : Nat → Int32) (f : Nat → Nat) : Prop := ∀ w, 1 ≤ w → w ≤ 16 → uses w = nI (cn f w)
theorem arc_out {L p k : Nat} {ts : Nat → Int32} (h : ∀ j, p ≤ j → j < p + k → dg L ts j) (hp : ¬ dg L ts p) : arcV ts p k = 0 := by
  have : k = 0 := Classical.byContradiction fun z => hp (h p (by omega) (by omega))
  unfold arcV
  rw [if_pos this]
theorem dgv {L p : Nat} {ts : Nat → Int32} (h : dg L ts p) : ts p ≠ 59 ∧ ts p ≠ 111 ∧ ts p ≠ 120 ∧ ts p ≠ 32 := by
  obtain ⟨_, a, b⟩ := h
  refine ⟨fun z => ?_, fun z => ?_, fun z => ?_, fun z => ?_⟩ <;> rw [z] at a b
  · exact absurd b (by decide)
  · exact absurd b (by decide)
  · exact absurd b (by decide)
  · exact absurd a (by decide)
