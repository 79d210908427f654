/-! ===== the parsers, side by side ===== -/
theorem q_charCong {L : Nat} {cs ts : Nat → Int32} (hT : TX L cs ts) (v : Int32) : kX8_character v (nI L) cs = kX8_character v (nI L) ts := by
  have hL := hT.1
  rcases ix v (n := L) (by omega) with q | q | ⟨j, hj, rfl⟩
  · unfold kX8_character
    rw [if_pos q, if_pos q]
  · unfold kX8_character
    rw [if_pos q, if_pos q]
  · rw [q_char hL hj, q_char hL hj, hT.2 j hj]
theorem q_readCong {L : Nat} {cs ts : Nat → Int32} (hT : TX L cs ts) (i d pc po : Int32) (pa : Nat → Int32) : kX4_read i d (nI L) cs pc po pa = kX4_read i d (nI L) ts pc po pa := by
  have h := q_charCong hT
  have dd : ∀ v, kX8_isDigit v (nI L) cs = kX8_isDigit v (nI L) ts := fun v => by unfold kX8_isDigit; rw [h]
  have s : ∀ v, kX8_startsToken v (nI L) cs = kX8_startsToken v (nI L) ts := fun v => by unfold kX8_startsToken; simp only [dd, h]
  have a : ∀ v, kX8_arcFrom v (nI L) cs = kX8_arcFrom v (nI L) ts := fun v => by unfold kX8_arcFrom; simp only [dd, h]
  have t : ∀ v i d c o a', kX4_takeToken v i d (nI L) cs c o a' = kX4_takeToken v i d (nI L) ts c o a' := fun v i d c o a' => by unfold kX4_takeToken; simp only [a, h]
  have F : kX4_read_L1 (nI L) cs = kX4_read_L1 (nI L) ts := by
    funext K x i d c o a'
    unfold kX4_read_L1
    simp only [s, t]
  unfold kX4_read
  rw [F]
abbrev RS : Type := Int32 × Int32 × Int32 × Int32 × Int32 × (Nat → Int32)
/-- the class's reading from a place on, whatever is left of its rounds -/
def CR (L : Nat) (ts : Nat → Int32) (p : Nat) (i d c o : Int32) (a : Nat → Int32) (res : Option RS) : Prop := ∀ n, L - p < n → it6 (kX4_read_L1 (nI L) ts) n (nI p) i d c o a = res
theorem CR.step {L : Nat} {ts : Nat → Int32} {p : Nat} {i d c o i' d' c' o' : Int32} {a a' : Nat → Int32} {res : Option RS} (hp : p < L) (h : ∀ K, kX4_read_L1 (nI L) ts K (nI p) i d c o a = K (nI (p + 1)) i' d' c' o' a') (hc : CR L ts (p + 1) i' d' c' o' a' res) : CR L ts p i d c o a res := fun n hn => by
  cases n with
  | zero => omega
  | succ n =>
    show kX4_read_L1 (nI L) ts (it6 (kX4_read_L1 (nI L) ts) n) (nI p) i d c o a = res
    rw [h]
    exact hc n (by omega)
theorem CR.stop {L : Nat} {ts : Nat → Int32} {p : Nat} {i d c o : Int32} {a : Nat → Int32} {res : Option RS} (h : ∀ K, kX4_read_L1 (nI L) ts K (nI p) i d c o a = res) : CR L ts p i d c o a res := fun n hn => by
  cases n with
  | zero => omega
  | succ n =>
    show kX4_read_L1 (nI L) ts (it6 (kX4_read_L1 (nI L) ts) n) (nI p) i d c o a = res
    exact h _
theorem CR.quiet {L : Nat} {ts : Nat → Int32} {i d c o : Int32} {a : Nat → Int32} {res : Option RS} (hL : L ≤ 160) {p : Nat} : ∀ {m : Nat}, (∀ j, p ≤ j → j < p + m → j < L ∧ kX8_startsToken (nI j) (nI L) ts = some 0) → CR L ts (p + m) i d c o a res → CR L ts p i d c o a res
  | 0, _, hc => hc
  | m + 1, h, hc => by
    refine CR.quiet hL (m := m) (fun j j1 j2 => h j j1 (by omega)) ?_
    obtain ⟨h1, h2⟩ := h (p + m) (by omega) (by omega)
    refine CR.step h1 (fun K => ?_) hc
    unfold kX4_read_L1
    rw [if_neg (nI_ge h1 (by omega)), h2, bnd1_e, if_pos rfl, nI_1]
def nd (L : Nat) (ts : Nat → Int32) (p : Nat) : Prop := ¬ (dg L ts p ∧ dp L ts p)
theorem CR.tok {L : Nat} {ts : Nat → Int32} {p : Nat} {i d c o i' d' c' o' : Int32} {a a' : Nat → Int32} {res : Option RS} (hL : L ≤ 160) (hp : p < L) (h32 : ts p ≠ 32) (hn : nd L ts p) (h : kX4_takeToken (nI p) i d (nI L) ts c o a = some (1, i', d', c', o', a')) (hc : CR L ts (p + 1) i' d' c' o' a' res) : CR L ts p i d c o a res :=
  CR.step hp (fun K => by
    unfold kX4_read_L1
    rw [if_neg (nI_ge hp (by omega)), q_starts hL hp h32 hn, bnd1_e, if_neg (by decide), h, bnd6_e, if_neg (by decide), nI_1]) hc
def FailAt (L : Nat) (ts : Nat → Int32) (p : Nat) (i d c o : Int32) (a : Nat → Int32) (q : Nat) : Prop := ∃ i' d' c' o' a', CR L ts p i d c o a (some (nI q, i', d', c', o', a'))
theorem FailAt.tok {L : Nat} {ts : Nat → Int32} {p : Nat} {i d c o i' d' c' o' : Int32} {a a' : Nat → Int32} (hL : L ≤ 160) (hp : p < L) (h32 : ts p ≠ 32) (hn : nd L ts p) (h : kX4_takeToken (nI p) i d (nI L) ts c o a = some (0, i', d', c', o', a')) : FailAt L ts p i d c o a p :=
  ⟨i', d', c', o', a', CR.stop (fun K => by
    unfold kX4_read_L1
    rw [if_neg (nI_ge hp (by omega)), q_starts hL hp h32 hn, bnd1_e, if_neg (by decide), h, bnd6_e, if_pos rfl])⟩
theorem FailAt.end {L : Nat} {ts : Nat → Int32} {d c o : Int32} {a : Nat → Int32} (hL : L ≤ 160) : FailAt L ts L 1 d c o a L :=
  ⟨1, d, c, o, a, CR.stop (fun K => by
    unfold kX4_read_L1 kX4_isWhole
    rw [if_pos (nI_le (by omega) (by omega)), if_neg (by decide), bnd1_e, if_pos rfl])⟩
theorem FailAt.skip {L : Nat} {ts : Nat → Int32} {p q m : Nat} {i d c o : Int32} {a : Nat → Int32} (hL : L ≤ 160) (hpm : p ≤ m) (hm : m ≤ L) (h : ∀ j, p ≤ j → j < m → ts j = 32) (hf : FailAt L ts m i d c o a q) : FailAt L ts p i d c o a q := by
  obtain ⟨i', d', c', o', a', hc⟩ := hf
  refine ⟨i', d', c', o', a', CR.quiet hL (m := m - p) (fun j j1 j2 => ⟨by omega, q_quietS hL (by omega) (h j j1 (by omega))⟩) ?_⟩
  rw [show p + (m - p) = m by omega]; exact hc
theorem CR.skip {L : Nat} {ts : Nat → Int32} {p m : Nat} {i d c o : Int32} {a : Nat → Int32} {res : Option RS} (hL : L ≤ 160) (hpm : p ≤ m) (hm : m ≤ L) (h : ∀ j, p ≤ j → j < m → ts j = 32) (hc : CR L ts m i d c o a res) : CR L ts p i d c o a res := by
  refine CR.quiet hL (m := m - p) (fun j j1 j2 => ⟨by omega, q_quietS hL (by omega) (h j j1 (by omega))⟩) ?_
  rw [show p + (m - p) = m by omega]; exact hc
theorem nd_skip {L : Nat} {ts : Nat → Int32} {p m : Nat} (hn : nd L ts p) (hpm : p ≤ m) (h : ∀ j, p ≤ j → j < m → ts j = 32) : nd L ts m := by
  by_cases q : m = p
  · rw [q]; exact hn
  · intro z
    exact dg32 (h (m - 1) (by omega) (by omega)) z.2.2
theorem nd_no {L : Nat} {ts : Nat → Int32} {p : Nat} (h : ¬ dg L ts p) : nd L ts p := fun z => h z.1
def cn (f : Nat → Nat) (w : Nat) : Nat := fb_ct (fun e => f e == w) 32
theorem cn_eq {f : Nat → Nat} {w n : Nat} (hn : n ≤ 32) (h : ∀ e, n ≤ e → f e ≠ w) : fb_ct (fun e => f e == w) n = cn f w := by
  unfold cn
  have := fb_ct_split (fun e => f e == w) n (32 - n)
  rw [show n + (32 - n) = 32 by omega] at this
  have z : fb_ct (fun k => f (n + k) == w) (32 - n) = 0 := fb_ct_zero.mpr (fun k hk => by simp [h (n + k) (by omega)])
  rw [z, Nat.add_zero] at this
  exact this.symm
theorem cn_put {f : Nat → Nat} {i w v : Nat} (hi : i < 32) (h0 : f i = 0) (hv : 1 ≤ v) : cn (updN f i w) v = cn f v + (if w = v then 1 else 0) := by
  unfold cn
  have h := fb_ct_upd (fun e => f e == v) (w == v) (i := i) (n := 32) hi
  have e : (fun e => updN f i w e == v) = (fun k => if k = i then (w == v) else (f k == v)) := by
    funext k
    unfold updN
    by_cases q : k = i
    · rw [if_pos q, if_pos q]
    · rw [if_neg q, if_neg q]
  rw [e]
  have z : (f i == v) = false := by rw [h0]; simp; omega
  simp only [z] at h
  rw [if_neg (show ¬ (false = true) by decide), Nat.add_zero] at h
  by_cases q : w = v
  · rw [if_pos q]
    rw [if_pos (show (w == v) = true by simp [q])] at h
    exact h
  · rw [if_neg q]
    rw [if_neg (show ¬ ((w == v) = true) by simp [q])] at h
    exact h
def UsR (uses : Nat → Int32) (f : Nat → Nat) : Prop := ∀ w, 1 ≤ w → w ≤ 16 → uses w = nI (cn f w)
theorem arc_out {L p k : Nat} {ts : Nat → Int32} (h : ∀ j, p ≤ j → j < p + k → dg L ts j) (hp : ¬ dg L ts p) : arcV ts p k = 0 := by
  have : k = 0 := Classical.byContradiction fun z => hp (h p (by omega) (by omega))
  unfold arcV
  rw [if_pos this]
theorem dgv {L p : Nat} {ts : Nat → Int32} (h : dg L ts p) : ts p ≠ 59 ∧ ts p ≠ 111 ∧ ts p ≠ 120 ∧ ts p ≠ 32 := by
  obtain ⟨_, a, b⟩ := h
  refine ⟨fun z => ?_, fun z => ?_, fun z => ?_, fun z => ?_⟩ <;> rw [z] at a b
  · exact absurd b (by decide)
  · exact absurd b (by decide)
  · exact absurd b (by decide)
  · exact absurd a (by decide)
/-- the rest of an arc's digits -/
theorem m_past {L p k : Nat} {ts read uses : Nat → Int32} (hL : L ≤ 160) (v r : Int32) (hpk : p + k ≤ L) (h : ∀ j, p ≤ j → j < p + k → dg L ts j) (hq : ¬ dg L ts (p + k)) : it1 (kX10_readArc_L1 (nI L) read v r uses ts) 400 (nI p) = some (1, nI (p + k), upd read v.toNatClampNeg r, upd uses r.toNatClampNeg (uses r.toNatClampNeg + 1)) := by
  refine it1_inv (F := kX10_readArc_L1 (nI L) read v r uses ts) (x1 := nI p) (n := 400) (fun i x => x = nI (p + i)) (fun z => z = some (1, nI (p + k), upd read v.toNatClampNeg r, upd uses r.toNatClampNeg (uses r.toNatClampNeg + 1))) k (fun K i x hi hI => ?_) (fun K x hI => ?_) rfl (by omega)
  · subst hI
    have hd := h (p + i) (by omega) (by omega)
    unfold kX10_readArc_L1
    rw [if_neg (nI_ge (by omega) (by omega)), ck_nI (by omega) (by omega), nI_clamp (by omega), m_in hd.2.1 hd.2.2, bnd1_e, if_neg (by decide), nI_1]
    exact ⟨_, rfl, rfl⟩
  · subst hI
    unfold kX10_readArc_L1
    by_cases q : p + k = L
    · rw [if_pos (nI_le (by omega) (by omega))]
    · rw [if_neg (nI_ge (by omega) (by omega)), ck_nI (by omega) (by omega), nI_clamp (by omega)]
      have i0 : kX10_in (ts (p + k)) 48 57 = some 0 := by
        by_cases a : ts (p + k) < 48
        · exact m_inLo a
        · by_cases c : 57 < ts (p + k)
          · exact m_inHi c
          · exact absurd ⟨by omega, Int32.not_lt.mp a, Int32.not_lt.mp c⟩ hq
      rw [i0, bnd1_e, if_pos rfl]
theorem p_readArc {L p k c o : Nat} {ts read uses a : Nat → Int32} {f : Nat → Nat} (hL : L ≤ 160) (hp : p ≤ L) (hn : nd L ts p) (hk : k < 4) (hc : c < 8) (hA : Rp a f) (h0 : ∀ e, 4 * c + k ≤ e → f e = 0) (hU : UsR uses f) (h2 : ∀ w, 1 ≤ w → cn f w ≤ 2) :
    (∃ q, kX10_readArc (nI (2 + 4 * c + k)) (nI L) (nI p) ts read uses = some (0, nI q, read, uses) ∧ q ≤ L ∧ FailAt L ts p 1 (nI (4 - k)) (nI (c + 1)) (nI o) a q) ∨
    (∃ q w a' uses', kX10_readArc (nI (2 + 4 * c + k)) (nI L) (nI p) ts read uses = some (1, nI q, upd read (2 + 4 * c + k) (nI w), uses') ∧ q ≤ L ∧ nd L ts q ∧ 1 ≤ w ∧ w ≤ 16 ∧ Rp a' (updN f (4 * c + k) w) ∧ UsR uses' (updN f (4 * c + k) w) ∧ (∀ v, 1 ≤ v → cn (updN f (4 * c + k) w) v ≤ 2) ∧ ∀ res, CR L ts q 1 (nI (4 - (k + 1))) (nI (c + 1)) (nI o) a' res → CR L ts p 1 (nI (4 - k)) (nI (c + 1)) (nI o) a res) := by
  obtain ⟨m, m1, m2, m3, m4, m5⟩ := m_skip (ts := ts) hL hp
  obtain ⟨r, r1, r2, r3⟩ := run_ex (ts := ts) m2
  have hm := nd_skip hn m1 m3
  have wl := arcV_le (ts := ts) (p := m) (k := r)
  have eH := m_arcHere hL r1 r2 r3
  have eF := q_arcFrom hL r1 r2 r3
  unfold kX10_readArc
  rw [m5, bnd1_e, eH, bnd1_e]
  by_cases w0 : arcV ts m r = 0
  · -- no arc here
    left
    refine ⟨m, by rw [w0, if_pos (by rfl)], m2, FailAt.skip hL m1 m2 m3 ?_⟩
    by_cases e : m = L
    · rw [e]; exact FailAt.end hL
    · have ml : m < L := by omega
      have due : ¬ nI (4 - k) ≤ (0 : Int32) := by rw [fa_lit 0]; exact nI_ge (by omega) (by omega)
      have i1 : ¬ ((1 : Int32) = 0) := by decide
      have tk : ∃ i' d' c' o' a', kX4_takeToken (nI m) 1 (nI (4 - k)) (nI L) ts (nI (c + 1)) (nI o) a = some (0, i', d', c', o', a') := by
        unfold kX4_takeToken kX4_takeSemicolon kX4_takeCircle kX4_takeCrossing kX4_takeArc
        rw [q_char hL ml, bnd1_e]
        by_cases a1 : ts m = 59
        · rw [if_pos a1, if_neg i1, if_neg due, bnd2_e, zr_0]; exact ⟨_, _, _, _, _, rfl⟩
        rw [if_neg a1]
        by_cases a2 : ts m = 111
        · rw [if_pos a2, if_neg i1, bnd3_e, zr_0]; exact ⟨_, _, _, _, _, rfl⟩
        rw [if_neg a2]
        by_cases a3 : ts m = 120
        · rw [if_pos a3, if_neg i1, bnd4_e, zr_0]; exact ⟨_, _, _, _, _, rfl⟩
        rw [if_neg a3, eF, bnd1_e, w0, if_pos (by rfl), bnd3_e, zr_0]
        exact ⟨_, _, _, _, _, rfl⟩
      obtain ⟨i', d', c', o', a', e⟩ := tk
      exact FailAt.tok hL ml (m4 ml) hm e
  · have rk : r ≠ 0 := fun z => w0 (by unfold arcV; rw [if_pos z])
    have dm := r2 m (by omega) (by omega)
    have ml := dm.1
    obtain ⟨b1, b2, b3, b4⟩ := dgv dm
    have wn : ¬ nI (arcV ts m r) = 0 := nI_ne0 (by omega) (by omega)
    have dn : ¬ nI (4 - k) = (0 : Int32) := nI_ne0 (by omega) (by omega)
    have hu := hU (arcV ts m r) (by omega) wl
    have h2' := h2 (arcV ts m r) (by omega)
    have oc : kX2_occurrences (nI (arcV ts m r)) (nI (c + 1)) a = some (nI (cn f (arcV ts m r))) := by
      rw [q_occ hA (by omega) wl, cn_eq (by omega) (fun e he => by rw [h0 e (by omega)]; omega)]
    have tk0 : kX4_takeToken (nI m) 1 (nI (4 - k)) (nI L) ts (nI (c + 1)) (nI o) a = bnd3 (kX4_takeArc (nI (arcV ts m r)) (nI (4 - k)) (nI (c + 1)) a) (fun r_3 o_arcsDue_3 o_p2_arcs_3 => zr r_3 (some (r_3, 1, o_arcsDue_3, nI (c + 1), nI o, o_p2_arcs_3))) := by
      unfold kX4_takeToken
      rw [q_char hL ml, bnd1_e, if_neg b1, if_neg b2, if_neg b3, eF, bnd1_e]
    rw [if_neg wn, ck_nI (by omega) (by omega), nI_clamp (by omega), hu]
    by_cases u2 : cn f (arcV ts m r) = 2
    · left
      refine ⟨m, by rw [u2, if_pos (by rfl)], m2, FailAt.skip hL m1 m2 m3 ?_⟩
      have tk : kX4_takeToken (nI m) 1 (nI (4 - k)) (nI L) ts (nI (c + 1)) (nI o) a = some (0, 1, nI (4 - k), nI (c + 1), nI o, a) := by
        rw [tk0]
        unfold kX4_takeArc
        rw [if_neg wn, if_neg dn, oc, bnd1_e, u2, if_neg (by decide), bnd3_e, zr_0]
      exact FailAt.tok hL ml b4 hm tk
    · right
      have un : ¬ nI (cn f (arcV ts m r)) = (2 : Int32) := fun z => u2 ((nI_eq (b := 2) (by omega) (by omega)).mp z)
      have ul : nI (cn f (arcV ts m r)) < (2 : Int32) := by rw [fa_lit 2]; exact nI_lt (by omega) (by omega)
      have pos : (nI (4 * (c + 1)) - nI (4 - k) : Int32) = nI (4 * c + k) := by
        rw [show 4 * (c + 1) = 4 * c + k + (4 - k) by omega, ← nI_add, Int32.add_sub_cancel]
      have dd : (nI (4 - k) - 1 : Int32) = nI (4 - (k + 1)) := by rw [show 4 - k = 4 - (k + 1) + 1 by omega, nI_pred]
      have tk : kX4_takeToken (nI m) 1 (nI (4 - k)) (nI L) ts (nI (c + 1)) (nI o) a = some (1, 1, nI (4 - (k + 1)), nI (c + 1), nI o, upd a (4 * c + k) (nI (arcV ts m r))) := by
        rw [tk0]
        unfold kX4_takeArc
        rw [if_neg wn, if_neg dn, oc, bnd1_e, if_pos ul, q_endCount, bnd1_e, pos, q_setArc _ (by omega), bnd1_e, dd, bnd3_e, zr_1]
      have past := m_past (read := read) (uses := uses) hL (nI (2 + 4 * c + k)) (nI (arcV ts m r)) r1 r2 r3
      rw [nI_clamp (by omega), nI_clamp (by omega), hu] at past
      refine ⟨m + r, arcV ts m r, upd a (4 * c + k) (nI (arcV ts m r)), upd uses (arcV ts m r) (nI (cn f (arcV ts m r)) + 1), ?_, r1, nd_no r3, by omega, wl, hA.put (by omega) wl, ?_, fun v hv => ?_, fun res hr => ?_⟩
      · rw [if_neg un, ck_nI (by omega) (by omega), ck_nI (by omega) (by omega), ck_nI (by omega) (by omega), past]
      · intro v v1 v2
        rw [cn_put (by omega) (h0 _ (Nat.le_refl _)) v1]
        by_cases e : arcV ts m r = v
        · rw [if_pos e, e, pk_us, ← e, nI_1]
        · rw [if_neg e, pk_un (fun z => e z.symm), hU v v1 v2, Nat.add_zero]
      · rw [cn_put (by omega) (h0 _ (Nat.le_refl _)) hv]
        by_cases e : arcV ts m r = v
        · rw [if_pos e, ← e]; omega
        · rw [if_neg e]; exact h2 v hv
      · refine CR.skip hL m1 m2 m3 (CR.tok hL ml b4 hm tk (CR.quiet hL (m := r - 1) (fun j j1 j2 => ⟨by omega, q_quietD hL (r2 j (by omega) (by omega)) ⟨by omega, r2 (j - 1) (by omega) (by omega)⟩⟩) ?_))
        rw [show m + 1 + (r - 1) = m + r by omega]; exact hr
