/-! ===== the end of a text; loading ===== -/
theorem m_final {L : Nat} {read uses : Nat → Int32} {f : Nat → Nat} (hU : UsR uses f) (h2 : ∀ w, 1 ≤ w → cn f w ≤ 2) {any : Int32} (ha : any = 0 ∨ any = 1) (nx : Int32) :
    (any = 1 ∧ (∀ w, 1 ≤ w → w ≤ 16 → cn f w ≠ 1) ∧ it2 (kX10_readText_L4 (nI L) nx read uses) 400 any 1 = some (-1, nx, read, uses)) ∨
    ((any = 0 ∨ ∃ w, 1 ≤ w ∧ w ≤ 16 ∧ cn f w = 1) ∧ it2 (kX10_readText_L4 (nI L) nx read uses) 400 any 1 = some (nI L, nx, read, uses)) := by
  refine it2_inv (F := kX10_readText_L4 (nI L) nx read uses) (x1 := any) (x2 := 1) (n := 400) (fun i x y => y = nI (1 + i) ∧ ((x = 1 ∧ any = 1 ∧ ∀ w, 1 ≤ w → w ≤ i → cn f w ≠ 1) ∨ (x = 0 ∧ (any = 0 ∨ ∃ w, 1 ≤ w ∧ w ≤ 16 ∧ cn f w = 1)))) (fun r => (any = 1 ∧ (∀ w, 1 ≤ w → w ≤ 16 → cn f w ≠ 1) ∧ r = some (-1, nx, read, uses)) ∨ ((any = 0 ∨ ∃ w, 1 ≤ w ∧ w ≤ 16 ∧ cn f w = 1) ∧ r = some (nI L, nx, read, uses))) 16 (fun K i x y hi hI => ?_) (fun K x y hI => ?_) ⟨rfl, ?_⟩ (by omega)
  · obtain ⟨rfl, hx⟩ := hI
    unfold kX10_readText_L4 kX10_readText_J5
    rw [if_neg (by rw [fa_lit 16]; exact nI_nlt (by omega) (by omega)), nI_1]
    rcases hx with ⟨rfl, x2, x3⟩ | ⟨rfl, x2⟩
    · have u := hU (1 + i) (by omega) (by omega)
      have b := h2 (1 + i) (by omega)
      rw [if_neg (by decide), ck_nI (by omega) (by omega), nI_clamp (by omega), u]
      by_cases q : cn f (1 + i) = 1
      · rw [if_pos (by rw [q]; rfl)]
        exact ⟨_, _, rfl, rfl, Or.inr ⟨rfl, Or.inr ⟨1 + i, by omega, by omega, q⟩⟩⟩
      · have n1 : ¬ (nI (cn f (1 + i)) = (1 : Int32)) := fun z => q ((nI_eq (b := 1) (by omega) (by omega)).mp z)
        rw [if_neg n1]
        refine ⟨_, _, rfl, rfl, Or.inl ⟨rfl, x2, fun w w1 w2 => ?_⟩⟩
        by_cases e : w = 1 + i
        · rw [e]; exact q
        · exact x3 w w1 (by omega)
    · rw [if_pos rfl]
      exact ⟨_, _, rfl, rfl, Or.inr ⟨rfl, x2⟩⟩
  · obtain ⟨rfl, hx⟩ := hI
    unfold kX10_readText_L4
    rw [if_pos (by decide)]
    rcases hx with ⟨rfl, x2, x3⟩ | ⟨rfl, x2⟩
    · rw [if_neg (by decide)]
      exact Or.inl ⟨x2, x3, rfl⟩
    · rw [if_pos rfl]
      exact Or.inr ⟨x2, rfl⟩
  · rcases ha with h | h
    · exact Or.inr ⟨h, Or.inl h⟩
    · exact Or.inl ⟨h, h, fun w w1 w2 => absurd w2 (by omega)⟩
theorem q_whole {c o : Nat} {f : Nat → Nat} {a read uses : Nat → Int32} (h : PS c o f a read uses) :
    (c + o ≠ 0 ∧ (∀ e, e < 4 * c → cn f (f e) = 2) ∧ kX4_isWhole 0 (nI c) (nI o) a = some 1) ∨ ((c + o = 0 ∨ ∃ e, e < 4 * c ∧ cn f (f e) ≠ 2) ∧ kX4_isWhole 0 (nI c) (nI o) a = some 0) := by
  obtain ⟨h1, h2', h3, h4, h5, h6, h7, h8⟩ := h
  unfold kX4_isWhole
  rw [if_pos rfl, nI_add]
  by_cases z : c + o = 0
  · rw [if_pos (by rw [z]; rfl)]
    exact Or.inr ⟨Or.inl z, rfl⟩
  · rw [if_neg (nI_ne0 (by omega) (by omega)), q_endCount, bnd1_e]
    refine it1_way (F := kX4_isWhole_L1 (nI (4 * c)) a (nI c)) (x1 := 0) (n := 400) (fun i x => x = nI i ∧ ∀ e, e < i → cn f (f e) = 2) (fun r => (c + o ≠ 0 ∧ (∀ e, e < 4 * c → cn f (f e) = 2) ∧ r = some 1) ∨ ((c + o = 0 ∨ ∃ e, e < 4 * c ∧ cn f (f e) ≠ 2) ∧ r = some 0)) (4 * c) (fun K i x hi hI => ?_) ⟨rfl, fun e he => absurd he (Nat.not_lt_zero _)⟩ (by omega)
    obtain ⟨rfl, hx⟩ := hI
    unfold kX4_isWhole_L1
    by_cases q : i = 4 * c
    · left
      exact Or.inl ⟨z, fun e he => hx e (by omega), if_pos (nI_le (by omega) (by omega))⟩
    · have fi := h5 i (by omega)
      have b := h8 (f i) fi.1
      rw [if_neg (nI_ge (by omega) (by omega)), q_arcR h3 (by omega), bnd1_e, q_occ h3 h1 fi.2, bnd1_e, cn_eq (by omega) (fun e he => by rw [h4 e he]; omega), nI_1]
      by_cases w : cn f (f i) = 2
      · right
        refine ⟨by omega, _, if_pos (by rw [w]; rfl), rfl, fun e he => ?_⟩
        by_cases g : e = i
        · rw [g]; exact w
        · exact hx e (by omega)
      · left
        have n2 : ¬ (nI (cn f (f i)) = (2 : Int32)) := fun y => w ((nI_eq (b := 2) (by omega) (by omega)).mp y)
        exact Or.inr ⟨Or.inr ⟨i, by omega, w⟩, if_neg n2⟩
def RtQ (L : Nat) (ts : Nat → Int32) (r : Option (Int32 × Int32 × (Nat → Int32) × (Nat → Int32))) : Prop :=
  ∀ a0, Rp a0 (fun _ => 0) → ∃ v nx read' uses' i d c' o' a', r = some (v, nx, read', uses') ∧ CR L ts 0 0 0 0 0 a0 (some (v, i, d, c', o', a')) ∧ (v < 0 → ∃ D : St, VS D ∧ c' = nI D.1 ∧ o' = nI D.2.1 ∧ Rp a' D.2.2 ∧ BlR read' 0 D)
theorem p_end {L c o : Nat} {ts : Nat → Int32} {f : Nat → Nat} {a read uses : Nat → Int32} (hL : L ≤ 160) (h : PS c o f a read uses) {any : Int32} (ha : (c + o = 0 ∧ any = 0) ∨ (c + o ≠ 0 ∧ any = 1)) :
    ∃ v, it2 (kX10_readText_L4 (nI L) (nI L) read uses) 400 any 1 = some (v, nI L, read, uses) ∧ CR L ts L 0 0 (nI c) (nI o) a (some (v, 0, 0, nI c, nI o, a)) ∧ (v < 0 → VS (c, o, f)) := by
  have hh := h
  obtain ⟨h1, h2', h3, h4, h5, h6, h7, h8⟩ := hh
  have up : ∀ e, e < 32 → 1 ≤ f e → e < 4 * c := fun e he w => Classical.byContradiction fun z => by
    have := h4 e (by omega); omega
  have stop : ∀ (w : Int32) (v : Int32), kX4_isWhole 0 (nI c) (nI o) a = some w → ((w = 1 ∧ v = -1) ∨ (w = 0 ∧ v = nI L)) → CR L ts L 0 0 (nI c) (nI o) a (some (v, 0, 0, nI c, nI o, a)) := fun w v e hw => CR.stop (fun K => by
    unfold kX4_read_L1
    rw [if_pos (nI_le (by omega) (by omega)), e, bnd1_e]
    rcases hw with ⟨rfl, rfl⟩ | ⟨rfl, rfl⟩
    · rw [if_neg (by decide)]
    · rw [if_pos rfl])
  rcases m_final (L := L) (read := read) h7 h8 (any := any) (by rcases ha with w | w; exact Or.inl w.2; exact Or.inr w.2) (nI L) with ⟨g1, g2, g3⟩ | ⟨g1, g2⟩
  · rcases q_whole h with ⟨k1, k2, k3⟩ | ⟨k1, k2⟩
    · exact ⟨-1, g3, stop 1 _ k3 (Or.inl ⟨rfl, rfl⟩), fun _ => ps_VS h k2⟩
    · exfalso
      rcases k1 with k1 | ⟨e, e1, e2⟩
      · rcases ha with w | w
        · rw [w.2] at g1; exact absurd g1 (by decide)
        · exact w.1 k1
      · have fe := h5 e e1
        have b := h8 (f e) fe.1
        have p : 0 < cn f (f e) := fb_ct_pos.mpr ⟨e, by omega, by simp⟩
        exact g2 (f e) fe.1 fe.2 (by omega)
  · rcases q_whole h with ⟨k1, k2, k3⟩ | ⟨k1, k2⟩
    · exfalso
      rcases g1 with g1 | ⟨w, w1, w2, w3⟩
      · rcases ha with y | y
        · exact k1 y.1
        · rw [y.2] at g1; exact absurd g1 (by decide)
      · obtain ⟨e, e1, e2⟩ := fb_ct_pos.mp (show 0 < cn f w by omega)
        have fe : f e = w := by simpa using e2
        have := k2 e (up e e1 (by omega))
        rw [fe] at this
        omega
    · refine ⟨nI L, g2, stop 0 _ k2 (Or.inr ⟨rfl, rfl⟩), fun z => absurd z (nI_pos (by omega))⟩
theorem p_texts {L : Nat} {ts : Nat → Int32} (hL : L ≤ 160) {p0 : Nat} (hp0 : p0 ≤ L) (hs : ∀ j, j < p0 → ts j = 32) (h32 : p0 < L → ts p0 ≠ 32) {read uses : Nat → Int32} (hr : BlR read 0 (0, 0, fun _ => 0)) (hu : ∀ w, w ≤ 16 → uses w = 0) : RtQ L ts (it4 (kX10_readText_L3 (nI L) ts) 400 0 (nI p0) read uses) := by
  intro a0 ha0
  have i1 : ¬ ((1 : Int32) = 0) := by decide
  have cz0 : ∀ w, 1 ≤ w → cn (fun _ => 0) w = 0 := fun w hw => fb_ct_zero.mpr (fun k hk => by simp; omega)
  have nd0 : nd L ts p0 := fun z => by
    have := dg32 (L := L) (hs (p0 - 1) (by have := z.2.1; omega))
    exact this z.2.2
  refine it4_way (F := kX10_readText_L3 (nI L) ts) (x1 := 0) (x2 := nI p0) (x3 := read) (x4 := uses) (n := 400) (fun i x y rd us => ∃ c o f a p, i = c + o ∧ ((c + o = 0 ∧ x = 0) ∨ (c + o ≠ 0 ∧ x = 1)) ∧ y = nI p ∧ p ≤ L ∧ (p < L → ts p ≠ 32) ∧ nd L ts p ∧ PS c o f a rd us ∧ ∀ res, CR L ts p 0 0 (nI c) (nI o) a res → CR L ts 0 0 0 0 0 a0 res) (fun r => ∃ v nx read' uses' i d c' o' a', r = some (v, nx, read', uses') ∧ CR L ts 0 0 0 0 0 a0 (some (v, i, d, c', o', a')) ∧ (v < 0 → ∃ D : St, VS D ∧ c' = nI D.1 ∧ o' = nI D.2.1 ∧ Rp a' D.2.2 ∧ BlR read' 0 D)) 12 (fun K i x y rd us hi hI => ?_) ⟨0, 0, fun _ => 0, a0, p0, rfl, Or.inl ⟨rfl, rfl⟩, rfl, hp0, h32, nd0, ⟨by omega, by omega, ha0, fun _ _ => rfl, fun e he => absurd he (by omega), hr, fun w w1 w2 => by rw [cz0 w w1, hu w w2]; rfl, fun w w1 => by rw [cz0 w w1]; omega⟩, fun res hc => CR.skip hL (Nat.zero_le _) hp0 (fun j _ j2 => hs j j2) hc⟩ (by omega)
  obtain ⟨c, o, f, a, p, rfl, hx, rfl, s1, s2, s3, s4, s5⟩ := hI
  unfold kX10_readText_L3
  by_cases q : p = L
  · left
    subst q
    rw [if_pos (nI_le (by omega) (by omega))]
    obtain ⟨v, e1, e2, e3⟩ := p_end (ts := ts) hL s4 hx
    exact ⟨v, _, _, _, _, _, _, _, _, e1, s5 _ e2, fun hv => ⟨(c, o, f), e3 hv, rfl, rfl, s4.2.2.1, s4.2.2.2.2.2.1⟩⟩
  · rw [if_neg (nI_ge (by omega) (by omega))]
    rcases p_statement hL (show p < L by omega) (s2 (by omega)) s3 s4 with ⟨m, rd', us', e1, ml, i', d', c', o', a', e2⟩ | ⟨m, c', o', f', a', rd', us', e1, e2, e3, e4, e5, e6⟩
    · left
      rw [e1, bnd4_e, if_pos rfl]
      exact ⟨nI m, _, _, _, _, _, _, _, _, rfl, s5 _ e2, fun hv => absurd hv (nI_pos (by omega))⟩
    · right
      obtain ⟨m2, m1, m3, m4, m5, m6⟩ := m_skip (ts := ts) hL e2
      rw [e1, bnd4_e, if_neg i1, m6, bnd1_e]
      have b1 := e5.1
      have b2 := e5.2.1
      exact ⟨by omega, _, _, _, _, rfl, c', o', f', a', m2, by omega, Or.inr ⟨by omega, rfl⟩, rfl, m3, m5, nd_skip e3 m1 m4, e5, fun res hc => s5 res (e6 res (CR.skip hL m1 m3 m4 hc))⟩
theorem p_readText {L : Nat} {ts : Nat → Int32} (hL : L ≤ 160) (nx : Int32) (read uses : Nat → Int32) : RtQ L ts (kX10_readText (nI L) nx ts read uses) := by
  unfold kX10_readText
  refine it2_inv (F := kX10_readText_L1 (nI L) ts uses) (x1 := 0) (x2 := read) (n := 400) (fun i x y => x = nI i ∧ ∀ j, j < i → y j = 0) (RtQ L ts) 34 (fun K i x y hi hI => ?_) (fun K x y hI => ?_) ⟨rfl, fun j hj => absurd hj (Nat.not_lt_zero _)⟩ (by omega)
  · obtain ⟨rfl, hy⟩ := hI
    unfold kX10_readText_L1
    rw [if_neg (by rw [fa_lit 34]; exact nI_ge (by omega) (by omega)), ck_nI (by omega) (by omega), nI_clamp (by omega), nI_1]
    refine ⟨_, _, rfl, rfl, fun j hj => ?_⟩
    by_cases w : j = i
    · subst w; rw [pk_us]
    · rw [pk_un w]; exact hy j (by omega)
  · obtain ⟨rfl, hy⟩ := hI
    unfold kX10_readText_L1
    rw [if_pos (by decide)]
    refine it2_inv (F := kX10_readText_L2 (nI L) ts y) (x1 := 0) (x2 := uses) (n := 400) (fun i x z => x = nI i ∧ ∀ j, j < i → z j = 0) (RtQ L ts) 17 (fun K i x z hi hI => ?_) (fun K x z hI => ?_) ⟨rfl, fun j hj => absurd hj (Nat.not_lt_zero _)⟩ (by omega)
    · obtain ⟨rfl, hz⟩ := hI
      unfold kX10_readText_L2
      rw [if_neg (by rw [fa_lit 16]; exact nI_nlt (by omega) (by omega)), ck_nI (by omega) (by omega), nI_clamp (by omega), nI_1]
      refine ⟨_, _, rfl, rfl, fun j hj => ?_⟩
      by_cases w : j = i
      · subst w; rw [pk_us]
      · rw [pk_un w]; exact hz j (by omega)
    · obtain ⟨rfl, hz⟩ := hI
      unfold kX10_readText_L2
      rw [if_pos (by decide)]
      obtain ⟨m, m1, m2, m3, m4, m5⟩ := m_skip (ts := ts) (p := 0) hL (Nat.zero_le _)
      have m5' : kX10_skipSpaces (nI L) 0 ts = some (nI m) := m5
      rw [m5', bnd1_e]
      exact p_texts hL m2 (fun j hj => m3 j (Nat.zero_le _) hj) m4 ⟨hy 0 (by omega), hy 1 (by omega), fun e he => hy _ (by omega)⟩ (fun w hw => hz w (by omega))
def TR (tl : Int32) (cs : Nat → Int32) (rl : Int32) (ts : Nat → Int32) : Prop := ∃ L, TX L cs ts ∧ tl = nI L ∧ rl = nI L
theorem SR.load {ss np dc dr : Int32} {da cells filled : Nat → Int32} {pr : Int32} {coef : Nat → Int32} {saved : Int32} {now hist kept isk : Nat → Int32} (h : SR ss np dc dr da cells filled pr coef saved now hist kept isk) {tl rl : Int32} {cs ts : Nat → Int32} (hT : TR tl cs rl ts) (ri rd pc po nx : Int32) (pa read uses : Nat → Int32) :
    ∃ r ss' np' tl' ri' rd' dc' dr' da' pc' po' pa' cells' filled' pr' saved' rl' nx' now' hist' read' uses', kX9_load ss np tl cs ri rd dc dr da pc po pa cells filled pr = some (r, ss', np', tl', ri', rd', dc', dr', da', pc', po', pa', cells', filled', pr') ∧ kX10_load saved rl nx now hist ts read uses = some (r, saved', rl', nx', now', hist', read', uses') ∧ SR ss' np' dc' dr' da' cells' filled' pr' coef saved' now' hist' kept isk ∧ TR tl' cs rl' ts := by
  have hT' := hT
  obtain ⟨L, hX, rfl, rfl⟩ := hT'
  have hL := hX.1
  obtain ⟨v, nx', read', uses', i, d, c', o', a', e1, e2, e3⟩ := p_readText (ts := ts) hL nx read uses _ (Rp.clear pa)
  have e4 : kX4_read ri rd (nI L) cs pc po pa = some (v, i, d, c', o', a') := by
    rw [q_readCong hX]
    unfold kX4_read
    rw [q_clear, bnd3_e]
    exact e2 400 (by omega)
  unfold kX9_load kX10_load
  rw [e4, bnd6_e, e1, bnd4_e]
  by_cases q : v < 0
  · obtain ⟨D, d1, rfl, rfl, d4, d5⟩ := e3 q
    obtain ⟨ss', np', da', cells', filled', saved', hist', f1, f2, f3, f4⟩ := h.become d1 d4
    obtain ⟨now', f5, f6⟩ := m_become (n := 34) (now := now) (k := 0) (by omega) (by omega) d5
    have f5' : kX10_become 34 0 now read' = some now' := f5
    rw [if_pos q, if_pos q, f1, bnd8_e, f2, bnd2_e, f5', bnd1_e, m_crossings (BlR.mr.mp f6), bnd1_e]
    exact ⟨_, _, _, _, _, _, _, _, _, _, _, _, _, _, _, _, _, _, now', _, _, _, rfl, rfl, f4 now' f6, 0, ⟨Nat.zero_le _, fun j hj => absurd hj (Nat.not_lt_zero _)⟩, rfl, rfl⟩
  · rw [if_neg q, if_neg q]
    exact ⟨_, _, _, _, _, _, _, _, _, _, _, _, _, _, _, _, _, _, _, _, _, _, rfl, rfl, h, hT⟩
theorem t_append {tl rl : Int32} {cs ts : Nat → Int32} (hT : TR tl cs rl ts) (v : Int32) : ∃ r tl' cs' rl' ts', kX9_append v tl cs = some (r, tl', cs') ∧ kX10_append v rl ts = some (r, rl', ts') ∧ TR tl' cs' rl' ts' := by
  have hT' := hT
  obtain ⟨L, ⟨hL, hX⟩, rfl, rfl⟩ := hT'
  have i1 : ¬ ((1 : Int32) = 0) := by decide
  unfold kX9_append kX10_append
  by_cases a : v < 0
  · rw [if_pos a, m_inLo a, bnd1_e, if_pos rfl]
    exact ⟨_, _, _, _, _, rfl, rfl, hT⟩
  rw [if_neg a]
  by_cases b : v ≤ 255
  · rw [if_pos b, m_in (Int32.not_lt.mp a) b, bnd1_e, if_neg i1]
    by_cases c : L = 160
    · rw [if_neg (by rw [c]; decide), if_pos (by rw [c]; rfl)]
      exact ⟨_, _, _, _, _, rfl, rfl, hT⟩
    · have n160 : ¬ (nI L = (160 : Int32)) := fun z => c ((nI_eq (b := 160) (by omega) (by omega)).mp z)
      unfold kX8_add
      rw [if_pos (by rw [fa_lit 160]; exact nI_lt (by omega) (by omega)), if_neg n160, if_neg (nI_pos (by omega)), if_neg (by rw [fa_lit 160]; exact nI_ge (by omega) (by omega)), ck_nI (by omega) (by omega), ck_nI (by omega) (by omega), nI_clamp (by omega), bnd2_e, nI_1]
      refine ⟨_, _, _, _, _, rfl, rfl, L + 1, ⟨by omega, fun j hj => ?_⟩, rfl, rfl⟩
      by_cases w : j = L
      · subst w; rw [pk_us, pk_us]
      · rw [pk_un w, pk_un w]; exact hX j (by omega)
  · rw [if_neg b, m_inHi (Int32.not_le.mp b), bnd1_e, if_pos rfl]
    exact ⟨_, _, _, _, _, rfl, rfl, hT⟩
theorem t_clearText {tl rl : Int32} {cs ts : Nat → Int32} (hT : TR tl cs rl ts) : ∃ r tl' rl', kX9_clearText tl = some (r, tl') ∧ kX10_clearText rl = some (r, rl') ∧ TR tl' cs rl' ts := by
  obtain ⟨L, ⟨hL, hX⟩, rfl, rfl⟩ := hT
  exact ⟨_, _, _, rfl, rfl, 0, ⟨Nat.zero_le _, fun j hj => absurd hj (Nat.not_lt_zero _)⟩, rfl, rfl⟩
