/-! ===== statements and texts ===== -/
theorem p_semi {L p : Nat} {ts : Nat → Int32} (hL : L ≤ 160) (hp : p ≤ L) (hn : nd L ts p) (read uses : Nat → Int32) (C O : Int32) (a : Nat → Int32) :
    (∃ q, kX10_readStatement_J1 (nI L) ts (nI p) read uses = some (0, nI q, read, uses) ∧ q ≤ L ∧ FailAt L ts p 1 0 C O a q) ∨
    (∃ q, kX10_readStatement_J1 (nI L) ts (nI p) read uses = some (1, nI q, read, uses) ∧ q ≤ L ∧ nd L ts q ∧ ∀ res, CR L ts q 0 0 C O a res → CR L ts p 1 0 C O a res) := by
  obtain ⟨m, m1, m2, m3, m4, m5⟩ := m_skip (ts := ts) hL hp
  have hm := nd_skip hn m1 m3
  have i1 : ¬ ((1 : Int32) = 0) := by decide
  unfold kX10_readStatement_J1
  rw [m5, bnd1_e]
  rcases m_isAt (L := L) (p := m) (ts := ts) hL 59 with ⟨g1, g2, g3⟩ | ⟨g1, g2⟩
  · right
    refine ⟨m + 1, by rw [g3, bnd1_e, if_neg i1, nI_1], by omega, fun z => ?_, fun res hr => ?_⟩
    · have := (dgv z.2.2).1
      rw [Nat.add_sub_cancel] at this
      exact this g2
    · have tk : kX4_takeToken (nI m) 1 0 (nI L) ts C O a = some (1, 0, 0, C, O, a) := by
        unfold kX4_takeToken kX4_takeSemicolon
        rw [q_char hL g1, bnd1_e, if_pos g2, if_neg i1, if_pos (by decide), bnd2_e, zr_1]
      exact CR.skip hL m1 m2 m3 (CR.tok hL g1 (m4 g1) hm tk hr)
  · left
    refine ⟨m, by rw [g2 (by omega), bnd1_e, if_pos rfl], m2, FailAt.skip hL m1 m2 m3 ?_⟩
    by_cases e : m = L
    · rw [e]; exact FailAt.end hL
    · have ml : m < L := by omega
      obtain ⟨r, r1, r2, r3⟩ := run_ex (ts := ts) m2
      have tk : ∃ i' d' c' o' a', kX4_takeToken (nI m) 1 0 (nI L) ts C O a = some (0, i', d', c', o', a') := by
        unfold kX4_takeToken kX4_takeCircle kX4_takeCrossing kX4_takeArc
        rw [q_char hL ml, bnd1_e, if_neg (g1 ml)]
        by_cases a2 : ts m = 111
        · rw [if_pos a2, if_neg i1, bnd3_e, zr_0]; exact ⟨_, _, _, _, _, rfl⟩
        rw [if_neg a2]
        by_cases a3 : ts m = 120
        · rw [if_pos a3, if_neg i1, bnd4_e, zr_0]; exact ⟨_, _, _, _, _, rfl⟩
        rw [if_neg a3, q_arcFrom hL r1 r2 r3, bnd1_e]
        by_cases w : nI (arcV ts m r) = 0
        · rw [if_pos w, bnd3_e, zr_0]; exact ⟨_, _, _, _, _, rfl⟩
        · rw [if_neg w, if_pos rfl, bnd3_e, zr_0]; exact ⟨_, _, _, _, _, rfl⟩
      obtain ⟨i', d', c', o', a', e⟩ := tk
      exact FailAt.tok hL ml (m4 ml) hm e
def PS (c o : Nat) (f : Nat → Nat) (a read uses : Nat → Int32) : Prop := c ≤ 8 ∧ o ≤ 4 ∧ Rp a f ∧ (∀ e, 4 * c ≤ e → f e = 0) ∧ (∀ e, e < 4 * c → 1 ≤ f e ∧ f e ≤ 16) ∧ BlR read 0 (c, o, f) ∧ UsR uses f ∧ ∀ w, 1 ≤ w → cn f w ≤ 2
def StQ (L : Nat) (ts : Nat → Int32) (p c o : Nat) (a : Nat → Int32) (r : Option (Int32 × Int32 × (Nat → Int32) × (Nat → Int32))) : Prop :=
  (∃ q read' uses', r = some (0, nI q, read', uses') ∧ q ≤ L ∧ FailAt L ts p 0 0 (nI c) (nI o) a q) ∨
  (∃ q c' o' f' a' read' uses', r = some (1, nI q, read', uses') ∧ q ≤ L ∧ nd L ts q ∧ c' + o' = c + o + 1 ∧ PS c' o' f' a' read' uses' ∧ ∀ res, CR L ts q 0 0 (nI c') (nI o') a' res → CR L ts p 0 0 (nI c) (nI o) a res)
theorem c134 {α : Type} (k : Option α) : ck 1 34 k = k := by rw [fa_lit 1]; exact ck_nI (by omega) (by omega)
theorem c034 {α : Type} (k : Option α) : ck 0 34 k = k := by rw [fa_lit 0]; exact ck_nI (by omega) (by omega)
theorem p_J2 {L p c o : Nat} {ts : Nat → Int32} {f : Nat → Nat} {a read uses : Nat → Int32} (hL : L ≤ 160) (hp : p < L) (h32 : ts p ≠ 32) (hn : nd L ts p) (hx : ts p ≠ 120 ∨ c = 8) (h : PS c o f a read uses) : StQ L ts p c o a (kX10_readStatement_J2 (nI L) (nI p) ts read uses) := by
  obtain ⟨h1, h2, h3, h4, h5, h6, h7, h8⟩ := h
  have i1 : ¬ ((1 : Int32) = 0) := by decide
  have rd1 : read 1 = nI o := h6.2.1
  unfold kX10_readStatement_J2
  rcases m_isAt (L := L) (p := p) (ts := ts) hL 111 with ⟨g1, g2, g3⟩ | ⟨g1, g2⟩
  · rw [g3, bnd1_e, if_neg i1, c134, cl1, rd1]
    by_cases q : o = 4
    · rw [if_pos (by rw [q]; decide)]
      refine Or.inl ⟨p, _, _, rfl, by omega, FailAt.tok (i' := 0) (d' := 0) (c' := nI c) (o' := nI o) (a' := a) hL hp h32 hn ?_⟩
      unfold kX4_takeToken kX4_takeCircle
      rw [q_char hL hp, bnd1_e, if_neg (by rw [g2]; decide), if_pos g2, if_pos rfl, if_neg (by rw [q]; decide), bnd3_e, zr_0]
    · rw [if_neg (by rw [fa_lit 4]; exact nI_ge (by omega) (by omega)), c134, c134, nI_1, nI_1]
      have tk : kX4_takeToken (nI p) 0 0 (nI L) ts (nI c) (nI o) a = some (1, 1, 0, nI c, nI (o + 1), a) := by
        unfold kX4_takeToken kX4_takeCircle
        rw [q_char hL hp, bnd1_e, if_neg (by rw [g2]; decide), if_pos g2, if_pos rfl, if_pos (by rw [fa_lit 4]; exact nI_lt (by omega) (by omega)), bnd3_e, zr_1, nI_1]
      have hn1 : nd L ts (p + 1) := fun z => by
        have := (dgv z.2.2).2.1
        rw [Nat.add_sub_cancel] at this
        exact this g2
      rcases p_semi hL (show p + 1 ≤ L by omega) hn1 (upd read 1 (nI (o + 1))) uses (nI c) (nI (o + 1)) a with ⟨m, s1, sl, i', d', c', o', a', s2⟩ | ⟨m, s1, s2, s3, s4⟩
      · exact Or.inl ⟨m, _, _, s1, sl, i', d', c', o', a', CR.tok hL hp h32 hn tk s2⟩
      · refine Or.inr ⟨m, c, o + 1, f, a, _, _, s1, s2, s3, by omega, ⟨h1, by omega, h3, h4, h5, ⟨?_, ?_, fun e he => ?_⟩, h7, h8⟩, fun res hr => CR.tok hL hp h32 hn tk (s4 res hr)⟩
        · rw [pk_un (by omega)]; exact h6.1
        · rw [Nat.zero_add, pk_us]
        · rw [pk_un (by omega)]; exact h6.2.2 e he
  · rw [g2 (by omega), bnd1_e, if_pos rfl]
    obtain ⟨r, r1, r2, r3⟩ := run_ex (ts := ts) (show p ≤ L by omega)
    have tk : ∃ i' d' c' o' a', kX4_takeToken (nI p) 0 0 (nI L) ts (nI c) (nI o) a = some (0, i', d', c', o', a') := by
      unfold kX4_takeToken kX4_takeSemicolon kX4_takeCrossing kX4_takeArc
      rw [q_char hL hp, bnd1_e]
      by_cases a1 : ts p = 59
      · rw [if_pos a1, if_pos rfl, bnd2_e, zr_0]; exact ⟨_, _, _, _, _, rfl⟩
      rw [if_neg a1, if_neg (g1 hp)]
      by_cases a3 : ts p = 120
      · have c8 := hx.resolve_left (fun z => z a3)
        rw [if_pos a3, if_pos rfl, if_neg (by rw [c8]; decide), bnd4_e, zr_0]; exact ⟨_, _, _, _, _, rfl⟩
      rw [if_neg a3, q_arcFrom hL r1 r2 r3, bnd1_e]
      by_cases w : nI (arcV ts p r) = 0
      · rw [if_pos w, bnd3_e, zr_0]; exact ⟨_, _, _, _, _, rfl⟩
      · rw [if_neg w, if_pos rfl, bnd3_e, zr_0]; exact ⟨_, _, _, _, _, rfl⟩
    obtain ⟨i', d', c', o', a', e⟩ := tk
    exact Or.inl ⟨p, _, _, rfl, by omega, FailAt.tok hL hp h32 hn e⟩
theorem p_statement {L p c o : Nat} {ts : Nat → Int32} {f : Nat → Nat} {a read uses : Nat → Int32} (hL : L ≤ 160) (hp : p < L) (h32 : ts p ≠ 32) (hn : nd L ts p) (h : PS c o f a read uses) : StQ L ts p c o a (kX10_readStatement (nI L) (nI p) ts read uses) := by
  have i1 : ¬ ((1 : Int32) = 0) := by decide
  unfold kX10_readStatement
  rcases m_isAt (L := L) (p := p) (ts := ts) hL 120 with ⟨g1, g2, g3⟩ | ⟨g1, g2⟩
  · obtain ⟨h1, h2, h3, h4, h5, h6, h7, h8⟩ := h
    have rd0 : read 0 = nI c := h6.1
    rw [g3, bnd1_e, if_neg i1, c034, cl0, rd0]
    by_cases q : c = 8
    · rw [if_pos (by rw [q]; decide)]
      exact p_J2 hL hp h32 hn (Or.inr q) ⟨h1, h2, h3, h4, h5, h6, h7, h8⟩
    · rw [if_neg (by rw [fa_lit 8]; exact nI_ge (by omega) (by omega)), nI_1]
      have tk : kX4_takeToken (nI p) 0 0 (nI L) ts (nI c) (nI o) a = some (1, 1, nI (4 - 0), nI (c + 1), nI o, a) := by
        unfold kX4_takeToken kX4_takeCrossing
        rw [q_char hL hp, bnd1_e, if_neg (by rw [g2]; decide), if_neg (by rw [g2]; decide), if_pos g2, if_pos rfl, if_pos (by rw [fa_lit 8]; exact nI_lt (by omega) (by omega)), bnd4_e, zr_1, nI_1]
        rfl
      have hn1 : nd L ts (p + 1) := fun z => by
        have := (dgv z.2.2).2.2.1
        rw [Nat.add_sub_cancel] at this
        exact this g2
      refine it4_way (F := kX10_readStatement_L3 (nI L) ts) (x1 := 0) (x2 := nI (p + 1)) (x3 := read) (x4 := uses) (n := 400) (fun k x y rd us => x = nI k ∧ ∃ pk fk ak, y = nI pk ∧ pk ≤ L ∧ nd L ts pk ∧ Rp ak fk ∧ (∀ e, 4 * c + k ≤ e → fk e = 0) ∧ (∀ e, e < 4 * c + k → 1 ≤ fk e ∧ fk e ≤ 16) ∧ BlR rd 0 (c, o, fk) ∧ UsR us fk ∧ (∀ w, 1 ≤ w → cn fk w ≤ 2) ∧ ∀ res, CR L ts pk 1 (nI (4 - k)) (nI (c + 1)) (nI o) ak res → CR L ts p 0 0 (nI c) (nI o) a res) (StQ L ts p c o a) 4 (fun K k x y rd us hk hI => ?_) ⟨rfl, p + 1, f, a, rfl, by omega, hn1, h3, h4, h5, h6, h7, h8, fun res hr => CR.tok hL hp h32 hn tk hr⟩ (by omega)
      obtain ⟨rfl, pk, fk, ak, rfl, s1, s2, s3, s4, s5, s6, s7, s8, s9⟩ := hI
      have rk0 : rd 0 = nI c := s6.1
      unfold kX10_readStatement_L3
      by_cases k4 : k = 4
      · left
        subst k4
        rw [if_pos (by decide), c034, c034, cl0, rk0, nI_1]
        rcases p_semi hL s1 s2 (upd rd 0 (nI (c + 1))) us (nI (c + 1)) (nI o) ak with ⟨m, t1, tl, i', d', c', o', a', t2⟩ | ⟨m, t1, t2, t3, t4⟩
        · exact Or.inl ⟨m, _, _, t1, tl, i', d', c', o', a', s9 _ t2⟩
        · refine Or.inr ⟨m, c + 1, o, fk, ak, _, _, t1, t2, t3, by omega, ⟨by omega, h2, s3, fun e he => s4 e (by omega), fun e he => s5 e (by omega), ⟨?_, ?_, fun e he => ?_⟩, s7, s8⟩, fun res hr => s9 res (t4 res hr)⟩
          · rw [pk_us]
          · rw [pk_un (by omega)]; exact s6.2.1
          · rw [pk_un (by omega)]; exact s6.2.2 e he
      · rw [if_neg (by rw [fa_lit 4]; exact nI_ge (by omega) (by omega)), c034, cl0, rk0]
        have ix : (2 + 4 * nI c + nI k : Int32) = nI (2 + 4 * c + k) := by rw [fa_lit 4, pk_mul, fa_lit 2, nI_add, nI_add]
        rw [ix]
        rcases p_readArc (o := o) (read := rd) (uses := us) hL s1 s2 (show k < 4 by omega) (show c < 8 by omega) s3 s4 s7 s8 with ⟨q, t1, tl, i', d', c', o', a', t2⟩ | ⟨q, w, a', uses', t1, t2, t3, t4, t5, t6, t7, t8, t9⟩
        · left
          rw [t1, bnd4_e, if_pos rfl]
          exact Or.inl ⟨q, _, _, rfl, tl, i', d', c', o', a', s9 _ t2⟩
        · right
          rw [t1, bnd4_e, if_neg i1, nI_1]
          refine ⟨by omega, _, _, _, _, rfl, rfl, q, _, a', rfl, t2, t3, t6, fun e he => ?_, fun e he => ?_, ⟨?_, ?_, fun e he => ?_⟩, t7, t8, fun res hr => s9 res (t9 res hr)⟩
          · unfold updN
            rw [if_neg (by omega)]; exact s4 e (by omega)
          · unfold updN
            by_cases z : e = 4 * c + k
            · rw [if_pos z]; exact ⟨t4, t5⟩
            · rw [if_neg z]; exact s5 e (by omega)
          · rw [pk_un (by omega)]; exact s6.1
          · rw [pk_un (by omega)]; exact s6.2.1
          · show _ = nI (updN fk (4 * c + k) w e)
            unfold updN
            by_cases z : e = 4 * c + k
            · rw [if_pos z, show 0 + 2 + e = 2 + 4 * c + k by omega, pk_us]
            · rw [if_neg z, pk_un (by omega)]; exact s6.2.2 e he
  · rw [g2 (by omega), bnd1_e, if_pos rfl]
    exact p_J2 hL hp h32 hn (Or.inl (g1 hp)) h
/-! the end of a text -/
theorem fb_one {P : Nat → Bool} : ∀ {n : Nat}, fb_ct P n = 1 → ∃ t, t < n ∧ P t = true ∧ ∀ x, x < n → P x = true → x = t
  | 0, h => absurd (show (0 : Nat) = 1 from h) (by decide)
  | n + 1, h => by
    rw [fb_ct_succ] at h
    by_cases q : P n = true
    · rw [if_pos q] at h
      have z := fb_ct_zero.mp (show fb_ct P n = 0 by omega)
      refine ⟨n, by omega, q, fun x hx hP => Classical.byContradiction fun w => ?_⟩
      have := z x (by omega)
      rw [this] at hP; exact absurd hP (by decide)
    · rw [if_neg q] at h
      obtain ⟨t, t1, t2, t3⟩ := fb_one (show fb_ct P n = 1 by omega)
      refine ⟨t, by omega, t2, fun x hx hP => t3 x (Nat.lt_of_le_of_ne (by omega) (fun w => q (w ▸ hP))) hP⟩
theorem fb_two {P : Nat → Bool} : ∀ {n : Nat}, fb_ct P n = 2 → ∃ s t, s < n ∧ t < n ∧ s ≠ t ∧ P s = true ∧ P t = true ∧ ∀ x, x < n → P x = true → x = s ∨ x = t
  | 0, h => absurd (show (0 : Nat) = 2 from h) (by decide)
  | n + 1, h => by
    rw [fb_ct_succ] at h
    by_cases q : P n = true
    · rw [if_pos q] at h
      obtain ⟨t, t1, t2, t3⟩ := fb_one (show fb_ct P n = 1 by omega)
      refine ⟨t, n, by omega, by omega, by omega, t2, q, fun x hx hP => ?_⟩
      by_cases w : x = n
      · exact Or.inr w
      · exact Or.inl (t3 x (by omega) hP)
    · rw [if_neg q] at h
      obtain ⟨s, t, t1, t2, t3, t4, t5, t6⟩ := fb_two (show fb_ct P n = 2 by omega)
      exact ⟨s, t, by omega, by omega, t3, t4, t5, fun x hx hP => t6 x (Nat.lt_of_le_of_ne (by omega) (fun w => q (w ▸ hP))) hP⟩
theorem ps_VS {c o : Nat} {f : Nat → Nat} {a read uses : Nat → Int32} (h : PS c o f a read uses) (h2 : ∀ e, e < 4 * c → cn f (f e) = 2) : VS (c, o, f) := by
  obtain ⟨h1, h2', h3, h4, h5, h6, h7, h8⟩ := h
  refine ⟨h1, h2', h4, h5, fun e he => ?_⟩
  obtain ⟨s, t, s1, t1, st, ps, pt, all⟩ := fb_two (h2 e he)
  have up : ∀ x, f x = f e → x < 4 * c := fun x hx => by
    refine Classical.byContradiction fun w => ?_
    have := h4 x (by omega)
    have := h5 e he
    omega
  have fs : f s = f e := by simpa using ps
  have ft : f t = f e := by simpa using pt
  rcases all e (by omega) (by simp) with r | r
  · subst r
    exact ⟨t, up t ft, fun z => st z.symm, ft, fun x hx g => all x (by omega) (beq_iff_eq.mpr g)⟩
  · subst r
    exact ⟨s, up s fs, st, fs, fun x hx g => (all x (by omega) (beq_iff_eq.mpr g)).symm⟩
