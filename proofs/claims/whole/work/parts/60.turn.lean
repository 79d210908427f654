/-! ===== switched crossings and mirrors ===== -/
theorem updN_eq {f : Nat → Nat} {e v : Nat} : updN f e v e = v := by unfold updN; rw [if_pos rfl]
theorem updN_ne {f : Nat → Nat} {e v x : Nat} (h : x ≠ e) : updN f e v x = f x := by unfold updN; rw [if_neg h]
def xs (v e : Nat) : Nat := if e / 4 = v then 4 * v + (e + 1) % 4 else e
def xr (v e : Nat) : Nat := if e / 4 = v then 4 * v + (e + 3) % 4 else e
theorem exch_eq (f : Nat → Nat) (v e : Nat) : exch f v e = f (xs v e) := by
  unfold exch ex3 ex2 ex1 xs
  by_cases h : e / 4 = v
  · rw [if_pos h]
    rcases (show e = 4 * v ∨ e = 4 * v + 1 ∨ e = 4 * v + 2 ∨ e = 4 * v + 3 by omega) with rfl | rfl | rfl | rfl
    · rw [show (4 * v + 1) % 4 = 1 by omega, updN_ne (by omega), updN_ne (by omega), updN_ne (by omega), updN_eq]
    · rw [show (4 * v + 1 + 1) % 4 = 2 by omega, updN_ne (by omega), updN_ne (by omega), updN_eq, updN_ne (by omega)]
    · rw [show (4 * v + 2 + 1) % 4 = 3 by omega, updN_ne (by omega), updN_eq, updN_ne (by omega), updN_ne (by omega)]
    · rw [show (4 * v + 3 + 1) % 4 = 0 by omega, updN_eq]
      rfl
  · rw [if_neg h, updN_ne (by omega), updN_ne (by omega), updN_ne (by omega), updN_ne (by omega)]
theorem xs_xr (v e : Nat) : xs v (xr v e) = e := by
  unfold xs xr
  by_cases h : e / 4 = v
  · rw [if_pos h, if_pos (by omega)]; omega
  · rw [if_neg h, if_neg h]
theorem xr_xs (v e : Nat) : xr v (xs v e) = e := by
  unfold xs xr
  by_cases h : e / 4 = v
  · rw [if_pos h, if_pos (by omega)]; omega
  · rw [if_neg h, if_neg h]
theorem xs_div (v e : Nat) : xs v e / 4 = e / 4 := by
  unfold xs
  by_cases h : e / 4 = v
  · rw [if_pos h]; omega
  · rw [if_neg h]
theorem xr_div (v e : Nat) : xr v e / 4 = e / 4 := by
  unfold xr
  by_cases h : e / 4 = v
  · rw [if_pos h]; omega
  · rw [if_neg h]
theorem exch_VS {d : St} (hV : VS d) (v : Nat) : VS (d.1, d.2.1, exch d.2.2 v) := by
  obtain ⟨hc, ho, h0, h1, hO⟩ := hV
  have lt : ∀ e, xs v e < 4 * d.1 ↔ e < 4 * d.1 := fun e => by have := xs_div v e; omega
  have ltr : ∀ e, xr v e < 4 * d.1 ↔ e < 4 * d.1 := fun e => by have := xr_div v e; omega
  refine ⟨hc, ho, fun e he => ?_, fun e he => ?_, fun e he => ?_⟩
  · show exch d.2.2 v e = 0
    rw [exch_eq]; exact h0 _ (Nat.le_of_not_lt (fun z => absurd ((lt e).mp z) (Nat.not_lt.mpr he)))
  · show 1 ≤ exch d.2.2 v e ∧ exch d.2.2 v e ≤ 16
    rw [exch_eq]; exact h1 _ ((lt e).mpr he)
  · obtain ⟨t, t1, t2, t3, t4⟩ := hO (xs v e) ((lt e).mpr he)
    refine ⟨xr v t, (ltr t).mpr t1, fun z => t2 ?_, ?_, fun x hx g => ?_⟩
    · rw [← xs_xr v t, z]
    · show exch d.2.2 v (xr v t) = exch d.2.2 v e
      rw [exch_eq, exch_eq, xs_xr]; exact t3
    · have g' : d.2.2 (xs v x) = d.2.2 (xs v e) := by
        have : exch d.2.2 v x = exch d.2.2 v e := g
        rw [exch_eq, exch_eq] at this; exact this
      rcases t4 (xs v x) ((lt x).mpr hx) g' with r | r
      · left; rw [← xr_xs v x, r, xr_xs]
      · right; rw [← xr_xs v x, r]
theorem m_exchange {now : Nat → Int32} {d : St} (h : BlR now 0 d) {v : Nat} (hv : v < 8) : ∃ now', kX10_exchange (nI v) now = some now' ∧ BlR now' 0 (d.1, d.2.1, exch d.2.2 v) := by
  have a0 : (2 + 4 * nI v : Int32) = nI (2 + 4 * v) := by rw [fa_lit 4, pk_mul, fa_lit 2, nI_add]
  have a1 : (nI (2 + 4 * v) + 1 : Int32) = nI (2 + 4 * v + 1) := nI_1 _
  have a2 : (nI (2 + 4 * v) + 2 : Int32) = nI (2 + 4 * v + 2) := by rw [fa_lit 2, nI_add]
  have a3 : (nI (2 + 4 * v) + 3 : Int32) = nI (2 + 4 * v + 3) := by rw [fa_lit 3, nI_add]
  have c0 : ∀ (α : Type) (k : Option α), ck (nI (2 + 4 * v)) 34 k = k := fun α k => ck_nI (by omega) (by omega)
  have c1 : ∀ (α : Type) (k : Option α), ck (nI (2 + 4 * v + 1)) 34 k = k := fun α k => ck_nI (by omega) (by omega)
  have c2 : ∀ (α : Type) (k : Option α), ck (nI (2 + 4 * v + 2)) 34 k = k := fun α k => ck_nI (by omega) (by omega)
  have c3 : ∀ (α : Type) (k : Option α), ck (nI (2 + 4 * v + 3)) 34 k = k := fun α k => ck_nI (by omega) (by omega)
  have k0 : (nI (2 + 4 * v)).toNatClampNeg = 2 + 4 * v := nI_clamp (by omega)
  have k1 : (nI (2 + 4 * v + 1)).toNatClampNeg = 2 + 4 * v + 1 := nI_clamp (by omega)
  have k2 : (nI (2 + 4 * v + 2)).toNatClampNeg = 2 + 4 * v + 2 := nI_clamp (by omega)
  have k3 : (nI (2 + 4 * v + 3)).toNatClampNeg = 2 + 4 * v + 3 := nI_clamp (by omega)
  obtain ⟨h0, h1, h2⟩ := h
  unfold kX10_exchange
  simp only [a0, a1, a2, a3, c0, c1, c2, c3, k0, k1, k2, k3]
  refine ⟨_, rfl, ?_, ?_, fun e he => ?_⟩
  · rw [pk_un (by omega), pk_un (by omega), pk_un (by omega), pk_un (by omega)]; exact h0
  · rw [pk_un (by omega), pk_un (by omega), pk_un (by omega), pk_un (by omega)]; exact h1
  · have hx : ∀ x, x < 32 → now (2 + x) = nI (d.2.2 x) := fun x hx => by have := h2 x hx; rw [Nat.zero_add] at this; exact this
    show _ = nI (exch d.2.2 v e)
    rw [exch_eq, Nat.zero_add]
    unfold xs
    by_cases q : e / 4 = v
    · rw [if_pos q]
      rcases (show e = 4 * v ∨ e = 4 * v + 1 ∨ e = 4 * v + 2 ∨ e = 4 * v + 3 by omega) with rfl | rfl | rfl | rfl
      · rw [show (4 * v + 1) % 4 = 1 by omega, pk_un (by omega), pk_un (by omega), pk_un (by omega), pk_us, Nat.add_assoc]; exact hx _ (by omega)
      · rw [show (4 * v + 1 + 1) % 4 = 2 by omega, pk_un (by omega), pk_un (by omega), ← Nat.add_assoc, pk_us, pk_un (by omega), Nat.add_assoc]; exact hx _ (by omega)
      · rw [show (4 * v + 2 + 1) % 4 = 3 by omega, pk_un (by omega), ← Nat.add_assoc, pk_us, pk_un (by omega), pk_un (by omega), Nat.add_assoc]; exact hx _ (by omega)
      · rw [show (4 * v + 3 + 1) % 4 = 0 by omega, ← Nat.add_assoc, pk_us]; exact hx _ (by omega)
    · rw [if_neg q, pk_un (by omega), pk_un (by omega), pk_un (by omega), pk_un (by omega)]; exact hx _ he
theorem SR.switchCrossing {ss np dc dr : Int32} {da cells filled : Nat → Int32} {pr : Int32} {coef : Nat → Int32} {saved : Int32} {now hist kept isk : Nat → Int32} (h : SR ss np dc dr da cells filled pr coef saved now hist kept isk) (v pc po : Int32) (pa entry passed : Nat → Int32) : ∃ r ss' np' dc' dr' da' pc' po' pa' cells' filled' pr' saved' now' hist' entry' passed', kX9_switchCrossing v ss np dc dr da pc po pa cells filled pr = some (r, ss', np', dc', dr', da', pc', po', pa', cells', filled', pr') ∧ kX10_switchCrossing v saved now hist entry passed = some (r, saved', now', hist', entry', passed') ∧ SR ss' np' dc' dr' da' cells' filled' pr' coef saved' now' hist' kept isk := by
  have h' := h
  obtain ⟨d, s, n, H, hV, rfl, rfl, hA, hM, a6, rfl, rfl, rfl, a10, a11⟩ := h'
  have hc := hV.1
  have M := BlR.mr.mp hM
  have n1 : ¬ ((1 : Int32) = 0) := by decide
  unfold kX9_switchCrossing kX10_switchCrossing
  rcases ix v (n := d.1) (by omega) with hv | hv | ⟨j, hj, rfl⟩
  · rw [q_hasNeg hv, bnd1_e, if_pos rfl, m_isNeg M hv, bnd1_e, if_pos rfl]
    exact ⟨_, _, _, _, _, _, _, _, _, _, _, _, _, _, _, _, _, rfl, rfl, h⟩
  · rw [q_hasBig hv, bnd1_e, if_pos rfl, m_isBig M hc hv, bnd1_e, if_pos rfl]
    exact ⟨_, _, _, _, _, _, _, _, _, _, _, _, _, _, _, _, _, rfl, rfl, h⟩
  · rw [q_hasIn hj (by omega), m_isIn M hc hj, bnd1_e, bnd1_e, if_neg n1, if_neg n1, q_copyFrom, bnd3_e]
    obtain ⟨pa2, g1, g2⟩ := q_exchange (a := fa_fill da pa 32) hA.copy (show j < 8 by omega)
    have hV' := exch_VS hV j
    obtain ⟨ss', np', da', cells', filled', saved', hist', e1, e2, e3, e4⟩ := h.become hV' g2
    obtain ⟨now', g3, g4⟩ := m_exchange hM (show j < 8 by omega)
    obtain ⟨m, g5, g6⟩ := q_entered e3 hV'
    obtain ⟨entry', passed', g7, g8⟩ := m_orient (entry := entry) (passed := passed) e3 (BlR.mr.mp g4) hV'
    have g9 := m_sign hc g6 hV'.le16 g8 hj
    rw [g1, bnd1_e, e1, bnd8_e, g5, bnd1_e, q_sign (by omega), bnd1_e, e2, bnd2_e, g3, bnd1_e, g7, bnd2_e, g9, bnd1_e]
    exact ⟨_, _, _, _, _, _, _, _, _, _, _, _, _, _, _, _, _, rfl, rfl, e4 now' g4⟩
def mirF (f : Nat → Nat) : Nat → Nat → Nat
  | 0 => f
  | i + 1 => exch (mirF f i) i
theorem mir_VS {d : St} (hV : VS d) : ∀ i, VS (d.1, d.2.1, mirF d.2.2 i)
  | 0 => hV
  | i + 1 => exch_VS (mir_VS hV i) i
theorem SR.mirror {ss np dc dr : Int32} {da cells filled : Nat → Int32} {pr : Int32} {coef : Nat → Int32} {saved : Int32} {now hist kept isk : Nat → Int32} (h : SR ss np dc dr da cells filled pr coef saved now hist kept isk) (pc po : Int32) (pa entry passed : Nat → Int32) : ∃ r ss' np' dc' dr' da' pc' po' pa' cells' filled' pr' saved' now' hist' entry' passed', kX9_mirror ss np dc dr da pc po pa cells filled pr = some (r, ss', np', dc', dr', da', pc', po', pa', cells', filled', pr') ∧ kX10_mirror saved now hist entry passed = some (r, saved', now', hist', entry', passed') ∧ SR ss' np' dc' dr' da' cells' filled' pr' coef saved' now' hist' kept isk := by
  have h' := h
  obtain ⟨d, s, n, H, hV, rfl, rfl, hA, hM, a6, rfl, rfl, rfl, a10, a11⟩ := h'
  have hc := hV.1
  have M := BlR.mr.mp hM
  unfold kX9_mirror kX10_mirror
  rw [m_crossings M, bnd1_e]
  by_cases q : nI d.1 = (0 : Int32)
  · rw [if_pos q, if_pos q]
    exact ⟨_, _, _, _, _, _, _, _, _, _, _, _, _, _, _, _, _, rfl, rfl, h⟩
  · rw [if_neg q, if_neg q, q_copyFrom, bnd3_e]
    have L : ∃ pa2, Rp pa2 (mirF d.2.2 d.1) ∧ it2 (kX9_mirror_L1 (nI d.1) (nI s) (nI n) (nI d.1) (nI d.2.1) da (nI d.2.1) cells filled pr) 400 0 (fa_fill da pa 32) = kX9_mirror_L1 (nI d.1) (nI s) (nI n) (nI d.1) (nI d.2.1) da (nI d.2.1) cells filled pr (fun _ _ => none) (nI d.1) pa2 := by
      refine it2_inv (F := kX9_mirror_L1 (nI d.1) (nI s) (nI n) (nI d.1) (nI d.2.1) da (nI d.2.1) cells filled pr) (x1 := 0) (x2 := fa_fill da pa 32) (n := 400) (fun i x y => x = nI i ∧ Rp y (mirF d.2.2 i)) (fun r => ∃ pa2, Rp pa2 (mirF d.2.2 d.1) ∧ r = kX9_mirror_L1 (nI d.1) (nI s) (nI n) (nI d.1) (nI d.2.1) da (nI d.2.1) cells filled pr (fun _ _ => none) (nI d.1) pa2) d.1 (fun K i x y hi hI => ?_) (fun K x y hI => ?_) ⟨rfl, hA.copy⟩ (by omega)
      · obtain ⟨rfl, hy⟩ := hI
        obtain ⟨y2, g1, g2⟩ := q_exchange hy (show i < 8 by omega)
        refine ⟨nI (i + 1), y2, ?_, rfl, g2⟩
        unfold kX9_mirror_L1
        rw [if_neg (nI_ge hi (by omega)), g1, bnd1_e, nI_1]
      · obtain ⟨rfl, hy⟩ := hI
        refine ⟨y, hy, ?_⟩
        unfold kX9_mirror_L1
        rw [if_pos (Int32.le_refl _), if_pos (Int32.le_refl _)]
    obtain ⟨pa2, p1, p2⟩ := L
    have hV' := mir_VS hV d.1
    obtain ⟨ss', np', da', cells', filled', saved', hist', e1, e2, e3, e4⟩ := h.become hV' p1
    have R : ∃ now2, BlR now2 0 (d.1, d.2.1, mirF d.2.2 d.1) ∧ it2 (kX10_mirror_L1 entry passed saved' hist') 400 0 now = kX10_mirror_L1 entry passed saved' hist' (fun _ _ => none) (nI d.1) now2 := by
      refine it2_inv (F := kX10_mirror_L1 entry passed saved' hist') (x1 := 0) (x2 := now) (n := 400) (fun i x y => x = nI i ∧ BlR y 0 (d.1, d.2.1, mirF d.2.2 i)) (fun r => ∃ now2, BlR now2 0 (d.1, d.2.1, mirF d.2.2 d.1) ∧ r = kX10_mirror_L1 entry passed saved' hist' (fun _ _ => none) (nI d.1) now2) d.1 (fun K i x y hi hI => ?_) (fun K x y hI => ?_) ⟨rfl, hM⟩ (by omega)
      · obtain ⟨rfl, hy⟩ := hI
        obtain ⟨y2, g1, g2⟩ := m_exchange hy (show i < 8 by omega)
        refine ⟨nI (i + 1), y2, ?_, rfl, g2⟩
        unfold kX10_mirror_L1
        rw [m_crossings (BlR.mr.mp hy), bnd1_e, if_neg (nI_ge hi (by omega)), g1, bnd1_e, nI_1]
      · obtain ⟨rfl, hy⟩ := hI
        refine ⟨y, hy, ?_⟩
        unfold kX10_mirror_L1
        rw [m_crossings (BlR.mr.mp hy), bnd1_e, bnd1_e, if_pos (Int32.le_refl _), if_pos (Int32.le_refl _)]
    obtain ⟨now2, r1, r2⟩ := R
    obtain ⟨m, g5, g6⟩ := q_entered e3 hV'
    have g7 := q_signSum hV' g5
    obtain ⟨entry', passed', g8⟩ := m_writheNow (entry := entry) (passed := passed) e3 (BlR.mr.mp r1) hV' g6
    rw [p2, e2, bnd2_e, r2]
    unfold kX9_mirror_L1 kX10_mirror_L1
    rw [if_pos (Int32.le_refl _), e1, bnd8_e, g7, bnd1_e, m_crossings (BlR.mr.mp r1), bnd1_e, if_pos (Int32.le_refl _), g8, bnd3_e]
    exact ⟨_, _, _, _, _, _, _, _, _, _, _, _, _, _, _, _, _, rfl, rfl, e4 now2 r1⟩
theorem t_crossingSign {d : St} {da now : Nat → Int32} (hV : VS d) (hA : Rp da d.2.2) (hM : BlR now 0 d) (v : Int32) (entry passed : Nat → Int32) : ∃ r entry' passed', kX9_crossingSign v (nI d.1) da = some r ∧ kX10_crossingSign v now entry passed = some (r, entry', passed') := by
  have hc := hV.1
  have M := BlR.mr.mp hM
  have n1 : ¬ ((1 : Int32) = 0) := by decide
  unfold kX9_crossingSign kX10_crossingSign
  rcases ix v (n := d.1) (by omega) with hv | hv | ⟨j, hj, rfl⟩
  · rw [q_hasNeg hv, bnd1_e, if_pos rfl, m_isNeg M hv, bnd1_e, if_pos rfl]
    exact ⟨_, _, _, rfl, rfl⟩
  · rw [q_hasBig hv, bnd1_e, if_pos rfl, m_isBig M hc hv, bnd1_e, if_pos rfl]
    exact ⟨_, _, _, rfl, rfl⟩
  · rw [q_hasIn hj (by omega), m_isIn M hc hj, bnd1_e, bnd1_e, if_neg n1, if_neg n1]
    obtain ⟨m, g5, g6⟩ := q_entered hA hV
    obtain ⟨entry', passed', g7, g8⟩ := m_orient (entry := entry) (passed := passed) hA M hV
    have g9 := m_sign hc g6 hV.le16 g8 hj
    rw [g5, bnd1_e, q_sign (by omega), bnd1_e, g7, bnd2_e, g9, bnd1_e]
    exact ⟨_, _, _, rfl, rfl⟩
theorem t_writhe {d : St} {da now : Nat → Int32} (hV : VS d) (hA : Rp da d.2.2) (hM : BlR now 0 d) (entry passed : Nat → Int32) : ∃ r entry' passed', kX9_writhe (nI d.1) da = some r ∧ kX10_writhe now entry passed = some (r, entry', passed') := by
  have M := BlR.mr.mp hM
  obtain ⟨m, g5, g6⟩ := q_entered hA hV
  obtain ⟨entry', passed', g8⟩ := m_writheNow (entry := entry) (passed := passed) hA M hV g6
  unfold kX9_writhe kX10_writhe
  rw [q_signSum hV g5, bnd1_e, g8, bnd3_e]
  exact ⟨_, _, _, rfl, rfl⟩
