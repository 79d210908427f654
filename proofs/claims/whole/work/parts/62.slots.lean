/-! ===== undo, save, restore ===== -/
theorem SR.undo {ss np dc dr : Int32} {da cells filled : Nat → Int32} {pr : Int32} {coef : Nat → Int32} {saved : Int32} {now hist kept isk : Nat → Int32} (h : SR ss np dc dr da cells filled pr coef saved now hist kept isk) : ∃ r ss' np' dc' dr' da' pr' saved' now', kX9_undo ss np dc dr da cells filled pr = some (r, ss', np', dc', dr', da', pr') ∧ kX10_undo saved now hist = some (r, saved', now') ∧ SR ss' np' dc' dr' da' cells filled pr' coef saved' now' hist kept isk := by
  have h' := h
  obtain ⟨d, s, n, H, hV, rfl, rfl, hA, hM, a6, rfl, rfl, rfl, a10, a11⟩ := h'
  obtain ⟨b1, b2, b3⟩ := a10
  unfold kX9_undo kX10_undo
  by_cases q : s = 0
  · subst q
    rw [if_pos (by rfl), if_pos (by rfl)]
    exact ⟨_, _, _, _, _, _, _, _, _, rfl, rfl, h⟩
  · have q0 : ¬ nI s = 0 := nI_ne0 (by omega) (by omega)
    rw [if_neg q0, if_neg q0]
    obtain ⟨g1, g2, g3, g4⟩ := b3 (s - 1) (by omega)
    have e0 : (n + 8 - (s - 1 - (s - 1))) % 8 = n := by omega
    rw [e0] at g2 g3
    obtain ⟨a', f1, f2⟩ := q_fetch (a := da) (k := n) (by omega) g3 g2 g1.le16 (fun e he => g1.2.2.1 e (by have := g1.1; omega)) (nI d.1) (nI d.2.1)
    have e1 : (nI s - 1 : Int32) = nI (s - 1) := by rw [show s = s - 1 + 1 by omega, nI_pred, Nat.add_sub_cancel]
    have e2 : (34 * nI (s - 1) : Int32) = nI (34 * (s - 1)) := by rw [fa_lit 34, pk_mul]
    have e3 : (irem (nI n + 8 - 1) 8 : Int32) = nI ((n + 7) % 8) := by
      rw [show (nI n + 8 - 1 : Int32) = nI (n + 7) by rw [fa_lit 8, nI_add, show n + 8 = n + 7 + 1 by omega, nI_pred], fa_lit 8, irem_nI (by omega) (by omega) (by omega)]
    obtain ⟨now', f3, f4⟩ := m_become (n := 272) (now := now) (k := 34 * (s - 1)) (by omega) (by omega) g4
    unfold kX0_forget
    rw [f1, bnd3_e, bnd1_e, e1, e2, e3, f3, bnd1_e]
    refine ⟨_, _, _, _, _, _, _, _, now', rfl, rfl, H (s - 1), s - 1, (n + 7) % 8, H, g1, rfl, rfl, f2, f4, Or.inl rfl, rfl, rfl, rfl, ⟨by omega, by omega, fun j hj => ?_⟩, a11⟩
    have := b3 j (by omega)
    rw [show ((n + 7) % 8 + 8 - (s - 1 - 1 - j)) % 8 = (n + 8 - (s - 1 - j)) % 8 by omega]
    exact this
theorem q_slotNo {v : Int32} (h : v < 0 ∨ nI 2 ≤ v) : kX9_isSlot v = some 0 := by
  unfold kX9_isSlot kX9_isSlot_J1
  by_cases q : v < 0
  · rw [if_pos q]
  · rw [if_neg q, if_pos (show (2 : Int32) ≤ v from h.resolve_left q)]
theorem q_slot {k : Nat} (h : k < 2) : kX9_isSlot (nI k) = some 1 := by
  unfold kX9_isSlot
  rw [if_neg (nI_pos (by omega)), if_neg (by rw [fa_lit 2]; exact nI_ge (by omega) (by omega))]
theorem m_slotNo {v : Int32} (h : v < 0 ∨ nI 2 ≤ v) : kX10_isSlot v = some 0 := by
  unfold kX10_isSlot
  rcases h with h | h
  · rw [m_inLo h, bnd1_e, zr_0]
  · have h1 : (1 : Int32) < v := Int32.lt_of_lt_of_le (show (1 : Int32) < nI 2 by decide) h
    rw [m_inHi h1, bnd1_e, zr_0]
theorem m_slot {k : Nat} (h : k < 2) : kX10_isSlot (nI k) = some 1 := by
  have k0 : (0 : Int32) ≤ nI k := by rw [fa_lit 0]; exact nI_le (Nat.zero_le _) (by omega)
  have k1 : nI k ≤ (1 : Int32) := by rw [fa_lit 1]; exact nI_le (by omega) (by omega)
  unfold kX10_isSlot
  rw [m_in k0 k1, bnd1_e, zr_1]
theorem m_saveLoop {now kept isk : Nat → Int32} {d : St} (h : BlR now 0 d) {v : Nat} (hv : v < 2) : ∃ kept', it2 (kX10_save_L1 (nI v) now isk) 400 0 kept = some (nI d.1, kept', upd isk v 1) ∧ BlR kept' (34 * v) d ∧ ∀ j, (j < 34 * v ∨ 34 * v + 34 ≤ j) → kept' j = kept j := by
  refine it2_inv (F := kX10_save_L1 (nI v) now isk) (x1 := 0) (x2 := kept) (n := 400) (fun i x y => x = nI i ∧ (∀ j, j < i → y (34 * v + j) = now j) ∧ ∀ j, (j < 34 * v ∨ 34 * v + 34 ≤ j) → y j = kept j) (fun r => ∃ kept', r = some (nI d.1, kept', upd isk v 1) ∧ BlR kept' (34 * v) d ∧ ∀ j, (j < 34 * v ∨ 34 * v + 34 ≤ j) → kept' j = kept j) 34 (fun K i x y hi hI => ?_) (fun K x y hI => ?_) ⟨rfl, fun j hj => absurd hj (Nat.not_lt_zero _), fun j _ => rfl⟩ (by omega)
  · obtain ⟨rfl, h1, h2⟩ := hI
    have e : (34 * nI v + nI i : Int32) = nI (34 * v + i) := by rw [fa_lit 34, pk_mul, nI_add]
    unfold kX10_save_L1
    rw [if_neg (by rw [fa_lit 34]; exact nI_ge (by omega) (by omega)), e, ck_nI (by omega) (by omega), ck_nI (by omega) (by omega), nI_clamp (by omega), nI_clamp (by omega), nI_1]
    refine ⟨_, _, rfl, rfl, fun j hj => ?_, fun j hj => ?_⟩
    · by_cases w : j = i
      · subst w; rw [pk_us]
      · rw [pk_un (by omega)]; exact h1 j (by omega)
    · rw [pk_un (by omega)]; exact h2 j hj
  · obtain ⟨rfl, h1, h2⟩ := hI
    refine ⟨y, ?_, h.congr (fun j hj => by rw [Nat.zero_add]; exact h1 j hj), h2⟩
    unfold kX10_save_L1
    rw [if_pos (by decide), ck_nI (by omega) (by omega), m_crossings (BlR.mr.mp h), bnd1_e, nI_clamp (by omega)]
    rfl
theorem SR.save {ss np dc dr : Int32} {da cells filled : Nat → Int32} {pr : Int32} {coef : Nat → Int32} {saved : Int32} {now hist kept isk : Nat → Int32} (h : SR ss np dc dr da cells filled pr coef saved now hist kept isk) (v : Int32) : ∃ r cells' filled' kept' isk', kX9_save v dc dr da cells filled = some (r, cells', filled') ∧ kX10_save v now kept isk = some (r, kept', isk') ∧ SR ss np dc dr da cells' filled' pr coef saved now hist kept' isk' := by
  have h' := h
  obtain ⟨d, s, n, H, hV, rfl, rfl, hA, hM, a6, rfl, rfl, rfl, a10, a11⟩ := h'
  have n1 : ¬ ((1 : Int32) = 0) := by decide
  have no : (v < 0 ∨ nI 2 ≤ v) → ∃ r cells' filled' kept' isk', kX9_save v (nI d.1) (nI d.2.1) da cells filled = some (r, cells', filled') ∧ kX10_save v now kept isk = some (r, kept', isk') ∧ SR (nI s) (nI n) (nI d.1) (nI d.2.1) da cells' filled' pr coef (nI s) now hist kept' isk' := fun hv => by
    unfold kX9_save kX10_save
    rw [q_slotNo hv, bnd1_e, if_pos rfl, m_slotNo hv, bnd1_e, if_pos rfl]
    exact ⟨_, _, _, _, _, rfl, rfl, h⟩
  rcases ix v (n := 2) (by omega) with hv | hv | ⟨k, hk, rfl⟩
  · exact no (Or.inl hv)
  · exact no (Or.inr hv)
  · obtain ⟨cells', g1, g2, g3⟩ := q_keep (cells := cells) (filled := filled) hA (show 8 + k < 10 by omega)
    obtain ⟨kept', g4, g5, g6⟩ := m_saveLoop (kept := kept) (isk := isk) hM hk
    have e : (8 + nI k : Int32) = nI (8 + k) := by rw [fa_lit 8, nI_add]
    unfold kX9_save kX10_save
    rw [q_slot hk, bnd1_e, if_neg n1, m_slot hk, bnd1_e, if_neg n1, e, g1, bnd2_e, g4]
    refine ⟨_, _, _, _, _, rfl, rfl, d, s, n, H, hV, rfl, rfl, hA, hM, a6, rfl, rfl, rfl, ⟨a10.1, a10.2.1, fun j hj => ?_⟩, fun m hm => ?_⟩
    · obtain ⟨b1, b2, b3, b4⟩ := a10.2.2 j hj
      refine ⟨b1, b2.congr (fun i hi => g3 _ (by omega)), ?_, b4⟩
      rw [pk_un (by omega)]; exact b3
    · by_cases w : m = k
      · subst w
        exact Or.inr ⟨pk_us .., pk_us .., d, hV, g2, g5⟩
      · rw [pk_un (by omega), pk_un w]
        rcases a11 m hm with r | ⟨r1, r2, d', r3, r4, r5⟩
        · exact Or.inl r
        · exact Or.inr ⟨r1, r2, d', r3, r4.congr (fun i hi => g3 _ (by omega)), r5.congr (fun i hi => g6 _ (by omega))⟩
theorem SR.restore {ss np dc dr : Int32} {da cells filled : Nat → Int32} {pr : Int32} {coef : Nat → Int32} {saved : Int32} {now hist kept isk : Nat → Int32} (h : SR ss np dc dr da cells filled pr coef saved now hist kept isk) (v : Int32) : ∃ r ss' dc' dr' da' pr' saved' now', kX9_restore v ss dc dr da cells filled pr = some (r, ss', dc', dr', da', pr') ∧ kX10_restore v saved now kept isk = some (r, saved', now') ∧ SR ss' np dc' dr' da' cells filled pr' coef saved' now' hist kept isk := by
  have h' := h
  obtain ⟨d, s, n, H, hV, rfl, rfl, hA, hM, a6, rfl, rfl, rfl, a10, a11⟩ := h'
  have n1 : ¬ ((1 : Int32) = 0) := by decide
  have no : (v < 0 ∨ nI 2 ≤ v) → ∃ r ss' dc' dr' da' pr' saved' now', kX9_restore v (nI s) (nI d.1) (nI d.2.1) da cells filled pr = some (r, ss', dc', dr', da', pr') ∧ kX10_restore v (nI s) now kept isk = some (r, saved', now') ∧ SR ss' (nI n) dc' dr' da' cells filled pr' coef saved' now' hist kept isk := fun hv => by
    unfold kX9_restore kX10_restore
    rw [q_slotNo hv, bnd1_e, if_pos rfl, m_slotNo hv, bnd1_e, if_pos rfl]
    exact ⟨_, _, _, _, _, _, _, _, rfl, rfl, h⟩
  rcases ix v (n := 2) (by omega) with hv | hv | ⟨k, hk, rfl⟩
  · exact no (Or.inl hv)
  · exact no (Or.inr hv)
  · have e : (8 + nI k : Int32) = nI (8 + k) := by rw [fa_lit 8, nI_add]
    unfold kX9_restore kX10_restore
    rw [q_slot hk, bnd1_e, if_neg n1, m_slot hk, bnd1_e, if_neg n1, e, q_holds (by omega), bnd1_e, ck_nI hk (by omega), nI_clamp (by omega)]
    rcases a11 k hk with ⟨r1, r2⟩ | ⟨r1, r2, d', r3, r4, r5⟩
    · rw [r1, r2, if_pos rfl, if_pos rfl, if_pos rfl]
      exact ⟨_, _, _, _, _, _, _, _, rfl, rfl, h⟩
    · obtain ⟨a', f1, f2⟩ := q_fetch (a := da) (k := 8 + k) (by omega) r1 r4 r3.le16 (fun e he => r3.2.2.1 e (by have := r3.1; omega)) (nI d.1) (nI d.2.1)
      obtain ⟨now', f3, f4⟩ := m_become (n := 68) (now := now) (k := 34 * k) (by omega) (by omega) r5
      have e2 : (34 * nI k : Int32) = nI (34 * k) := by rw [fa_lit 34, pk_mul]
      unfold kX0_forget
      rw [r1, r2, if_neg n1, if_neg n1, if_neg n1, f1, bnd3_e, bnd1_e, e2, f3, bnd1_e, m_crossings (BlR.mr.mp f4), bnd1_e]
      exact ⟨_, _, _, _, _, _, _, _, rfl, rfl, d', 0, n, H, r3, rfl, rfl, f2, f4, Or.inl rfl, rfl, rfl, rfl, ⟨Nat.zero_le _, a10.2.1, fun j hj => absurd hj (Nat.not_lt_zero _)⟩, a11⟩
