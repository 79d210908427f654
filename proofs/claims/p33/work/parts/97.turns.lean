/-! ===== turns ===== -/
def TrnQ (d : St) (hs : List St) (kd : Nat → Option St) (r : Option (Int32 × Int32 × Int32 × Int32 × Int32 × (Nat → Int32) × Int32 × Int32 × (Nat → Int32) × (Nat → Int32) × (Nat → Int32) × Int32 × (Nat → Int32) × (Nat → Int32) × (Nat → Int32) × (Nat → Int32) × (Nat → Int32) × (Nat → Int32))) : Prop := ∃ ss' np' dc' dr' da' pc' po' pa' cells' filled' pr' oe' T' coef' prod' a' b', r = some (1, ss', np', dc', dr', da', pc', po', pa', cells', filled', pr', oe', T', coef', prod', a', b') ∧ CS ss' np' dc' dr' da' cells' filled' pr' coef' d hs kd
theorem odD_f (d : St) : odD d false = d.1 % 2 := by
  unfold odD odZ
  rw [if_neg (by decide)]
  omega
theorem rwD_f (d : St) (k : Nat) : rwD d false k = brD d (2 * k + d.1 % 2) := by
  unfold rwD
  rw [if_neg (by decide), odD_f]
theorem rw_sw {d : St} (hV : VS d) (j : Nat) {k : Nat} (hk : k < 48) : rwD (swD (swD d j) j) false k = rwD d false k := by
  have hV2 : VS (swD (swD d j) j) := sw_VS (sw_VS hV j) j
  rw [rwD_f, rwD_f, brD_bz hV2 (by show 2 * k + d.1 % 2 < 121; omega), brD_bz hV (by omega), sw2_bz hV]
  rfl
theorem rw_mi {d : St} (hV : VS d) {k : Nat} (hk : k < 47) (h13 : 13 ≤ k) : rwD d false k = rwD (miD d) false (60 - k - d.1 % 2) := by
  have e : (miD d).1 = d.1 := rfl
  rw [rwD_f, rwD_f, e, brD_bz hV (by omega), brD_bz (mi_VS hV) (by omega), mi_bz hV]
  congr 2
  omega
theorem back_t : ∀ v : Nat, v < 48 → ∀ o : Nat, o < 2 → (60 - nI v - nI o : Int32) = nI (60 - v - o) := by decide +kernel
theorem T_L4 {ss np dc dr : Int32} {da cells filled : Nat → Int32} {pr : Int32} {coef : Nat → Int32} {d : St} {hs : List St} {kd : Nat → Option St} (hV : VS d) (h : CS ss np dc dr da cells filled pr coef (miD d) (d :: hs) kd) (pc po : Int32) (pa oe T prod a b : Nat → Int32) (ha : ∀ k, 12 ≤ k → k < 48 → a k = rwD d false k) (ha60 : a 60 = nI (odD d false)) (hb : ∀ k, 12 ≤ k → k < 48 → b k = rwD (miD d) false k) : TrnQ d hs kd (it1 (kL_turns_L4 ss np dc dr da cells filled pr pc po pa oe T coef prod a b (hsD d) 64 64) 400 13) := by
  refine it1_inv (F := kL_turns_L4 ss np dc dr da cells filled pr pc po pa oe T coef prod a b (hsD d) 64 64) (x1 := 13) (n := 400) (fun i x => x = nI (13 + i)) (TrnQ d hs kd) 34 (fun K i x hi hI => ?_) (fun K x hI => ?_) rfl (by omega)
  · subst hI
    have k60 : (60 : Int32).toNatClampNeg = 60 := by decide
    have c60 : ∀ (α : Type) (k : Option α), ck 60 64 k = k := fun α k => by rw [fa_lit 60]; exact ck_nI (by omega) (by omega)
    refine ⟨_, ?_, rfl⟩
    unfold kL_turns_L4
    rw [if_neg (by rw [fa_lit 47]; exact nI_ge (by omega) (by omega)), ck_nI (by omega) (by omega), c60, k60, ha60, odD_f, back_t _ (by omega) _ (by omega), ck_nI (by omega) (by omega), nI_clamp (by omega), nI_clamp (by omega), ha _ (by omega) (by omega), hb _ (by omega) (by omega), if_pos (rw_mi hV (by omega) (by omega)), nI_1]
    rfl
  · subst hI
    unfold kL_turns_L4
    obtain ⟨ss', np', dc', dr', da', pr', e1, e2⟩ := h.undo
    have e3 := e2 coef
    obtain ⟨_, rfl, rfl, hA', _⟩ := e2 coef
    rw [if_pos (by decide), e1, bnd7_e, if_neg (nI_pos (by have := h.2.2.2.2.2.2.1; have : hs.length + 1 ≤ 8 := this; omega)), L_hash hV hA', bnd1_e, lg_self, if_pos rfl]
    exact ⟨_, _, _, _, _, _, _, _, _, _, _, _, _, _, _, _, _, rfl, e3⟩
theorem T_J3 {ss np dc dr : Int32} {da cells filled : Nat → Int32} {pr : Int32} {coef : Nat → Int32} {d : St} {hs : List St} {kd : Nat → Option St} (hV : VS d) (h : CS ss np dc dr da cells filled pr coef (miD d) (d :: hs) kd) (pc po : Int32) (pa oe T prod a b : Nat → Int32) (ha : ∀ k, 12 ≤ k → k < 48 → a k = rwD d false k) (ha60 : a 60 = nI (odD d false)) : TrnQ d hs kd (kL_turns_J3 64 dc dr da pr oe T coef prod b ss np cells filled pc po pa a (hsD d) 64) := by
  have h' := h
  obtain ⟨hV', rfl, rfl, hA', hc', _⟩ := h'
  obtain ⟨pr', oe', T', cf', pd', b', e1, e2, e3, e4⟩ := L_bracket hV' hA' hc' 0 false (Or.inl ⟨rfl, rfl⟩) oe T prod b
  unfold kL_turns_J3
  rw [e1, bnd6_e]
  exact T_L4 hV (h.coef e2) pc po pa oe' T' pd' a b' ha ha60 e3
theorem T_J2 {ss np dc dr : Int32} {da cells filled : Nat → Int32} {pr : Int32} {coef : Nat → Int32} {d : St} {hs : List St} {kd : Nat → Option St} (hV : VS d) (h0 : 0 < d.1) (h : CS ss np dc dr da cells filled pr coef (miD d) (d :: hs) kd) (pc po : Int32) (pa oe T prod a b : Nat → Int32) (ha : ∀ k, 12 ≤ k → k < 48 → a k = rwD d false k) (ha60 : a 60 = nI (odD d false)) : TrnQ d hs kd (kL_turns_J2 (nI (cmD d)) dc da (wrD d) 64 dr b ss np cells filled pc po pa a (hsD d) 64 pr oe T coef prod) := by
  have h' := h
  obtain ⟨hV', rfl, rfl, hA', hc', _⟩ := h'
  have cl := (cm_low hV (by omega)).2.2
  unfold kL_turns_J2
  by_cases q : cmD d = 1
  · rw [if_pos (show nI (cmD d) = 1 by rw [q]; rfl), o_writhe hV' hA', bnd1_e, if_pos (mi_w hV q)]
    exact T_J3 hV h pc po pa oe T prod a b ha ha60
  · rw [if_neg (show ¬ nI (cmD d) = 1 from fun z => q ((nI_eq (b := 1) (by omega) (by omega)).mp z))]
    exact T_J3 hV h pc po pa oe T prod a b ha ha60
theorem o_alt2 {d : St} {da da' : Nat → Int32} (hV : VS d) (hA : Rp da d.2.2) (hA' : Rp da' (miD d).2.2) : ∃ r, kX9_isAlternating (nI d.1) da = some r ∧ kX9_isAlternating (nI (miD d).1) da' = some r := by
  have hV' := mi_VS hV
  rcases o_alternates hV hA with ⟨a, e⟩ | ⟨a, e⟩ <;> rcases o_alternates hV' hA' with ⟨a', e'⟩ | ⟨a', e'⟩
  · exact ⟨_, e, e'⟩
  · exact absurd ((mi_alt hV).mpr a) a'
  · exact absurd ((mi_alt hV).mp a') a
  · exact ⟨_, e, e'⟩
theorem T_L1 {ss np dc dr : Int32} {da cells filled : Nat → Int32} {pr : Int32} {coef : Nat → Int32} {d : St} {hs : List St} {kd : Nat → Option St} {j : Nat} (hV : VS d) (h0 : 0 < d.1) (hl : hs.length ≤ 6) (h : CS ss np dc dr da cells filled pr coef (swD (swD d j) j) (swD d j :: d :: hs) kd) (pc po : Int32) (pa oe T prod a b : Nat → Int32) (ha : ∀ k, 12 ≤ k → k < 48 → a k = rwD d false k) (ha60 : a 60 = nI (odD d false)) (hb : ∀ k, 12 ≤ k → k < 48 → b k = rwD (swD (swD d j) j) false k) : TrnQ d hs kd (it1 (kL_turns_L1 ss np dc dr da cells filled pr (hsD d) oe T coef prod pc po pa 64 b a 64) 400 12) := by
  refine it1_inv (F := kL_turns_L1 ss np dc dr da cells filled pr (hsD d) oe T coef prod pc po pa 64 b a 64) (x1 := 12) (n := 400) (fun i x => x = nI (12 + i)) (TrnQ d hs kd) 36 (fun K i x hi hI => ?_) (fun K x hI => ?_) rfl (by omega)
  · subst hI
    refine ⟨_, ?_, rfl⟩
    unfold kL_turns_L1
    rw [if_neg (by rw [fa_lit 48]; exact nI_ge (by omega) (by omega)), ck_nI (by omega) (by omega), ck_nI (by omega) (by omega), nI_clamp (by omega), ha _ (by omega) (by omega), hb _ (by omega) (by omega), if_pos (rw_sw hV j (by omega)).symm, nI_1]
    rfl
  · subst hI
    obtain ⟨ss1, np1, dc1, dr1, da1, pr1, e1, e2⟩ := h.undo
    obtain ⟨ss2, np2, dc2, dr2, da2, pr2, e3, e4⟩ := (e2 coef).undo
    have hs0 := h.2.2.2.2.2.1
    have d10 : (nI (d :: hs).length : Int32) = nI (swD d j :: d :: hs).length - 1 := (nI_pred (hs.length + 1)).symm
    have d11 : (nI hs.length : Int32) = nI (swD d j :: d :: hs).length - 2 := by
      show nI hs.length = nI (hs.length + 1 + 1) - 2
      rw [show (2 : Int32) = 1 + 1 from rfl, ← Int32.sub_sub, nI_pred, nI_pred]
    have c2 := e4 coef
    obtain ⟨_, rfl, rfl, hA2, _⟩ := e4 coef
    obtain ⟨_, pr3, oe3, T3, cf3, pd3, e5, e6⟩ := o_determinant hV hA2 (c2.2.2.2.2.1) oe T prod
    have c3 := c2.coef (pr' := pr3) (coef' := cf3) (Or.inr e6)
    obtain ⟨ss4, np4, dc4, dr4, da4, pc4, po4, pa4, cells4, filled4, pr4, e7, e8⟩ := c3.mirror (by omega) h0 pc po pa
    have c4 := e8 cf3
    obtain ⟨hV4, rfl, rfl, hA4, hc4, _⟩ := e8 cf3
    obtain ⟨al, al1, al2⟩ := o_alt2 hV hA2 hA4
    have ecm : (nI (cmD (miD d)) : Int32) = nI (cmD d) := by rw [mi_cm hV]
    have efc : (nI (fcD (miD d)) : Int32) = nI (fcD d) := by rw [mi_fc hV]
    have egn : (nI (gnD (miD d)) : Int32) = nI (gnD d) := by rw [mi_gn hV]
    have gb := (gnD_eq hV).2
    unfold kL_turns_L1 kX9_undoDepth
    rw [if_pos (by decide), bnd1_e, e1, bnd7_e, hs0, if_pos d10, e3, bnd7_e, if_pos d11, L_hash hV hA2, bnd1_e, lg_self, if_pos rfl, o_writhe hV hA2, bnd1_e, o_components hV hA2, bnd1_e, o_faces hV hA2, bnd1_e, o_genus hV hA2, bnd1_e, al1, bnd1_e, e5, bnd6_e, e7, bnd12_e, o_writhe hV4 hA4, bnd1_e, if_pos rfl, o_components hV4 hA4, bnd1_e, if_pos ecm, o_faces hV4 hA4, bnd1_e, if_pos efc, o_genus hV4 hA4, bnd1_e, if_pos egn, al2, bnd1_e, if_pos rfl]
    by_cases q : gnD d = 0
    · obtain ⟨_, pr5, oe5, T5, cf5, pd5, e9, e10⟩ := o_determinant hV4 hA4 hc4 oe3 T3 pd3
      rw [if_pos (show nI (gnD d) = 0 by rw [q]; rfl), e9, bnd6_e, if_pos (mi_dt hV q)]
      exact T_J2 hV h0 (c4.coef (Or.inr e10)) pc4 po4 pa4 oe5 T5 pd5 a b ha ha60
    · rw [if_neg (nI_ne0 (by omega) (by omega))]
      exact T_J2 hV h0 c4 pc4 po4 pa4 oe3 T3 pd3 a b ha ha60
theorem L_turns {ss np dc dr : Int32} {da cells filled : Nat → Int32} {pr : Int32} {coef : Nat → Int32} {d : St} {hs : List St} {kd : Nat → Option St} (h : CS ss np dc dr da cells filled pr coef d hs kd) (hl : hs.length ≤ 6) (v1 pc po : Int32) (pa oe T prod a b : Nat → Int32) : TrnQ d hs kd (kL_turns 64 64 v1 ss np dc dr da pc po pa cells filled pr oe T coef prod a b) := by
  have h' := h
  obtain ⟨hV, rfl, rfl, hA, hc, _⟩ := h'
  have h8 := hV.1
  unfold kL_turns kX9_crossingCount
  rw [L_hash hV hA, bnd1_e, bnd1_e]
  by_cases q : d.1 = 0
  · have e0 : (nI d.1 : Int32) = 0 := by rw [q]; rfl
    have m0 : kX9_mirror ss np (nI d.1) (nI d.2.1) da pc po pa cells filled pr = some (-1000002, ss, np, nI d.1, nI d.2.1, da, pc, po, pa, cells, filled, pr) := by
      rw [e0]; exact o_mirrorNo
    have s0 : kX9_switchCrossing 0 ss np (nI d.1) (nI d.2.1) da pc po pa cells filled pr = some (-1000001, ss, np, nI d.1, nI d.2.1, da, pc, po, pa, cells, filled, pr) := o_switchNo rfl (Or.inr (by rw [e0]; exact Int32.le_refl _))
    rw [if_pos e0, m0, bnd12_e, if_pos rfl, s0, bnd12_e, if_pos rfl, L_hash hV hA, bnd1_e, lg_self, if_pos rfl]
    exact ⟨_, _, _, _, _, _, _, _, _, _, _, _, _, _, _, _, _, rfl, h⟩
  · have h0 : 0 < d.1 := by omega
    obtain ⟨j, hj, ej⟩ := L_low v1 (m := d.1) h0 (by omega)
    obtain ⟨pr1, oe1, T1, cf1, pd1, a1, e1, e2, e3, e4⟩ := L_bracket hV hA hc 0 false (Or.inl ⟨rfl, rfl⟩) oe T prod a
    have c1 := h.coef e2
    obtain ⟨ss2, np2, dc2, dr2, da2, pc2, po2, pa2, cells2, filled2, pr2, e5, e6⟩ := c1.switch (by omega) hj pc po pa
    have c2 := e6 cf1
    obtain ⟨hV2, rfl, rfl, hA2, _⟩ := e6 cf1
    obtain ⟨ss3, np3, dc3, dr3, da3, pc3, po3, pa3, cells3, filled3, pr3, e7, e8⟩ := c2.switch (j := j) (by show hs.length + 1 ≤ 7; omega) hj pc2 po2 pa2
    have c3 := e8 cf1
    obtain ⟨hV3, rfl, rfl, hA3, hc3, _⟩ := e8 cf1
    obtain ⟨pr4, oe4, T4, cf4, pd4, b4, e9, e10, e11, _⟩ := L_bracket hV3 hA3 hc3 0 false (Or.inl ⟨rfl, rfl⟩) oe1 T1 pd1 b
    rw [if_neg (nI_ne0 h0 (by omega)), ej, bnd1_e, e1, bnd6_e, e5, bnd12_e, o_crossingSign hV2 hA2 hj, bnd1_e, if_pos rfl, e7, bnd12_e, o_crossingSign hV3 hA3 hj, bnd1_e, if_pos rfl, e9, bnd6_e]
    exact T_L1 hV h0 hl (c3.coef e10) pc3 po3 pa3 oe4 T4 pd4 a1 b4 e3 e4 e11
