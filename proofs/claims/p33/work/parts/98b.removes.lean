/-! ===== removes ===== -/
def RemR (d : St) (hs : List St) (kd : Nat → Option St) (r : Option (Int32 × Int32 × Int32 × Int32 × Int32 × (Nat → Int32) × Int32 × Int32 × (Nat → Int32) × (Nat → Int32) × (Nat → Int32) × Int32 × (Nat → Int32) × (Nat → Int32) × (Nat → Int32) × (Nat → Int32) × (Nat → Int32) × (Nat → Int32) × (Nat → Int32) × (Nat → Int32))) : Prop := ∃ ss' np' dc' dr' da' pc' po' pa' cells' filled' pr' oe' T' coef' prod' cl' ce' a' b', r = some (1, ss', np', dc', dr', da', pc', po', pa', cells', filled', pr', oe', T', coef', prod', cl', ce', a', b') ∧ CS ss' np' dc' dr' da' cells' filled' pr' coef' d hs kd
theorem R_J8 {ss np dc dr : Int32} {da cells filled : Nat → Int32} {pr : Int32} {coef : Nat → Int32} {d D : St} {hs : List St} {kd : Nat → Option St} (hV : VS d) (h : CS ss np dc dr da cells filled pr coef D (d :: hs) kd) (pc po : Int32) (pa oe T prod cl ce a b : Nat → Int32) (r6 t0 r11 t7 : Int32)
    (step : ∀ K k, 15 ≤ k → k < 45 → kL_removes_L9 ss np dc dr da cells filled pr pc po pa oe T coef prod cl ce a b (hsD d) r6 64 64 t0 r11 t7 K (nI k) = K (nI (k + 1))) : RemR d hs kd (kL_removes_J8 ss np dc dr da cells filled pr pc po pa oe T coef prod cl ce a b (hsD d) r6 64 64 t0 r11 t7) := by
  unfold kL_removes_J8
  refine it1_inv (F := kL_removes_L9 ss np dc dr da cells filled pr pc po pa oe T coef prod cl ce a b (hsD d) r6 64 64 t0 r11 t7) (x1 := 15) (n := 400) (fun i x => x = nI (15 + i)) (RemR d hs kd) 30 (fun K i x hi hI => ?_) (fun K x hI => ?_) rfl (by omega)
  · subst hI
    exact ⟨_, step K (15 + i) (by omega) (by omega), rfl⟩
  · subst hI
    unfold kL_removes_L9
    obtain ⟨ss', np', dc', dr', da', pr', e1, e2⟩ := h.undo
    have e3 := e2 coef
    obtain ⟨_, rfl, rfl, hA', _⟩ := e2 coef
    rw [if_pos (by decide), e1, bnd7_e, if_neg (nI_pos (by have := h.2.2.2.2.2.2.1; have : hs.length + 1 ≤ 8 := this; omega)), L_hash hV hA', bnd1_e, lg_self, if_pos rfl]
    exact ⟨_, _, _, _, _, _, _, _, _, _, _, _, _, _, _, _, _, _, _, rfl, e3⟩
theorem R_J7 {ss np dc dr : Int32} {da cells filled : Nat → Int32} {pr : Int32} {coef : Nat → Int32} {d D : St} {hs : List St} {kd : Nat → Option St} {t0 : Int32} {s : Int} (hR : RemZ d D t0 s) (h : CS ss np dc dr da cells filled pr coef D (d :: hs) kd) (pc po : Int32) (pa oe T prod cl ce a b : Nat → Int32) (hp : 0 < d.1 + d.2.1) {nrm : Bool} (hn : (nrm = true ∧ cmD d = 1) ∨ (nrm = false ∧ cmD d ≠ 1))
    (ha : ∀ k, 12 ≤ k → k < 48 → a k = rwD d nrm k) (ha60 : a 60 = nI (odD d nrm)) (hb : ∀ k, 12 ≤ k → k < 48 → b k = rwD D nrm k) (hb60 : b 60 = nI (odD D nrm)) (t7 : Int32) (ht : (loD d = -1000009 ∧ t7 = 0) ∨ (loD d ≠ -1000009 ∧ t7 = Int32.ofInt (3 * s))) : RemR d hs kd (kL_removes_J7 t0 ss np dc dr da cells filled pc po pa cl ce a b (hsD d) (nI (cmD d)) 64 64 (loD d) t7 pr oe T coef prod) := by
  have hV := hR.1
  have cl30 := (cm_low hV hp).2.2
  have j8 : RemR d hs kd (kL_removes_J8 ss np dc dr da cells filled pr pc po pa oe T coef prod cl ce a b (hsD d) (nI (cmD d)) 64 64 t0 (loD d) t7) := by
    refine R_J8 hV h pc po pa oe T prod cl ce a b _ _ _ _ (fun K k k1 k2 => ?_)
    have n45 : ¬ (45 : Int32) ≤ nI k := nI_ge (b := 45) k2 (by omega)
    have fin : ∀ t : Int32, rwD d nrm k = t → kL_removes_J11 (nI k) 64 a K ss np dc dr da pc po pa cells filled pr oe T coef prod cl ce b t = K (nI (k + 1)) := fun t e => by
      unfold kL_removes_J11
      rw [ck_nI (by omega) (by omega), nI_clamp (by omega), ha k (by omega) (by omega), if_pos e, nI_1]
    have fin2 : rwD d nrm k = rwD D nrm k → kL_removes_J12 (nI k) 64 64 a K ss np dc dr da pc po pa cells filled pr oe T coef prod cl ce b = K (nI (k + 1)) := fun e => by
      unfold kL_removes_J12
      rw [ck_nI (by omega) (by omega)]
      refine fin _ ?_
      rw [nI_clamp (by omega), hb k (by omega) (by omega)]
      exact e
    unfold kL_removes_L9
    rw [if_neg n45]
    rcases hn with ⟨rfl, one⟩ | ⟨rfl, one⟩
    · rw [if_pos (show nI (cmD d) = 1 by rw [one]; rfl)]
      exact fin2 (hR.one one k)
    · rw [if_neg (show ¬ nI (cmD d) = 1 from fun z => one ((nI_eq (b := 1) (by omega) (by omega)).mp z))]
      have hR' := hR
      obtain ⟨_, hV', _, _, _, ⟨rfl, s1, _, _, dD⟩ | ⟨rfl, s1, _, _, dD⟩⟩ := hR'
      · rw [if_neg n10]
        by_cases q : loD d = -1000009
        · rw [if_pos q]
          exact fin 0 (hR.zero q (by omega))
        · rw [if_neg q]
          have k60 : (60 : Int32).toNatClampNeg = 60 := by decide
          have c60 : ∀ (α : Type) (k : Option α), ck 60 64 k = k := fun α k => by rw [fa_lit 60]; exact ck_nI (by omega) (by omega)
          have o1 : d.1 % 2 < 2 := Nat.mod_lt _ (by omega)
          have o2 : D.1 % 2 = (d.1 % 2 + 1) % 2 := by omega
          have ix2 : (nI k + ((nI (odD d false) - t7 - nI (odD D false)) / 2) : Int32) = nI (shK d.1 k s) := by
            have tt := shK_t (d.1 % 2) o1 k (by omega) k1
            rw [odD_f, odD_f, o2, shK_2]
            rcases ht with ⟨z, _⟩ | ⟨_, e7⟩
            · exact absurd z q
            · rw [e7]
              rcases s1 with rfl | rfl
              · exact tt.1
              · exact tt.2
          obtain ⟨kk1, kk2, kk3⟩ := hR.kk k1 k2
          rw [c60, c60, k60, ha60, hb60, ix2, ck_nI (by omega) (by omega), nI_clamp (by omega), hb _ kk2 kk3]
          exact fin _ kk1
      · rw [if_pos rfl]
        exact fin2 (hR.two (by omega))
  have hR' := hR
  unfold kL_removes_J7
  obtain ⟨_, hV', _, _, _, ⟨rfl, s1, _, _, dD⟩ | ⟨rfl, s1, _, _, dD⟩⟩ := hR'
  · rw [if_neg n10]
    rcases ht with ⟨z, rfl⟩ | ⟨z, rfl⟩
    · rw [if_neg (by decide), if_neg (by decide), if_pos z]
      exact j8
    · rcases s1 with rfl | rfl
      · rw [if_pos (by decide)]; exact j8
      · rw [if_neg (by decide), if_pos (by decide)]; exact j8
  · have e7 : t7 = 0 := by
      rcases ht with ⟨z, e⟩ | ⟨z, e⟩
      · exact e
      · rw [e, s1]; rfl
    subst e7
    rw [if_pos rfl, if_pos rfl]
    exact j8
theorem R_J6 {ss np dc dr : Int32} {da cells filled : Nat → Int32} {pr : Int32} {coef : Nat → Int32} {d D : St} {hs : List St} {kd : Nat → Option St} {t0 : Int32} {s : Int} (hR : RemZ d D t0 s) (h : CS ss np dc dr da cells filled pr coef D (d :: hs) kd) (pc po : Int32) (pa oe T prod cl ce a b : Nat → Int32) (hp : 0 < d.1 + d.2.1) {nrm : Bool} {t2 : Int32} (hn : (nrm = true ∧ cmD d = 1) ∨ (nrm = false ∧ cmD d ≠ 1)) (hv : (t2 = 0 ∧ nrm = false) ∨ (t2 = 1 ∧ nrm = true))
    (ha : ∀ k, 12 ≤ k → k < 48 → a k = rwD d nrm k) (ha60 : a 60 = nI (odD d nrm)) : RemR d hs kd (kL_removes_J6 64 dc dr da pr oe T coef prod b (loD d) t0 ss np cells filled pc po pa cl ce a (hsD d) (nI (cmD d)) 64 t2) := by
  have h' := h
  obtain ⟨hV', rfl, rfl, hA', hc', _⟩ := h'
  obtain ⟨pr', oe', T', cf', pd', b', e1, e2, e3, e4⟩ := L_bracket hV' hA' hc' t2 nrm hv oe T prod b
  unfold kL_removes_J6
  rw [e1, bnd6_e]
  by_cases q : loD d = -1000009
  · rw [if_pos q]
    exact R_J7 hR (h.coef e2) pc po pa oe' T' pd' cl ce a b' hp hn ha ha60 e3 e4 0 (Or.inl ⟨q, rfl⟩)
  · obtain ⟨pr2, oe2, T2, cf2, pd2, e5, e6⟩ := o_lowest hV' hA' e2 oe' T' pd'
    rw [if_neg q, e5, bnd6_e]
    exact R_J7 hR (h.coef (Or.inr e6)) pc po pa oe2 T2 pd2 cl ce a b' hp hn ha ha60 e3 e4 _ (Or.inr ⟨q, hR.lo q⟩)
theorem R_J5 {ss np dc dr : Int32} {da cells filled : Nat → Int32} {pr : Int32} {coef : Nat → Int32} {d D : St} {hs : List St} {kd : Nat → Option St} {t0 : Int32} {s : Int} (hR : RemZ d D t0 s) (h : CS ss np dc dr da cells filled pr coef D (d :: hs) kd) (pc po : Int32) (pa oe T prod cl ce a b : Nat → Int32) (hp : 0 < d.1 + d.2.1) {nrm : Bool} (hn : (nrm = true ∧ cmD d = 1) ∨ (nrm = false ∧ cmD d ≠ 1))
    (ha : ∀ k, 12 ≤ k → k < 48 → a k = rwD d nrm k) (ha60 : a 60 = nI (odD d nrm)) {t2 : Int32} (ht2 : nI D.1 = nI d.1 - t2) : RemR d hs kd (kL_removes_J5 (nI D.1) (nI d.1) dc dr da (nI (cmD d)) pr oe T coef prod (dtD d) cl ce (nI (cdD d 3)) (nI (cdD d 7)) 64 b (loD d) t0 ss np cells filled pc po pa a (hsD d) 64 t2) := by
  have h' := h
  obtain ⟨hV', rfl, rfl, hA', hc', _⟩ := h'
  have hV := hR.1
  have cl30 := (cm_low hV hp).2.2
  have p3 : isP 3 := Or.inl rfl
  have p7 : isP 7 := Or.inr (Or.inr (Or.inl rfl))
  have ecm : (nI (cmD D) : Int32) = nI (cmD d) := by rw [hR.2.2.1]
  have ec3 : (nI (cdD D 3) : Int32) = nI (cdD d 3) := by rw [hR.2.2.2.1 3 p3]
  have ec7 : (nI (cdD D 7) : Int32) = nI (cdD d 7) := by rw [hR.2.2.2.1 7 p7]
  obtain ⟨_, pr1, oe1, T1, cf1, pd1, e1, e2⟩ := o_determinant hV' hA' hc' oe T prod
  obtain ⟨cl1, ce1, f1⟩ := o_colouring hV' hA' p3 cl ce
  have f1' : kX9_colouringDimension 3 (nI D.1) (nI D.2.1) da cl ce = some (nI (cdD D 3), cl1, ce1) := f1
  obtain ⟨cl2, ce2, f2⟩ := o_colouring hV' hA' p7 cl1 ce1
  have f2' : kX9_colouringDimension 7 (nI D.1) (nI D.2.1) da cl1 ce1 = some (nI (cdD D 7), cl2, ce2) := f2
  unfold kL_removes_J5 kX9_crossingCount
  rw [if_pos ht2, bnd1_e, if_pos rfl, o_components hV' hA', bnd1_e, if_pos ecm, e1, bnd6_e, if_pos hR.dt, f1', bnd3_e, if_pos ec3, f2', bnd3_e, if_pos ec7]
  rcases hn with ⟨rfl, one⟩ | ⟨rfl, one⟩
  · rw [if_pos (show nI (cmD d) = 1 by rw [one]; rfl)]
    exact R_J6 hR (h.coef (Or.inr e2)) pc po pa oe1 T1 pd1 cl2 ce2 a b hp (Or.inl ⟨rfl, one⟩) (Or.inr ⟨rfl, rfl⟩) ha ha60
  · rw [if_neg (show ¬ nI (cmD d) = 1 from fun z => one ((nI_eq (b := 1) (by omega) (by omega)).mp z))]
    exact R_J6 hR (h.coef (Or.inr e2)) pc po pa oe1 T1 pd1 cl2 ce2 a b hp (Or.inr ⟨rfl, one⟩) (Or.inl ⟨rfl, rfl⟩) ha ha60
theorem R_J4 {ss np dc dr : Int32} {da cells filled : Nat → Int32} {pr : Int32} {coef : Nat → Int32} {d D : St} {hs : List St} {kd : Nat → Option St} {t0 : Int32} {s : Int} (hR : RemZ d D t0 s) (h : CS ss np dc dr da cells filled pr coef D (d :: hs) kd) (pc po : Int32) (pa oe T prod cl ce a b : Nat → Int32) (hp : 0 < d.1 + d.2.1) {nrm : Bool} (hn : (nrm = true ∧ cmD d = 1) ∨ (nrm = false ∧ cmD d ≠ 1))
    (ha : ∀ k, 12 ≤ k → k < 48 → a k = rwD d nrm k) (ha60 : a 60 = nI (odD d nrm)) : RemR d hs kd (kL_removes_J4 (hsD d) oe T coef prod cl ce a b t0 (nI d.1) (nI (cmD d)) (dtD d) (nI (cdD d 3)) (nI (cdD d 7)) 64 (loD d) 64 (nI D.1) ss np dc dr da pc po pa cells filled pr) := by
  have hc := hR.1.1
  have nc : ¬ nI D.1 = -1000003 := fun z => by
    have : ¬ nI D.1 < 0 := nI_pos (by have := hR.2.1.1; omega)
    rw [z] at this
    exact this (by decide)
  have hR' := hR
  unfold kL_removes_J4
  rw [if_neg nc]
  obtain ⟨_, hV', _, _, _, ⟨rfl, s1, _, _, dD⟩ | ⟨rfl, s1, _, _, dD⟩⟩ := hR'
  · rw [if_neg n10]
    exact R_J5 hR h pc po pa oe T prod cl ce a b hp hn ha ha60 (by rw [← dD, nI_pred])
  · rw [if_pos rfl]
    exact R_J5 hR h pc po pa oe T prod cl ce a b hp hn ha ha60 (by rw [← dD, show (2 : Int32) = 1 + 1 from rfl, ← Int32.sub_sub, nI_pred, nI_pred])
theorem R_J4c {ss np dc dr : Int32} {da cells filled : Nat → Int32} {pr : Int32} {coef : Nat → Int32} {d : St} {hs : List St} {kd : Nat → Option St} (h : CS ss np dc dr da cells filled pr coef d hs kd) (pc po : Int32) (pa oe T prod cl ce a b : Nat → Int32) (hcap : 2 < d.2.1) (t0 r6 r7 r8 r9 r11 : Int32) : RemR d hs kd (kL_removes_J4 (hsD d) oe T coef prod cl ce a b t0 (nI d.1) r6 r7 r8 r9 64 r11 64 (-1000003) ss np dc dr da pc po pa cells filled pr) := by
  have h' := h
  obtain ⟨hV, rfl, rfl, hA, hc, _⟩ := h'
  have ho := hV.2.1
  unfold kL_removes_J4 kX9_circleCount
  rw [if_pos rfl, L_hash hV hA, bnd1_e, lg_self, if_pos rfl, bnd1_e, if_neg (show ¬ nI d.2.1 ≤ 2 from nI_ge (a := 2) hcap (by omega))]
  exact ⟨_, _, _, _, _, _, _, _, _, _, _, _, _, _, _, _, _, _, _, rfl, h⟩
/-- what there is to remove -/
def ToRem (d : St) (v : Nat) (t0 r5 : Int32) : Prop := (t0 = 1 ∧ ∃ k, k < 4 ∧ kE d.2.2 v k) ∨ (t0 = 0 ∧ ∃ w, w < d.1 ∧ bP d.2.2 v w ∧ r5 = nI w)
theorem R_J3 {ss np dc dr : Int32} {da cells filled : Nat → Int32} {pr : Int32} {coef : Nat → Int32} {d : St} {hs : List St} {kd : Nat → Option St} (h : CS ss np dc dr da cells filled pr coef d hs kd) (hl : hs.length ≤ 7) (hp : 0 < d.1 + d.2.1) {v : Nat} (hv : v < d.1) {t0 r5 : Int32} (hT : ToRem d v t0 r5) (pc po : Int32) (pa oe T prod cl ce a b : Nat → Int32) {nrm : Bool} {t2 : Int32} (hn : (nrm = true ∧ cmD d = 1) ∨ (nrm = false ∧ cmD d ≠ 1)) (hv2 : (t2 = 0 ∧ nrm = false) ∨ (t2 = 1 ∧ nrm = true)) : RemR d hs kd (kL_removes_J3 64 dc dr da pr oe T coef prod a t0 (nI v) r5 ss np pc po pa cells filled (hsD d) cl ce b (nI d.1) (nI (cmD d)) (dtD d) (nI (cdD d 3)) (nI (cdD d 7)) 64 t2) := by
  have h' := h
  obtain ⟨hV, rfl, rfl, hA, hc, _⟩ := h'
  obtain ⟨pr1, oe1, T1, cf1, pd1, a1, e1, e2, e3, e4⟩ := L_bracket hV hA hc t2 nrm hv2 oe T prod a
  obtain ⟨pr2, oe2, T2, cf2, pd2, e5, e6⟩ := o_lowest hV hA e2 oe1 T1 pd1
  have c2 := h.coef (pr' := pr2) (coef' := cf2) (Or.inr e6)
  unfold kL_removes_J3
  rw [e1, bnd6_e, e5, bnd6_e]
  rcases hT with ⟨rfl, k0, k01, k02⟩ | ⟨rfl, w, w1, ⟨w2, k0, k01, k02⟩, rfl⟩
  · rw [if_neg n10]
    obtain ⟨r, ss', np', dc', dr', da', pc', po', pa', cells', filled', pr', f1, f2⟩ := c2.kink hl hv pc po pa
    rw [f1, bnd12_e]
    rcases f2 with ⟨k, k1, k2, ⟨g1, rfl, g2⟩ | ⟨g1, rfl, g2⟩⟩ | ⟨g1, _⟩
    · obtain ⟨s, hR⟩ := rem_kink hV hv k1 k2 g1
      exact R_J4 hR (g2 cf2) pc' po' pa' oe2 T2 pd2 cl ce a1 b hp hn e3 e4
    · have jl := jnO_le (f := d.2.2) (p := en v (k + 2)) (q := en v (k + 3))
      have g1' : 4 < d.2.1 + jnO d.2.2 (en v (k + 2)) (en v (k + 3)) := g1
      exact R_J4c g2 pc' po' pa' oe2 T2 pd2 cl ce a1 b (by omega) _ _ _ _ _ _
    · exact absurd k02 (g1 k0 k01)
  · rw [if_pos rfl]
    obtain ⟨r, ss', np', dc', dr', da', pc', po', pa', cells', filled', pr', f1, f2⟩ := c2.bigon hl hv w1 (fun z => w2 z.symm) pc po pa
    rw [f1, bnd12_e]
    rcases f2 with ⟨k, k1, k2, ⟨g1, rfl, g2⟩ | ⟨g1, rfl, g2⟩⟩ | ⟨g1, _⟩
    · exact R_J4 (rem_bigon hV hv w1 (fun z => w2 z.symm) k1 k2 g1) (g2 cf2) pc' po' pa' oe2 T2 pd2 cl ce a1 b hp hn e3 e4
    · have jl1 : bgO d.2.2 v w k ≤ 1 := jnO_le
      have jl2 : bgP d.2.2 v w k ≤ 1 := jnO_le
      have g1' : 4 < d.2.1 + bgO d.2.2 v w k + bgP d.2.2 v w k := g1
      exact R_J4c g2 pc' po' pa' oe2 T2 pd2 cl ce a1 b (by omega) _ _ _ _ _ _
    · exact absurd k02 (g1 k0 k01)
theorem R_J2 {ss np dc dr : Int32} {da cells filled : Nat → Int32} {pr : Int32} {coef : Nat → Int32} {d : St} {hs : List St} {kd : Nat → Option St} (h : CS ss np dc dr da cells filled pr coef d hs kd) (hl : hs.length ≤ 7) (hp : 0 < d.1 + d.2.1) {v : Nat} (hv : v < d.1) {t0 r5 : Int32} (hT : ToRem d v t0 r5) (pc po : Int32) (pa oe T prod cl ce a b : Nat → Int32) : RemR d hs kd (kL_removes_J2 dc dr da pr oe T coef prod cl ce 64 a t0 (nI v) r5 ss np pc po pa cells filled (hsD d) b (nI d.1) 64) := by
  have h' := h
  obtain ⟨hV, rfl, rfl, hA, hc, _⟩ := h'
  have cl30 := (cm_low hV hp).2.2
  have p3 : isP 3 := Or.inl rfl
  have p7 : isP 7 := Or.inr (Or.inr (Or.inl rfl))
  obtain ⟨_, pr1, oe1, T1, cf1, pd1, e1, e2⟩ := o_determinant hV hA hc oe T prod
  obtain ⟨cl1, ce1, f1⟩ := o_colouring hV hA p3 cl ce
  have f1' : kX9_colouringDimension 3 (nI d.1) (nI d.2.1) da cl ce = some (nI (cdD d 3), cl1, ce1) := f1
  obtain ⟨cl2, ce2, f2⟩ := o_colouring hV hA p7 cl1 ce1
  have f2' : kX9_colouringDimension 7 (nI d.1) (nI d.2.1) da cl1 ce1 = some (nI (cdD d 7), cl2, ce2) := f2
  unfold kL_removes_J2
  rw [o_components hV hA, bnd1_e, e1, bnd6_e, f1', bnd3_e, f2', bnd3_e]
  by_cases one : cmD d = 1
  · rw [if_pos (show nI (cmD d) = 1 by rw [one]; rfl)]
    exact R_J3 (h.coef (Or.inr e2)) hl hp hv hT pc po pa oe1 T1 pd1 cl2 ce2 a b (Or.inl ⟨rfl, one⟩) (Or.inr ⟨rfl, rfl⟩)
  · rw [if_neg (show ¬ nI (cmD d) = 1 from fun z => one ((nI_eq (b := 1) (by omega) (by omega)).mp z))]
    exact R_J3 (h.coef (Or.inr e2)) hl hp hv hT pc po pa oe1 T1 pd1 cl2 ce2 a b (Or.inr ⟨rfl, one⟩) (Or.inl ⟨rfl, rfl⟩)
theorem R_J15 {ss np dc dr : Int32} {da cells filled : Nat → Int32} {pr : Int32} {coef : Nat → Int32} {d : St} {hs : List St} {kd : Nat → Option St} (h : CS ss np dc dr da cells filled pr coef d hs kd) (pc po : Int32) (pa oe T cl ce a b : Nat → Int32) (prod : Nat → Int32) : RemR d hs kd (kL_removes_J15 (hsD d) oe T coef prod cl ce a b ss np dc dr da pc po pa cells filled pr) := by
  have h' := h
  obtain ⟨hV, rfl, rfl, hA, hc, _⟩ := h'
  unfold kL_removes_J15
  rw [L_hash hV hA, bnd1_e, lg_self, if_pos rfl]
  exact ⟨_, _, _, _, _, _, _, _, _, _, _, _, _, _, _, _, _, _, _, rfl, h⟩
theorem R_J1 {ss np dc dr : Int32} {da cells filled : Nat → Int32} {pr : Int32} {coef : Nat → Int32} {d : St} {hs : List St} {kd : Nat → Option St} (h : CS ss np dc dr da cells filled pr coef d hs kd) (hl : hs.length ≤ 7) (hp : 0 < d.1 + d.2.1) {v : Nat} (hv : v < d.1) {t0 r5 : Int32} (hT : ToRem d v t0 r5 ∨ (t0 = 0 ∧ r5 = -1000009 ∧ (∀ w, w < d.1 → ¬ bP d.2.2 v w) ∧ ∀ k, k < 4 → ¬ kE d.2.2 v k)) (pc po : Int32) (pa oe T prod cl ce a b : Nat → Int32) : RemR d hs kd (kL_removes_J1 r5 (nI v) ss np dc dr da pc po pa cells filled pr (nI d.1) (hsD d) oe T coef prod cl ce a b 64 64 t0) := by
  have h' := h
  obtain ⟨hV, rfl, rfl, hA, hc, _⟩ := h'
  have h8 := hV.1
  unfold kL_removes_J1
  rcases hT with hT | ⟨rfl, rfl, nb, nk⟩
  · have r2 := R_J2 h hl hp hv hT pc po pa oe T prod cl ce a b
    have hT' := hT
    rcases hT' with ⟨rfl, _⟩ | ⟨rfl, w, w1, w2, rfl⟩
    · rw [if_neg n10]; exact r2
    · have nn : ¬ nI w = -1000009 := fun z => by
        have : ¬ nI w < 0 := nI_pos (by omega)
        rw [z] at this
        exact this (by decide)
      rw [if_pos rfl, if_neg nn]; exact r2
  · rw [if_pos rfl, if_pos rfl]
    obtain ⟨r, ss', np', dc', dr', da', pc', po', pa', cells', filled', pr', f1, f2⟩ := h.kink hl hv pc po pa
    rw [f1, bnd12_e]
    rcases f2 with ⟨k, k1, k2, _⟩ | ⟨_, rfl, g2⟩
    · exact absurd k2 (nk k k1)
    · have g2' := g2
      obtain ⟨_, rfl, rfl, hA', _⟩ := g2'
      rw [if_pos rfl, o_bigonNo rfl h8 (Or.inr (Or.inr rfl)), bnd12_e, if_pos rfl]
      by_cases q : d.1 < 2
      · rw [if_pos (show nI d.1 < 2 from nI_lt (b := 2) q (by omega))]
        exact R_J15 g2 pc' po' pa' oe T cl ce a b prod
      · have e1 : irem (nI v + 1) (nI d.1) = nI ((v + 1) % d.1) := by rw [nI_1, irem_nI (by omega) (by omega) (by omega)]
        have wl : (v + 1) % d.1 < d.1 := Nat.mod_lt _ (by omega)
        have wn : v ≠ (v + 1) % d.1 := by
          by_cases z : v + 1 < d.1
          · rw [Nat.mod_eq_of_lt z]; omega
          · rw [show v + 1 = d.1 by omega, Nat.mod_self]; omega
        rw [if_neg (show ¬ nI d.1 < 2 from Int32.not_lt.mpr (nI_le (a := 2) (by omega) (by omega)))]
        unfold cz
        obtain ⟨r, ss2, np2, dc2, dr2, da2, pc2, po2, pa2, cells2, filled2, pr2, f3, f4⟩ := g2.bigon hl hv wl wn pc' po' pa'
        rw [if_neg (nI_ne0 (by omega) (by omega)), e1, f3, bnd12_e]
        rcases f4 with ⟨k, k1, k2, _⟩ | ⟨_, rfl, g4⟩
        · exact absurd ⟨fun z => wn z.symm, k, k1, k2⟩ (nb _ wl)
        · rw [if_pos rfl]
          exact R_J15 g4 pc2 po2 pa2 oe T cl ce a b prod
theorem L_removes {ss np dc dr : Int32} {da cells filled : Nat → Int32} {pr : Int32} {coef : Nat → Int32} {d : St} {hs : List St} {kd : Nat → Option St} (h : CS ss np dc dr da cells filled pr coef d hs kd) (hl : hs.length ≤ 7) (hp : 0 < d.1 + d.2.1) (v1 pc po : Int32) (pa oe T prod cl ce a b : Nat → Int32) : RemR d hs kd (kL_removes 64 64 v1 ss np dc dr da pc po pa cells filled pr oe T coef prod cl ce a b) := by
  have h' := h
  obtain ⟨hV, rfl, rfl, hA, hc, _⟩ := h'
  have h8 := hV.1
  obtain ⟨j, hj, ej⟩ := L_low v1 (m := d.1 + 1) (by omega) (by omega)
  unfold kL_removes kX9_crossingCount
  rw [L_hash hV hA, bnd1_e, bnd1_e, nI_1, ej, bnd1_e]
  by_cases q : j = d.1
  · subst q
    have big : nI d.1 < 0 ∨ nI d.1 ≤ nI d.1 := Or.inr (Int32.le_refl _)
    rw [o_isKinkNo big, bnd1_e, o_bigonPartnerNo big, bnd1_e, if_pos rfl, if_pos rfl, if_pos rfl, o_kinkNo rfl big, bnd12_e, if_pos rfl, o_bigonNo rfl h8 (Or.inl big), bnd12_e, if_pos rfl, L_hash hV hA, bnd1_e, lg_self, if_pos rfl]
    exact ⟨_, _, _, _, _, _, _, _, _, _, _, _, _, _, _, _, _, _, _, rfl, h⟩
  · have hv : j < d.1 := by omega
    have njn : ¬ nI j = nI d.1 := fun z => q ((nI_eq (by omega) (by omega)).mp z)
    have part : ∀ r5 : Int32, ((∃ w, w < d.1 ∧ bP d.2.2 j w ∧ r5 = nI w) ∨ ((∀ w, w < d.1 → ¬ bP d.2.2 j w) ∧ r5 = -1000009)) → kX9_bigonPartner (nI j) (nI d.1) da = some r5 → RemR d hs kd (bnd1 (kX9_isKink (nI j) (nI d.1) da) (fun r_4 => bnd1 (kX9_bigonPartner (nI j) (nI d.1) da) (fun r_5 => if r_4 = 1 then (if ((ishr v1 4) &&& 1) = 0 then kL_removes_J17 r_5 (nI j) ss np (nI d.1) (nI d.2.1) da pc po pa cells filled pr (nI d.1) (hsD d) oe T coef prod cl ce a b 64 64 else if r_5 = (-1000009) then kL_removes_J17 r_5 (nI j) ss np (nI d.1) (nI d.2.1) da pc po pa cells filled pr (nI d.1) (hsD d) oe T coef prod cl ce a b 64 64 else kL_removes_J16 r_5 (nI j) ss np (nI d.1) (nI d.2.1) da pc po pa cells filled pr (nI d.1) (hsD d) oe T coef prod cl ce a b 64 64) else kL_removes_J16 r_5 (nI j) ss np (nI d.1) (nI d.2.1) da pc po pa cells filled pr (nI d.1) (hsD d) oe T coef prod cl ce a b 64 64))) := fun r5 hr er => by
      rw [er]
      have b0 : ∀ w, w < d.1 → bP d.2.2 j w → r5 = nI w → ToRem d j 0 r5 := fun w w1 w2 w3 => Or.inr ⟨rfl, w, w1, w2, w3⟩
      rcases o_isKink hV hA hv with ⟨hk, e⟩ | ⟨hk, e⟩
      · rw [e, bnd1_e, bnd1_e, if_pos rfl]
        unfold kL_removes_J17 kL_removes_J16
        have one : RemR d hs kd (kL_removes_J1 r5 (nI j) ss np (nI d.1) (nI d.2.1) da pc po pa cells filled pr (nI d.1) (hsD d) oe T coef prod cl ce a b 64 64 1) := R_J1 h hl hp hv (Or.inl (Or.inl ⟨rfl, hk⟩)) pc po pa oe T prod cl ce a b
        by_cases x4 : ((ishr v1 4) &&& 1) = 0
        · rw [if_pos x4]; exact one
        · rw [if_neg x4]
          by_cases r9 : r5 = -1000009
          · rw [if_pos r9]; exact one
          · rw [if_neg r9]
            rcases hr with ⟨w, w1, w2, w3⟩ | ⟨_, w3⟩
            · exact R_J1 h hl hp hv (Or.inl (b0 w w1 w2 w3)) pc po pa oe T prod cl ce a b
            · exact absurd w3 r9
      · rw [e, bnd1_e, bnd1_e, if_neg (by decide)]
        unfold kL_removes_J16
        rcases hr with ⟨w, w1, w2, w3⟩ | ⟨w1, w3⟩
        · exact R_J1 h hl hp hv (Or.inl (b0 w w1 w2 w3)) pc po pa oe T prod cl ce a b
        · exact R_J1 h hl hp hv (Or.inr ⟨rfl, w3, w1, hk⟩) pc po pa oe T prod cl ce a b
    have part2 : ∃ r5 : Int32, ((∃ w, w < d.1 ∧ bP d.2.2 j w ∧ r5 = nI w) ∨ ((∀ w, w < d.1 → ¬ bP d.2.2 j w) ∧ r5 = -1000009)) ∧ kX9_bigonPartner (nI j) (nI d.1) da = some r5 := by
      rcases o_bigonPartner hV hA hv with ⟨k, k1, k2, k3⟩ | ⟨k1, k2⟩
      · exact ⟨_, Or.inl ⟨k, k1, k2, rfl⟩, k3⟩
      · exact ⟨_, Or.inr ⟨k1, rfl⟩, k2⟩
    obtain ⟨r5, p1, p2⟩ := part2
    have fin := part r5 p1 p2
    simp only [if_neg njn]
    exact fin
