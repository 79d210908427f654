/-! ===== the class's state: the diagram, what is saved (the newest first), the snapshots ===== -/
def CS (ss np dc dr : Int32) (da cells filled : Nat → Int32) (pr : Int32) (coef : Nat → Int32) (d : St) (hs : List St) (kd : Nat → Option St) : Prop :=
  VS d ∧ dc = nI d.1 ∧ dr = nI d.2.1 ∧ Rp da d.2.2 ∧ (pr = 0 ∨ ∀ i, i < 121 → coef i = brD d i) ∧ ss = nI hs.length ∧ hs.length ≤ 8 ∧ (∃ n, np = nI n ∧ n < 8 ∧ ∀ j e, hs[j]? = some e → VS e ∧ SlR cells ((n + 8 - j) % 8) e ∧ filled ((n + 8 - j) % 8) = 1) ∧
  ∀ k, k < 2 → (kd k = none → filled (8 + k) = 0) ∧ ∀ e, kd k = some e → filled (8 + k) = 1 ∧ VS e ∧ SlR cells (8 + k) e
theorem n10 : ¬ ((1 : Int32) = 0) := by decide
/-- the mask of the entered ends -/
noncomputable def enD (d : St) : Int32 := Classical.epsilon (fun m => OKm d.1 d.2.2 17 m)
theorem enD_is {d : St} {m : Int32} (h : OKm d.1 d.2.2 17 m) : m = enD d ∧ OKm d.1 d.2.2 17 (enD d) := by
  have h2 : OKm d.1 d.2.2 17 (enD d) := Classical.epsilon_spec (p := fun m => OKm d.1 d.2.2 17 m) ⟨m, h⟩
  refine ⟨b_ext (fun i hi => ?_), h2⟩
  rw [Bool.eq_iff_iff, h.1 i hi, h2.1 i hi]
noncomputable def sgD (d : St) (v : Nat) : Int32 := sgn (enD d) v
noncomputable def wrD (d : St) : Int32 := sgs (enD d) d.1
theorem o_entered {d : St} {da : Nat → Int32} (hV : VS d) (hA : Rp da d.2.2) : kX7_enteredEnds (nI d.1) da = some (enD d) ∧ OKm d.1 d.2.2 17 (enD d) := by
  obtain ⟨m, h1, h2⟩ := q_entered hA hV
  obtain ⟨e, h3⟩ := enD_is h2
  rw [← e]
  exact ⟨h1, h2⟩
theorem o_signSum {d : St} {da : Nat → Int32} (hV : VS d) (hA : Rp da d.2.2) : kX7_signSum (nI d.1) da = some (wrD d) := q_signSum hV (o_entered hV hA).1
theorem o_crossingSign {d : St} {da : Nat → Int32} (hV : VS d) (hA : Rp da d.2.2) {j : Nat} (hj : j < d.1) : kX9_crossingSign (nI j) (nI d.1) da = some (sgD d j) := by
  have hc := hV.1
  unfold kX9_crossingSign
  rw [q_hasIn hj (by omega), bnd1_e, if_neg n10, (o_entered hV hA).1, bnd1_e, q_sign (by omega), bnd1_e]
  rfl
theorem o_writhe {d : St} {da : Nat → Int32} (hV : VS d) (hA : Rp da d.2.2) : kX9_writhe (nI d.1) da = some (wrD d) := by
  unfold kX9_writhe
  rw [o_signSum hV hA, bnd1_e]
noncomputable def cmD (d : St) : Nat := nCl d.1 d.2.2 2 + d.2.1
noncomputable def ptD (d : St) : Nat := nCl d.1 d.2.2 1 + d.2.1
noncomputable def fcD (d : St) : Nat := cF (fp d.1 d.2.2) (4 * d.1) + 2 * d.2.1
theorem o_components {d : St} {da : Nat → Int32} (hV : VS d) (hA : Rp da d.2.2) : kX9_componentCount (nI d.1) (nI d.2.1) da = some (nI (cmD d)) := by
  unfold kX9_componentCount
  rw [q_count hA hV, bnd1_e, nI_add]
  rfl
theorem o_parts {d : St} {da : Nat → Int32} (hV : VS d) (hA : Rp da d.2.2) : kX9_partCount (nI d.1) (nI d.2.1) da = some (nI (ptD d)) := by
  unfold kX9_partCount
  rw [q_parts hA hV, bnd1_e, nI_add]
  rfl
theorem o_faces {d : St} {da : Nat → Int32} (hV : VS d) (hA : Rp da d.2.2) : kX9_faceCount (nI d.1) (nI d.2.1) da = some (nI (fcD d)) := by
  unfold kX9_faceCount
  rw [q_faces hA hV, bnd1_e, fa_lit 2, pk_mul, nI_add]
  rfl
/-- twice the genus is what it ought to be -/
theorem gen_eq {d : St} (hV : VS d) : ∃ g, d.1 + 2 * ptD d = fcD d + 2 * g ∧ g ≤ 100 := by
  obtain ⟨q, h⟩ := genus_ok hV
  have h1 : nCl d.1 d.2.2 1 ≤ 17 := fb_ct_le _ 17
  have hc := hV.1
  refine ⟨q, ?_, by omega⟩
  unfold ptD fcD
  omega
noncomputable def gnD (d : St) : Nat := (d.1 + 2 * ptD d - fcD d) / 2
theorem gnD_eq {d : St} (hV : VS d) : d.1 + 2 * ptD d = fcD d + 2 * gnD d ∧ gnD d ≤ 100 := by
  obtain ⟨g, h, hb⟩ := gen_eq hV
  have : gnD d = g := by unfold gnD; omega
  rw [this]
  exact ⟨h, hb⟩
theorem ptD_le {d : St} (hV : VS d) : ptD d ≤ 21 := by
  have h1 : nCl d.1 d.2.2 1 ≤ 17 := fb_ct_le _ 17
  have := hV.2.1
  unfold ptD
  omega
theorem half_nI : ∀ g, g ≤ 100 → (nI (2 * g) / 2 : Int32) = nI g := by decide +kernel
theorem o_genus {d : St} {da : Nat → Int32} (hV : VS d) (hA : Rp da d.2.2) : kX9_genus (nI d.1) (nI d.2.1) da = some (nI (gnD d)) := by
  obtain ⟨h, hb⟩ := gnD_eq hV
  have hp := ptD_le hV
  have hc := hV.1
  unfold kX9_genus
  rw [o_parts hV hA, bnd1_e, o_faces hV hA, bnd1_e, fa_lit 2, pk_mul, nI_add, h]
  have e : (nI (fcD d + 2 * gnD d) - nI (fcD d) : Int32) = nI (2 * gnD d) := by
    rw [← nI_add, Int32.add_comm, Int32.add_sub_cancel]
  rw [e]
  show some (nI (2 * gnD d) / 2) = _
  rw [half_nI _ hb]
def altP (d : St) : Prop := ∀ e, e < 4 * d.1 → (e + ot d.1 d.2.2 e) % 2 = 1
theorem o_alternates {d : St} {da : Nat → Int32} (hV : VS d) (hA : Rp da d.2.2) : (altP d ∧ kX9_isAlternating (nI d.1) da = some 1) ∨ (¬ altP d ∧ kX9_isAlternating (nI d.1) da = some 0) := by
  unfold kX9_isAlternating
  rcases q_alt hA hV with ⟨h, e⟩ | ⟨h, e⟩
  · rw [e, bnd1_e, if_neg n10]
    exact Or.inl ⟨h, rfl⟩
  · rw [e, bnd1_e, if_pos rfl]
    obtain ⟨x, hx, hne⟩ := h
    exact Or.inr ⟨fun z => hne (z x hx), rfl⟩
theorem o_stateLoops {d : St} {da : Nat → Int32} (hV : VS d) (hA : Rp da d.2.2) {j : Nat} (hj : j < 2 ^ d.1) (oe : Nat → Int32) : ∃ oe', kX9_stateLoops (nI j) (nI d.1) (nI d.2.1) da oe = some (nI (Lo d.1 d.2.1 d.2.2 j), oe') := by
  have hc := hV.1
  have p9 := two_c hc
  obtain ⟨oe', g1, g2⟩ := q_note hA hV oe
  unfold kX9_stateLoops kX0_loops
  rw [shlOne d.1 hc, if_neg (nI_pos (by omega)), if_pos (nI_lt hj (by omega)), g1, bnd1_e, q_countLoops g2 hV (by omega), bnd1_e, bnd2_e]
  exact ⟨oe', rfl⟩
theorem o_stateNo {dc dr : Int32} {da : Nat → Int32} {c : Nat} (hc : c ≤ 8) (hdc : dc = nI c) {v : Int32} (hv : v < 0 ∨ nI (2 ^ c) ≤ v) (oe : Nat → Int32) : kX9_stateLoops v dc dr da oe = some (-1000001, oe) := by
  subst hdc
  unfold kX9_stateLoops
  by_cases z : v < 0
  · rw [if_pos z]
  · rw [if_neg z, shlOne c hc, if_neg (Int32.not_lt.mpr (hv.resolve_left z))]
/-! the bracket's cache -/
theorem o_prep {d : St} {da : Nat → Int32} (hV : VS d) (hA : Rp da d.2.2) {pr : Int32} {coef : Nat → Int32} (h : pr = 0 ∨ ∀ i, i < 121 → coef i = brD d i) (oe T prod : Nat → Int32) : ∃ pr' oe' T' coef' prod', kX0_prepare pr oe T coef prod (nI d.1) (nI d.2.1) da = some (pr', oe', T', coef', prod') ∧ ∀ i, i < 121 → coef' i = brD d i := by
  by_cases q : pr = 0
  · subst q
    obtain ⟨oe', T', cf', pr', g1, g2⟩ := q_prepareNew (oe := oe) (T := T) (cf := coef) (pr := prod) hA hV
    exact ⟨_, _, _, _, _, g1, g2⟩
  · refine ⟨pr, oe, T, coef, prod, ?_, h.resolve_left q⟩
    unfold kX0_prepare
    rw [if_neg q]
noncomputable def loD (d : St) : Int32 := Classical.epsilon (fun v => LoP (brD d) v)
noncomputable def hiD (d : St) : Int32 := Classical.epsilon (fun v => HiP (brD d) v)
theorem loD_is {d : St} {v : Int32} (h : LoP (brD d) v) : v = loD d ∧ LoP (brD d) (loD d) := by
  have h2 : LoP (brD d) (loD d) := Classical.epsilon_spec (p := fun v => LoP (brD d) v) ⟨v, h⟩
  exact ⟨h.only h2, h2⟩
theorem hiD_is {d : St} {v : Int32} (h : HiP (brD d) v) : v = hiD d ∧ HiP (brD d) (hiD d) := by
  have h2 : HiP (brD d) (hiD d) := Classical.epsilon_spec (p := fun v => HiP (brD d) v) ⟨v, h⟩
  exact ⟨h.only h2, h2⟩
theorem loD_ok (d : St) : LoP (brD d) (loD d) := by
  obtain ⟨v, _, h⟩ := q_lowest (brD d)
  exact (loD_is h).2
theorem hiD_ok (d : St) : HiP (brD d) (hiD d) := by
  obtain ⟨v, _, h⟩ := q_highest (brD d)
  exact (hiD_is h).2
theorem o_lowest {d : St} {da : Nat → Int32} (hV : VS d) (hA : Rp da d.2.2) {pr : Int32} {coef : Nat → Int32} (h : pr = 0 ∨ ∀ i, i < 121 → coef i = brD d i) (oe T prod : Nat → Int32) : ∃ pr' oe' T' coef' prod', kX9_lowestExponent (nI d.1) (nI d.2.1) da pr oe T coef prod = some (loD d, pr', oe', T', coef', prod') ∧ ∀ i, i < 121 → coef' i = brD d i := by
  obtain ⟨pr', oe', T', cf', pd', g1, g2⟩ := o_prep hV hA h oe T prod
  obtain ⟨v, g3, g4⟩ := q_lowest cf'
  have g5 := (loD_is (g4.cong g2)).1
  refine ⟨pr', oe', T', cf', pd', ?_, g2⟩
  unfold kX9_lowestExponent
  rw [g1, bnd5_e, g3, bnd1_e, g5]
theorem o_highest {d : St} {da : Nat → Int32} (hV : VS d) (hA : Rp da d.2.2) {pr : Int32} {coef : Nat → Int32} (h : pr = 0 ∨ ∀ i, i < 121 → coef i = brD d i) (oe T prod : Nat → Int32) : ∃ pr' oe' T' coef' prod', kX9_highestExponent (nI d.1) (nI d.2.1) da pr oe T coef prod = some (hiD d, pr', oe', T', coef', prod') ∧ ∀ i, i < 121 → coef' i = brD d i := by
  obtain ⟨pr', oe', T', cf', pd', g1, g2⟩ := o_prep hV hA h oe T prod
  obtain ⟨v, g3, g4⟩ := q_highest cf'
  have g5 := (hiD_is (g4.cong g2)).1
  refine ⟨pr', oe', T', cf', pd', ?_, g2⟩
  unfold kX9_highestExponent
  rw [g1, bnd5_e, g3, bnd1_e, g5]
/-- the determinant: by the row of coefficients alone -/
def DtP (g : Nat → Int32) (w : Int32) : Prop := ∃ v, LoP g v ∧ ((v = -1000009 ∧ w = 0) ∨ ∃ j, j < 121 ∧ v ≠ -1000009 ∧ v = nI j - 60 ∧ w = iabs (aS g j ((124 - j) / 4)).1)
theorem nI60ne : ∀ j, j < 121 → (nI j - 60 : Int32) ≠ -1000009 := by decide +kernel
theorem DtP.only {g : Nat → Int32} {w w' : Int32} (h : DtP g w) (h' : DtP g w') : w = w' := by
  obtain ⟨v, l, h⟩ := h
  obtain ⟨v', l', h'⟩ := h'
  have e := l.only l'
  subst e
  rcases h with ⟨a, b⟩ | ⟨j, j1, j2, j3, j4⟩ <;> rcases h' with ⟨a', b'⟩ | ⟨k, k1, k2, k3, k4⟩
  · rw [b, b']
  · exact absurd a k2
  · exact absurd a' j2
  · have := nI60 j j1 k k1 (j3.symm.trans k3)
    rw [j4, k4, this]
noncomputable def dtD (d : St) : Int32 := Classical.epsilon (fun w => DtP (brD d) w)
theorem dt_cong {g h : Nat → Int32} {w : Int32} (e : ∀ i, i < 121 → g i = h i) (hw : DtP g w) : DtP h w := by
  obtain ⟨v, l, hw⟩ := hw
  refine ⟨v, l.cong e, ?_⟩
  rcases hw with z | ⟨j, j1, j2, j3, j4⟩
  · exact Or.inl z
  · refine Or.inr ⟨j, j1, j2, j3, ?_⟩
    rw [j4, aS_cong e _ (by omega)]
theorem o_determinant {d : St} {da : Nat → Int32} (hV : VS d) (hA : Rp da d.2.2) {pr : Int32} {coef : Nat → Int32} (h : pr = 0 ∨ ∀ i, i < 121 → coef i = brD d i) (oe T prod : Nat → Int32) : DtP (brD d) (dtD d) ∧ ∃ pr' oe' T' coef' prod', kX9_determinant (nI d.1) (nI d.2.1) da pr oe T coef prod = some (dtD d, pr', oe', T', coef', prod') ∧ ∀ i, i < 121 → coef' i = brD d i := by
  obtain ⟨pr', oe', T', cf', pd', g1, g2⟩ := o_prep hV hA h oe T prod
  obtain ⟨v, g3, g4⟩ := q_lowest cf'
  obtain ⟨w, g5, g6⟩ := q_alternating g3 g4
  have g7 : DtP (brD d) w := dt_cong g2 ⟨v, g4, g6⟩
  have g8 : DtP (brD d) (dtD d) := Classical.epsilon_spec (p := fun w => DtP (brD d) w) ⟨w, g7⟩
  refine ⟨g8, pr', oe', T', cf', pd', ?_, g2⟩
  unfold kX9_determinant
  rw [g1, bnd5_e, g5, bnd1_e, g7.only g8]
theorem o_coefficient {d : St} {da : Nat → Int32} (hV : VS d) (hA : Rp da d.2.2) {pr : Int32} {coef : Nat → Int32} (h : pr = 0 ∨ ∀ i, i < 121 → coef i = brD d i) {j : Nat} (hj : j < 121) (oe T prod : Nat → Int32) : ∃ pr' oe' T' coef' prod', kX9_coefficient (nI j - 60) (nI d.1) (nI d.2.1) da pr oe T coef prod = some (brD d j, pr', oe', T', coef', prod') ∧ ∀ i, i < 121 → coef' i = brD d i := by
  obtain ⟨pr', oe', T', cf', pd', g1, g2⟩ := o_prep hV hA h oe T prod
  refine ⟨pr', oe', T', cf', pd', ?_, g2⟩
  unfold kX9_coefficient
  rw [q_exIn hj, bnd1_e, if_neg n10, g1, bnd5_e, q_at (exIn j hj).2.2.1 hj, bnd1_e, g2 j hj]
theorem o_coefNo {dc dr : Int32} {da : Nat → Int32} {pr : Int32} {coef oe T prod : Nat → Int32} {v : Int32} (hv : v < -60 ∨ 60 < v) : kX9_coefficient v dc dr da pr oe T coef prod = some (-1000001, pr, oe, T, coef, prod) := by
  unfold kX9_coefficient
  rw [q_exOut hv, bnd1_e, if_pos rfl]
theorem o_normNo {dc dr : Int32} {da : Nat → Int32} {pr : Int32} {coef oe T prod : Nat → Int32} {v : Int32} (hv : v < -60 ∨ 60 < v) : kX9_normalizedCoefficient v dc dr da pr oe T coef prod = some (-1000001, pr, oe, T, coef, prod) := by
  unfold kX9_normalizedCoefficient
  rw [q_exOut hv, bnd1_e, if_pos rfl]
/-! colourings -/
noncomputable def cdD (d : St) (p : Nat) : Nat := Classical.epsilon (fun a => HC (Col d.1 d.2.2 p) (p ^ a)) + d.2.1
theorem pow_one_inj {p a b : Nat} (hp : isP p) (h : p ^ a = p ^ b) : a = b := by
  have := (isP_lt hp).1
  exact Nat.le_antisymm ((Nat.pow_le_pow_iff_right (show 1 < p by omega)).mp (Nat.le_of_eq h)) ((Nat.pow_le_pow_iff_right (show 1 < p by omega)).mp (Nat.le_of_eq h.symm))
theorem cdD_eq {d : St} {p a : Nat} (hp : isP p) (h : HC (Col d.1 d.2.2 p) (p ^ a)) : cdD d p = a + d.2.1 := by
  have h2 : HC (Col d.1 d.2.2 p) (p ^ Classical.epsilon (fun a => HC (Col d.1 d.2.2 p) (p ^ a))) := Classical.epsilon_spec (p := fun a => HC (Col d.1 d.2.2 p) (p ^ a)) ⟨a, h⟩
  unfold cdD
  rw [pow_one_inj hp (h2.uniq h)]
theorem o_colouring {d : St} {da : Nat → Int32} (hV : VS d) (hA : Rp da d.2.2) {p : Nat} (hp : isP p) (cl cells : Nat → Int32) : ∃ cl' c', kX9_colouringDimension (nI p) (nI d.1) (nI d.2.1) da cl cells = some (nI (cdD d p), cl', c') := by
  obtain ⟨a, h1, h2⟩ := col_HC hp hV
  obtain ⟨cl', c', e⟩ := q_dimension hp (cl := cl) (cells := cells) hA hV
  have e2 : nI (fb_ct (fun n => occB d.2.2 n (4 * d.1) && (lbC d.2.2 d.1 n == n)) 17) + nI d.2.1 - nI (gMs p d.1 (eqM p d.2.2 (lbC d.2.2 d.1) d.1) 16).1 = nI (cdD d p) := by
    rw [cdD_eq hp h1, ← h2, nI_add, show a + (gMs p d.1 (eqM p d.2.2 (lbC d.2.2 d.1) d.1) 16).1 + d.2.1 = (a + d.2.1) + (gMs p d.1 (eqM p d.2.2 (lbC d.2.2 d.1) d.1) 16).1 by omega, ← nI_add, Int32.add_sub_cancel]
  rw [e2] at e
  refine ⟨cl', c', ?_⟩
  unfold kX9_colouringDimension kX9_colouringDimension_J1
  rcases hp with rfl | rfl | rfl | rfl
  · rw [if_pos (by decide), e, bnd3_e]
  · rw [if_neg (by decide), if_pos (by decide), e, bnd3_e]
  · rw [if_neg (by decide), if_neg (by decide), if_pos (by decide), e, bnd3_e]
  · rw [if_neg (by decide), if_neg (by decide), if_neg (by decide), if_pos (by decide), e, bnd3_e]
