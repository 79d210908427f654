/-! ===== the values under kinks, bigons, mirrors and switches ===== -/
theorem dtD_ok (d : St) : DtP (brD d) (dtD d) := by
  have : ∃ w, DtP (brD d) w := by
    rcases loD_ok d with ⟨j, h1, h2, h3, h4⟩ | ⟨h1, h2⟩
    · exact ⟨_, loD d, loD_ok d, Or.inr ⟨j, h1, by rw [h4]; exact nI60ne j h1, h4, rfl⟩⟩
    · exact ⟨_, loD d, loD_ok d, Or.inl ⟨h2, rfl⟩⟩
  obtain ⟨w, h⟩ := this
  exact Classical.epsilon_spec (p := fun w => DtP (brD d) w) ⟨w, h⟩
theorem dt_eq {d d' : St} (hV : VS d) (hV' : VS d') (h : ∀ z, DtZ (bzD d) z → DtZ (bzD d') z) : dtD d = dtD d' := by
  obtain ⟨z, z1, z2, _⟩ := dt_of hV (dtD_ok d)
  obtain ⟨y, y1, y2, _⟩ := dt_of hV' (dtD_ok d')
  rw [z2, y2, (h z z1).only y1]
theorem dt_nonneg {d : St} (hV : VS d) : ¬ dtD d < 0 := by
  obtain ⟨z, z1, z2, z3, z4⟩ := dt_of hV (dtD_ok d)
  have z0 : (0 : Int32).toInt = 0 := rfl
  rw [z2, fa_lt, fb_ofI (by omega) (by omega), z0]
  omega
theorem rp_of {d : St} (hV : VS d) : Rp (fun e => nI (d.2.2 e)) d.2.2 := ⟨fun e he => rfl, hV.le16, fun e he => hV.2.2.1 e (by have := hV.1; omega)⟩
theorem enD_ori {d : St} (hV : VS d) : Ori d.1 d.2.2 (bt (enD d)) := ori_class hV (o_entered hV (rp_of hV)).2
theorem one_comp {d : St} (hV : VS d) (h : cmD d = 1) : d.1 = 0 ∨ nCl d.1 d.2.2 2 = 1 := by
  by_cases q : d.1 = 0
  · exact Or.inl q
  · right
    have := nCl_pos hV (by omega) 2
    unfold cmD at h
    omega
theorem wD_is {d : St} (hV : VS d) (h : cmD d = 1) {mu : Nat → Bool} (ho : Ori d.1 d.2.2 mu) : wD d = wZ mu d.1 := ori_w hV (enD_ori hV) ho (one_comp hV h)
theorem kk_facts {d : St} (hV : VS d) {v k : Nat} (hv : v < d.1) (hk : k < 4) (hE : kE d.2.2 v k) (ho : (kkD d v k).2.1 ≤ 4) : ∃ s : Int, (s = 1 ∨ s = -1) ∧ (∀ e, bzD d e = -1 * bzD (kkD d v k) (e - 3 * s)) ∧ cmD d = cmD (kkD d v k) ∧ (∀ p, isP p → cdD d p = cdD (kkD d v k) p) ∧ (cmD d = 1 → wD (kkD d v k) = wD d - s) ∧ 0 < (kkD d v k).1 + (kkD d v k).2.1 := by
  have hV' : VS (kkD d v k) := kk_VS hV hv hk hE ho
  have b : ∀ e, bzD d e = -bzD (kkD d v k) (if k % 2 = 0 then e - 3 else e + 3) := fun e => kink_BZ hV hv hk hE ho e
  have cm : cmD d = cmD (kkD d v k) := by
    have := kink_comp hV hv hk hE ho
    unfold cmD
    show _ = nCl (d.1 - 1) (kkD (d.1, d.2.1, d.2.2) v k).2.2 2 + (kkD (d.1, d.2.1, d.2.2) v k).2.1
    omega
  have cd : ∀ p, isP p → cdD d p = cdD (kkD d v k) p := fun p hp => by
    obtain ⟨a, h1, h2⟩ := col_HC hp hV'
    have h3 := kink_col hp hV hv hk hE ho h1
    rw [← Nat.pow_add] at h3
    rw [cdD_eq hp h3, cdD_eq hp h1]
    show _ = a + (d.2.1 + jnO d.2.2 (en v (k + 2)) (en v (k + 3)))
    omega
  have pos : 0 < (kkD d v k).1 + (kkD d v k).2.1 := kink_some hV hv hk hE ho
  obtain ⟨or1, or2⟩ := kink_ori hV hv hk hE ho (enD_ori hV)
  have w : cmD d = 1 → wD (kkD d v k) = wD d - sgZ (bt (enD d)) v := fun one => by
    rw [wD_is hV' (cm ▸ one) or1]
    have e1 : wD d = wZ (bt (enD d)) d.1 := rfl
    rw [e1, w_drop hv]
    show wZ (fun x => bt (enD d) (dl v x)) (d.1 - 1) = _
    omega
  by_cases q : k % 2 = 0
  · rw [if_pos q] at or2
    rw [or2] at w
    refine ⟨1, Or.inl rfl, fun e => ?_, cm, cd, w, pos⟩
    rw [b, if_pos q, Int.neg_one_mul]
    rfl
  · rw [if_neg q] at or2
    rw [or2] at w
    refine ⟨-1, Or.inr rfl, fun e => ?_, cm, cd, w, pos⟩
    rw [b, if_neg q, Int.neg_one_mul]
    show _ = -bzD (kkD d v k) (e - -3)
    rw [Int.sub_neg]
theorem sgZ_dl (mu : Nat → Bool) {a b : Nat} (h : a < b) : sgZ (fun x => mu (dl b x)) a = sgZ mu a := by
  have e1 : dl b (4 * a) = 4 * a := by unfold dl; rw [if_pos (by omega)]
  have e2 : dl b (4 * a + 3) = 4 * a + 3 := by unfold dl; rw [if_pos (by omega)]
  unfold sgZ
  show (if mu (dl b (4 * a)) = mu (dl b (4 * a + 3)) then (1 : Int) else -1) = _
  rw [e1, e2]
theorem bg_facts {d : St} (hV : VS d) {v w k : Nat} (hv : v < d.1) (hw : w < d.1) (hvw : v ≠ w) (hk : k < 16) (hE : bE d.2.2 v w k) (ho : (bgD d v w k).2.1 ≤ 4) : (∀ e, bzD d e = bzD (bgD d v w k) e) ∧ cmD d = cmD (bgD d v w k) ∧ (∀ p, isP p → cdD d p = cdD (bgD d v w k) p) ∧ (cmD d = 1 → wD (bgD d v w k) = wD d) ∧ 0 < (bgD d v w k).1 + (bgD d v w k).2.1 := by
  have hV' : VS (bgD d v w k) := bg_VS hV hv hw hvw hk hE ho
  obtain ⟨i, j, hi, hj, rfl⟩ : ∃ i j, i < 4 ∧ j < 4 ∧ k = 4 * i + j := ⟨k / 4, k % 4, by omega, by omega, by omega⟩
  have ei : (4 * i + j) / 4 = i := by omega
  have ej : (4 * i + j) % 4 = j := by omega
  have b : ∀ e, bzD d e = bzD (bgD d v w (4 * i + j)) e := fun e => bigon_BZ hV hv hw hvw hi hj hE ho e
  have cm : cmD d = cmD (bgD d v w (4 * i + j)) := by
    have := bigon_comp hV hv hw hvw hi hj hE ho
    unfold cmD
    show _ = nCl (d.1 - 1 - 1) (bgD (d.1, d.2.1, d.2.2) v w (4 * i + j)).2.2 2 + (bgD (d.1, d.2.1, d.2.2) v w (4 * i + j)).2.1
    omega
  have cd : ∀ p, isP p → cdD d p = cdD (bgD d v w (4 * i + j)) p := fun p hp => by
    obtain ⟨a, h1, h2⟩ := col_HC hp hV'
    have h3 := bigon_col hp hV hv hw hvw hi hj hE ho h1
    rw [← Nat.pow_add, ← Nat.pow_add] at h3
    rw [cdD_eq hp h3, cdD_eq hp h1]
    show _ = a + (d.2.1 + jnO d.2.2 (en v ((4 * i + j) / 4 + 2)) (en w ((4 * i + j) % 4 + 3)) + jnO (jnF d.2.2 (en v ((4 * i + j) / 4 + 2)) (en w ((4 * i + j) % 4 + 3))) (en v ((4 * i + j) / 4 + 3)) (en w ((4 * i + j) % 4 + 2)))
    rw [ei, ej]
    omega
  have pos : 0 < (bgD d v w (4 * i + j)).1 + (bgD d v w (4 * i + j)).2.1 := bigon_some hV hv hw hvw hi hj hE ho
  obtain ⟨or1, or2⟩ := bigon_ori hV hv hw hvw hi hj hE ho (enD_ori hV)
  refine ⟨b, cm, cd, fun one => ?_, pos⟩
  rw [wD_is hV' (cm ▸ one) or1]
  have e1 : wD d = wZ (bt (enD d)) d.1 := rfl
  have mx : max v w < d.1 := by omega
  have mn : min v w < d.1 - 1 := by omega
  rw [e1, w_drop mx, w_drop (mu := fun x => bt (enD d) (dl (max v w) x)) mn, sgZ_dl _ (show min v w < max v w by omega)]
  have es : sgZ (bt (enD d)) (min v w) + sgZ (bt (enD d)) (max v w) = 0 := by
    by_cases q : v < w
    · rw [show min v w = v by omega, show max v w = w by omega]; exact or2
    · rw [show min v w = w by omega, show max v w = v by omega]; omega
  show wZ (fun x => bt (enD d) (dl (max v w) (dl (min v w) x))) (d.1 - 1 - 1) = _
  omega
theorem mi_bz {d : St} (hV : VS d) (e : Int) : bzD (miD d) e = bzD d (-e) := mir_BZ hV e
theorem mi_cm {d : St} (hV : VS d) : cmD (miD d) = cmD d := by
  unfold cmD
  show nCl d.1 (mirF d.2.2 d.1) 2 + d.2.1 = _
  rw [mir_comp hV]
theorem mi_pt {d : St} (hV : VS d) : ptD (miD d) = ptD d := by
  unfold ptD
  show nCl d.1 (mirF d.2.2 d.1) 1 + d.2.1 = _
  rw [mir_parts hV]
theorem mi_fc {d : St} (hV : VS d) : fcD (miD d) = fcD d := by
  unfold fcD
  show cF (fp d.1 (mirF d.2.2 d.1)) (4 * d.1) + 2 * d.2.1 = _
  rw [mir_faces hV]
theorem mi_gn {d : St} (hV : VS d) : gnD (miD d) = gnD d := by
  unfold gnD
  rw [mi_pt hV, mi_fc hV]
  rfl
theorem mi_alt {d : St} (hV : VS d) : altP (miD d) ↔ altP d := mir_alt hV
theorem gn_planar {d : St} (hV : VS d) (h : gnD d = 0) : d.1 + 2 * nCl d.1 d.2.2 1 = cF (fp d.1 d.2.2) (4 * d.1) := by
  have := (gnD_eq hV).1
  unfold ptD fcD at this
  omega
theorem mi_VS {d : St} (hV : VS d) : VS (miD d) := mir_VS hV d.1
theorem mi_dt {d : St} (hV : VS d) (h : gnD d = 0) : dtD (miD d) = dtD d := by
  obtain ⟨r, hr⟩ := planar_mod hV (gn_planar hV h)
  refine (dt_eq hV (mi_VS hV) (fun z hz => ?_)).symm
  have := hz.rev hV hr
  have e : bzD (miD d) = fun e => bzD d (-e) := by
    funext e
    exact mi_bz hV e
  rw [e]
  exact this
theorem mi_w {d : St} (hV : VS d) (h : cmD d = 1) : wrD (miD d) = -wrD d := by
  have h' : cmD (miD d) = 1 := by rw [mi_cm hV]; exact h
  have o := mir_ori hV (enD_ori hV)
  have e := wD_is (mi_VS hV) h' o
  have e2 : wD (miD d) = -wD d := e.trans (mir_w (enD_ori hV))
  rw [wrD_wD, wrD_wD, e2, Int32.ofInt_neg]
theorem sw_VS {d : St} (hV : VS d) (j : Nat) : VS (swD d j) := exch_VS hV j
theorem sw2_bz {d : St} (hV : VS d) (j : Nat) (e : Int) : bzD (swD (swD d j) j) e = bzD d e := switch2_BZ hV j e
/-- what a diagram's numbers always keep -/
theorem cd_low {d : St} (hV : VS d) (h : 0 < d.1 + d.2.1) {p : Nat} (hp : isP p) : 1 ≤ cdD d p := by
  obtain ⟨a, h1, h2⟩ := col_HC hp hV
  rw [cdD_eq hp h1]
  by_cases q : d.1 = 0
  · omega
  · have := col_low hp hV (by omega) h1
    omega
theorem cd_high {d : St} (hV : VS d) {p : Nat} (hp : isP p) : cdD d p ≤ d.1 + 4 := by
  obtain ⟨a, h1, h2⟩ := col_HC hp hV
  rw [cdD_eq hp h1]
  have := col_high hp hV h1
  have := hV.2.1
  omega
theorem cm_low {d : St} (hV : VS d) (h : 0 < d.1 + d.2.1) : 1 ≤ ptD d ∧ ptD d ≤ cmD d ∧ cmD d ≤ 30 := by
  have h1 := parts_le hV
  have h2 : nCl d.1 d.2.2 2 ≤ 17 := fb_ct_le _ 17
  have h3 := hV.2.1
  unfold ptD cmD
  by_cases q : d.1 = 0
  · omega
  · have := nCl_pos hV (by omega) 1
    omega
