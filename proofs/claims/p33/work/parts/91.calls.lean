/-! ===== the calls that change the diagram, over CS ===== -/
theorem CS.become {ss np dc dr : Int32} {da cells filled : Nat → Int32} {pr : Int32} {coef : Nat → Int32} {d : St} {hs : List St} {kd : Nat → Option St} (h : CS ss np dc dr da cells filled pr coef d hs kd) {d' : St} {pa : Nat → Int32} (hV' : VS d') (hp : Rp pa d'.2.2) (hl : hs.length ≤ 7) : ∃ ss' np' da' cells' filled', kX9_becomeDraft ss np dc dr da (nI d'.1) (nI d'.2.1) pa cells filled pr = some (ss', np', nI d'.1, nI d'.2.1, da', cells', filled', 0) ∧ Rp da' d'.2.2 ∧ ∀ cf', CS ss' np' (nI d'.1) (nI d'.2.1) da' cells' filled' 0 cf' d' (d :: hs) kd := by
  obtain ⟨hV, rfl, rfl, hA, hc, rfl, hL, ⟨n, rfl, hn, hH⟩, hK⟩ := h
  obtain ⟨cells', da', q1, q2, q3, q4⟩ := q_becomeDraft (a := da) (cells := cells) (filled := filled) hL hn hA hp pr
  refine ⟨_, _, da', cells', _, q1, q2, fun cf' => ⟨hV', rfl, rfl, q2, Or.inl rfl, ?_, ?_, ⟨(n + 1) % 8, rfl, by omega, fun j e hj => ?_⟩, fun k hk => ?_⟩⟩
  · rw [Nat.min_eq_left (by omega)]; rfl
  · show hs.length + 1 ≤ 8; omega
  · cases j with
    | zero =>
      have e1 : d = e := by simpa using hj
      subst e1
      have e0 : ((n + 1) % 8 + 8 - 0) % 8 = (n + 1) % 8 := by omega
      rw [e0]
      exact ⟨hV, q3, pk_us ..⟩
    | succ j =>
      have hj' : hs[j]? = some e := by simpa using hj
      have jl : j < hs.length := by
        obtain ⟨z, _⟩ := List.getElem?_eq_some_iff.mp hj'
        exact z
      obtain ⟨g1, g2, g3⟩ := hH j e hj'
      have e0 : ((n + 1) % 8 + 8 - (j + 1)) % 8 = (n + 8 - j) % 8 := by omega
      rw [e0]
      exact ⟨g1, g2.congr (fun i hi => q4 _ (by omega)), by rw [pk_un (by omega)]; exact g3⟩
  · obtain ⟨k1, k2⟩ := hK k hk
    refine ⟨fun z => by rw [pk_un (by omega)]; exact k1 z, fun e z => ?_⟩
    obtain ⟨g1, g2, g3⟩ := k2 e z
    exact ⟨by rw [pk_un (by omega)]; exact g1, g2, g3.congr (fun i hi => q4 _ (by omega))⟩
theorem CS.finish {ss np dc dr : Int32} {da cells filled : Nat → Int32} {pr : Int32} {coef : Nat → Int32} {d : St} {hs : List St} {kd : Nat → Option St} (h : CS ss np dc dr da cells filled pr coef d hs kd) {D : St} {pa : Nat → Int32} (hV : D.2.1 ≤ 4 → VS D) (hb : D.2.1 < 1000) (hp : Rp pa D.2.2) (hl : hs.length ≤ 7) : ∃ r ss' np' dc' dr' da' cells' filled' pr', kX9_finishRemoval ss np dc dr da (nI D.1) (nI D.2.1) pa cells filled pr = some (r, ss', np', dc', dr', da', cells', filled', pr') ∧ ((D.2.1 ≤ 4 ∧ r = nI D.1 ∧ ∀ cf', CS ss' np' dc' dr' da' cells' filled' pr' cf' D (d :: hs) kd) ∨ (4 < D.2.1 ∧ r = -1000003 ∧ CS ss' np' dc' dr' da' cells' filled' pr' coef d hs kd)) := by
  unfold kX9_finishRemoval
  by_cases q : D.2.1 ≤ 4
  · have l4 : nI D.2.1 ≤ (4 : Int32) := by rw [fa_lit 4]; exact nI_le q (by omega)
    obtain ⟨ss', np', da', cells', filled', e1, e3, e4⟩ := h.become (hV q) hp hl
    rw [if_pos l4, e1, bnd8_e]
    exact ⟨_, _, _, _, _, _, _, _, _, rfl, Or.inl ⟨q, rfl, e4⟩⟩
  · have l4 : ¬ nI D.2.1 ≤ (4 : Int32) := by rw [fa_lit 4]; exact nI_ge (by omega) (by omega)
    rw [if_neg l4]
    exact ⟨_, _, _, _, _, _, _, _, _, rfl, Or.inr ⟨by omega, rfl, h⟩⟩
theorem o_hasNo {v : Int32} {c : Nat} (hv : v < 0 ∨ nI c ≤ v) : kX2_hasCrossing v (nI c) = some 0 := by
  rcases hv with hv | hv
  · exact q_hasNeg hv
  · exact q_hasBig hv
theorem CS.kink {ss np dc dr : Int32} {da cells filled : Nat → Int32} {pr : Int32} {coef : Nat → Int32} {d : St} {hs : List St} {kd : Nat → Option St} (h : CS ss np dc dr da cells filled pr coef d hs kd) (hl : hs.length ≤ 7) {j : Nat} (hj : j < d.1) (pc po : Int32) (pa : Nat → Int32) : ∃ r ss' np' dc' dr' da' pc' po' pa' cells' filled' pr', kX9_removeKink (nI j) ss np dc dr da pc po pa cells filled pr = some (r, ss', np', dc', dr', da', pc', po', pa', cells', filled', pr') ∧ ((∃ k, k < 4 ∧ kE d.2.2 j k ∧ (((kkD d j k).2.1 ≤ 4 ∧ r = nI (kkD d j k).1 ∧ ∀ cf', CS ss' np' dc' dr' da' cells' filled' pr' cf' (kkD d j k) (d :: hs) kd) ∨ (4 < (kkD d j k).2.1 ∧ r = -1000003 ∧ CS ss' np' dc' dr' da' cells' filled' pr' coef d hs kd))) ∨ ((∀ k, k < 4 → ¬ kE d.2.2 j k) ∧ r = -1000002 ∧ CS ss' np' dc' dr' da' cells' filled' pr' coef d hs kd)) := by
  have h' := h
  obtain ⟨hV, rfl, rfl, hA, _⟩ := h'
  have hc := hV.1
  have ho := hV.2.1
  unfold kX9_removeKink
  rw [q_hasIn hj (by omega), bnd1_e, if_neg n10]
  obtain ⟨x, e1, x1⟩ := q_kinkEnd hA (show j < 8 by omega)
  rw [e1, bnd1_e]
  rcases x1.sgn (by omega) with ⟨y1, y2⟩ | ⟨y1, k, y2, y3, rfl⟩
  · rw [if_neg (Int32.not_le.mpr y1)]
    exact ⟨_, _, _, _, _, _, _, _, _, _, _, _, rfl, Or.inr ⟨y2, rfl, h⟩⟩
  · rw [if_pos (Int32.not_lt.mp y1), q_copyFrom, bnd3_e]
    obtain ⟨pa2, g1, g2⟩ := q_dissolveKink hV hA.copy hj y2 (a := fa_fill da pa 32)
    have jl := jnO_le (f := d.2.2) (p := en j (k + 2)) (q := en j (k + 3))
    obtain ⟨r, ss', np', dc', dr', da', cells', filled', pr', f1, f2⟩ := h.finish (D := kkD d j k) (fun w => kk_VS hV hj y2 y3 w) (by show d.2.1 + _ < 1000; omega) g2 hl
    rw [g1, bnd3_e, f1, bnd9_e]
    exact ⟨_, _, _, _, _, _, _, _, _, _, _, _, rfl, Or.inl ⟨k, y2, y3, f2⟩⟩
theorem o_kinkNo {ss np dc dr : Int32} {da cells filled : Nat → Int32} {pr pc po : Int32} {pa : Nat → Int32} {c : Nat} (hdc : dc = nI c) {v : Int32} (hv : v < 0 ∨ nI c ≤ v) : kX9_removeKink v ss np dc dr da pc po pa cells filled pr = some (-1000001, ss, np, dc, dr, da, pc, po, pa, cells, filled, pr) := by
  subst hdc
  unfold kX9_removeKink
  rw [o_hasNo hv, bnd1_e, if_pos rfl]
theorem CS.bigon {ss np dc dr : Int32} {da cells filled : Nat → Int32} {pr : Int32} {coef : Nat → Int32} {d : St} {hs : List St} {kd : Nat → Option St} (h : CS ss np dc dr da cells filled pr coef d hs kd) (hl : hs.length ≤ 7) {i j : Nat} (hi : i < d.1) (hj : j < d.1) (hij : i ≠ j) (pc po : Int32) (pa : Nat → Int32) : ∃ r ss' np' dc' dr' da' pc' po' pa' cells' filled' pr', kX9_removeBigon (nI i) (nI j) ss np dc dr da pc po pa cells filled pr = some (r, ss', np', dc', dr', da', pc', po', pa', cells', filled', pr') ∧ ((∃ k, k < 16 ∧ bE d.2.2 i j k ∧ (((bgD d i j k).2.1 ≤ 4 ∧ r = nI (bgD d i j k).1 ∧ ∀ cf', CS ss' np' dc' dr' da' cells' filled' pr' cf' (bgD d i j k) (d :: hs) kd) ∨ (4 < (bgD d i j k).2.1 ∧ r = -1000003 ∧ CS ss' np' dc' dr' da' cells' filled' pr' coef d hs kd))) ∨ ((∀ k, k < 16 → ¬ bE d.2.2 i j k) ∧ r = -1000002 ∧ CS ss' np' dc' dr' da' cells' filled' pr' coef d hs kd)) := by
  have h' := h
  obtain ⟨hV, rfl, rfl, hA, _⟩ := h'
  have hc := hV.1
  have ho := hV.2.1
  have nij : ¬ nI i = nI j := fun z => hij ((nI_eq (by omega) (by omega)).mp z)
  unfold kX9_removeBigon
  rw [q_hasIn hi (by omega), bnd1_e, if_neg n10, q_hasIn hj (by omega), bnd1_e, if_neg n10, if_neg nij]
  obtain ⟨x, e1, x1⟩ := q_bigon hA (show i < 8 by omega) (show j < 8 by omega)
  rw [e1, bnd1_e]
  rcases x1.sgn (by omega) with ⟨y1, y2⟩ | ⟨y1, k, y2, y3, rfl⟩
  · rw [if_neg (Int32.not_le.mpr y1)]
    exact ⟨_, _, _, _, _, _, _, _, _, _, _, _, rfl, Or.inr ⟨y2, rfl, h⟩⟩
  · rw [if_pos (Int32.not_lt.mp y1), q_copyFrom, bnd3_e]
    obtain ⟨pa2, g1, g2⟩ := q_dissolveBigon hV hA.copy hi hj hij y2 (a := fa_fill da pa 32)
    have jl1 : bgO d.2.2 i j k ≤ 1 := jnO_le
    have jl2 : bgP d.2.2 i j k ≤ 1 := jnO_le
    obtain ⟨r, ss', np', dc', dr', da', cells', filled', pr', f1, f2⟩ := h.finish (D := bgD d i j k) (fun w => bg_VS hV hi hj hij y2 y3 w) (by show d.2.1 + _ + _ < 1000; omega) g2 hl
    rw [g1, bnd3_e, f1, bnd9_e]
    exact ⟨_, _, _, _, _, _, _, _, _, _, _, _, rfl, Or.inl ⟨k, y2, y3, f2⟩⟩
theorem o_bigonNo {ss np dc dr : Int32} {da cells filled : Nat → Int32} {pr pc po : Int32} {pa : Nat → Int32} {c : Nat} (hdc : dc = nI c) (hc : c ≤ 8) {v w : Int32} (hv : (v < 0 ∨ nI c ≤ v) ∨ (w < 0 ∨ nI c ≤ w) ∨ v = w) : kX9_removeBigon v w ss np dc dr da pc po pa cells filled pr = some (-1000001, ss, np, dc, dr, da, pc, po, pa, cells, filled, pr) := by
  subst hdc
  have has : ∀ v : Int32, (v < 0 ∨ nI c ≤ v) ∨ kX2_hasCrossing v (nI c) = some 1 := fun v => by
    rcases ix v (n := c) (by omega) with q | q | ⟨j, hj, rfl⟩
    · exact Or.inl (Or.inl q)
    · exact Or.inl (Or.inr q)
    · exact Or.inr (q_hasIn hj (by omega))
  unfold kX9_removeBigon
  rcases has v with q | q
  · rw [o_hasNo q, bnd1_e, if_pos rfl]
  · rw [q, bnd1_e, if_neg n10]
    have hv2 := hv.resolve_left (fun z => by rw [o_hasNo z] at q; exact absurd q (by decide))
    rcases has w with u | u
    · rw [o_hasNo u, bnd1_e, if_pos rfl]
    · rw [u, bnd1_e, if_neg n10]
      have hv3 := hv2.resolve_left (fun z => by rw [o_hasNo z] at u; exact absurd u (by decide))
      rw [if_pos hv3]
theorem o_isKink {d : St} {da : Nat → Int32} (hV : VS d) (hA : Rp da d.2.2) {j : Nat} (hj : j < d.1) : ((∃ k, k < 4 ∧ kE d.2.2 j k) ∧ kX9_isKink (nI j) (nI d.1) da = some 1) ∨ ((∀ k, k < 4 → ¬ kE d.2.2 j k) ∧ kX9_isKink (nI j) (nI d.1) da = some 0) := by
  have hc := hV.1
  unfold kX9_isKink
  rw [q_hasIn hj (by omega), bnd1_e, if_neg n10]
  obtain ⟨x, e1, x1⟩ := q_kinkEnd hA (show j < 8 by omega)
  rw [e1, bnd1_e]
  rcases x1.sgn (by omega) with ⟨y1, y2⟩ | ⟨y1, k, y2, y3, rfl⟩
  · rw [if_neg (Int32.not_le.mpr y1)]
    exact Or.inr ⟨y2, rfl⟩
  · rw [if_pos (Int32.not_lt.mp y1)]
    exact Or.inl ⟨⟨k, y2, y3⟩, rfl⟩
theorem o_isKinkNo {c : Nat} {da : Nat → Int32} {v : Int32} (hv : v < 0 ∨ nI c ≤ v) : kX9_isKink v (nI c) da = some (-1000001) := by
  unfold kX9_isKink
  rw [o_hasNo hv, bnd1_e, if_pos rfl]
theorem o_bigonPartner {d : St} {da : Nat → Int32} (hV : VS d) (hA : Rp da d.2.2) {j : Nat} (hj : j < d.1) : ((∃ k, k < d.1 ∧ bP d.2.2 j k ∧ kX9_bigonPartner (nI j) (nI d.1) da = some (nI k)) ∨ ((∀ k, k < d.1 → ¬ bP d.2.2 j k) ∧ kX9_bigonPartner (nI j) (nI d.1) da = some (-1000009))) := by
  have hc := hV.1
  unfold kX9_bigonPartner
  rw [q_hasIn hj (by omega), bnd1_e, if_neg n10]
  have Q : ∃ r, it1 (kX9_bigonPartner_L1 (nI d.1) (nI j) da) 400 0 = some r ∧ fndF (bP d.2.2 j) 0 d.1 nI (-1000009) r := by
    refine it1_way (F := kX9_bigonPartner_L1 (nI d.1) (nI j) da) (x1 := 0) (n := 400) (fun i x => x = nI i ∧ ∀ k, k < i → ¬ bP d.2.2 j k) (fun r => ∃ x, r = some x ∧ fndF (bP d.2.2 j) 0 d.1 nI (-1000009) x) d.1 (fun K i x hi hI => ?_) ⟨rfl, fun k hk => absurd hk (Nat.not_lt_zero _)⟩ (by omega)
    obtain ⟨rfl, hx⟩ := hI
    unfold kX9_bigonPartner_L1
    by_cases q : i = d.1
    · left
      exact ⟨-1000009, if_pos (by rw [q]; exact Int32.le_refl _), Or.inr ⟨fun k _ hk => hx k (by omega), rfl⟩⟩
    · rw [if_neg (nI_ge (by omega) (by omega)), nI_1]
      have nx : ¬ bP d.2.2 j i → ∀ k, k < i + 1 → ¬ bP d.2.2 j k := fun z k hk => by
        by_cases w : k = i
        · rw [w]; exact z
        · exact hx k (by omega)
      by_cases w : i = j
      · right
        exact ⟨by omega, _, if_pos (by rw [w]), rfl, nx (fun z => z.1 w)⟩
      · rw [if_neg (fun z => w ((nI_eq (by omega) (by omega)).mp z))]
        obtain ⟨x, e1, x1⟩ := q_bigon hA (show j < 8 by omega) (show i < 8 by omega)
        rw [e1, bnd1_e]
        rcases x1.sgn (by omega) with ⟨y1, y2⟩ | ⟨y1, k, y2, y3, _⟩
        · right
          exact ⟨by omega, _, if_pos y1, rfl, nx (fun ⟨_, k, k1, k2⟩ => y2 k k1 k2)⟩
        · left
          exact ⟨_, if_neg y1, fndF.asc (by omega) ⟨w, k, y2, y3⟩ hx⟩
  obtain ⟨r, e, x⟩ := Q
  rcases x with ⟨k, h1, h2, h3, h4, rfl⟩ | ⟨h1, rfl⟩
  · exact Or.inl ⟨k, h2, h3, e⟩
  · exact Or.inr ⟨fun k hk => h1 k (Nat.zero_le _) hk, e⟩
theorem o_bigonPartnerNo {c : Nat} {da : Nat → Int32} {v : Int32} (hv : v < 0 ∨ nI c ≤ v) : kX9_bigonPartner v (nI c) da = some (-1000001) := by
  unfold kX9_bigonPartner
  rw [o_hasNo hv, bnd1_e, if_pos rfl]
theorem o_arcAt {d : St} {da : Nat → Int32} (hV : VS d) (hA : Rp da d.2.2) {j k : Nat} (hj : j < d.1) (hk : k < 4) : kX9_arcAt (nI j) (nI k) (nI d.1) da = some (nI (d.2.2 (4 * j + k))) := by
  have hc := hV.1
  have k3 : nI k ≤ (3 : Int32) := by rw [fa_lit 3]; exact nI_le (by omega) (by omega)
  have e : (4 * nI j + nI k : Int32) = nI (4 * j + k) := by rw [fa_lit 4, pk_mul, nI_add]
  unfold kX9_arcAt
  rw [q_hasIn hj (by omega), bnd1_e, if_neg n10, if_neg (nI_pos (by omega)), if_pos k3, e, q_arcR hA (by omega), bnd1_e]
theorem o_arcNo {c : Nat} {da : Nat → Int32} {v w : Int32} (hv : (v < 0 ∨ nI c ≤ v) ∨ w < 0 ∨ 3 < w) (hc : c ≤ 8) : kX9_arcAt v w (nI c) da = some (-1000001) := by
  unfold kX9_arcAt
  rcases ix v (n := c) (by omega) with q | q | ⟨j, hj, rfl⟩
  · rw [q_hasNeg q, bnd1_e, if_pos rfl]
  · rw [q_hasBig q, bnd1_e, if_pos rfl]
  · rw [q_hasIn hj (by omega), bnd1_e, if_neg n10]
    have hw := hv.resolve_left (fun z => by
      rcases z with z | z
      · exact nI_pos (by omega) z
      · exact nI_ge hj (by omega) z)
    by_cases z : w < 0
    · rw [if_pos z]
    · rw [if_neg z, if_neg (Int32.not_le.mpr (hw.resolve_left z))]
theorem CS.undo {ss np dc dr : Int32} {da cells filled : Nat → Int32} {pr : Int32} {coef : Nat → Int32} {d d' : St} {hs : List St} {kd : Nat → Option St} (h : CS ss np dc dr da cells filled pr coef d (d' :: hs) kd) : ∃ ss' np' dc' dr' da' pr', kX9_undo ss np dc dr da cells filled pr = some (nI hs.length, ss', np', dc', dr', da', pr') ∧ ∀ cf', CS ss' np' dc' dr' da' cells filled pr' cf' d' hs kd := by
  obtain ⟨hV, rfl, rfl, hA, hc, rfl, hL, ⟨n, rfl, hn, hH⟩, hK⟩ := h
  have hL' : hs.length + 1 ≤ 8 := hL
  obtain ⟨g1, g2, g3⟩ := hH 0 d' rfl
  have e0 : (n + 8 - 0) % 8 = n := by omega
  rw [e0] at g2 g3
  obtain ⟨a', f1, f2⟩ := q_fetch (a := da) (k := n) (by omega) g3 g2 g1.le16 (fun e he => g1.2.2.1 e (by have := g1.1; omega)) (nI d.1) (nI d.2.1)
  have e1 : (nI (d' :: hs).length - 1 : Int32) = nI hs.length := by
    show (nI (hs.length + 1) - 1 : Int32) = _
    rw [nI_pred]
  have e3 : (irem (nI n + 8 - 1) 8 : Int32) = nI ((n + 7) % 8) := by
    rw [show (nI n + 8 - 1 : Int32) = nI (n + 7) by rw [fa_lit 8, nI_add, show n + 8 = n + 7 + 1 by omega, nI_pred], fa_lit 8, irem_nI (by omega) (by omega) (by omega)]
  unfold kX9_undo kX0_forget
  rw [if_neg (nI_ne0 (by show 0 < hs.length + 1; omega) (by show hs.length + 1 < _; omega)), f1, bnd3_e, bnd1_e, e1, e3]
  refine ⟨_, _, _, _, _, _, rfl, fun cf' => ⟨g1, rfl, rfl, f2, Or.inl rfl, rfl, by omega, ⟨(n + 7) % 8, rfl, by omega, fun j e hj => ?_⟩, hK⟩⟩
  have := hH (j + 1) e (by simpa using hj)
  have jl : j < hs.length := by
    obtain ⟨z, _⟩ := List.getElem?_eq_some_iff.mp hj
    exact z
  rw [show ((n + 7) % 8 + 8 - j) % 8 = (n + 8 - (j + 1)) % 8 by omega]
  exact this
theorem CS.undoNo {ss np dc dr : Int32} {da cells filled : Nat → Int32} {pr : Int32} {coef : Nat → Int32} {d : St} {kd : Nat → Option St} (h : CS ss np dc dr da cells filled pr coef d [] kd) : kX9_undo ss np dc dr da cells filled pr = some (-1000002, ss, np, dc, dr, da, pr) := by
  obtain ⟨hV, rfl, rfl, hA, hc, rfl, _⟩ := h
  unfold kX9_undo
  rw [if_pos (show nI ([] : List St).length = 0 from rfl)]
theorem CS.save {ss np dc dr : Int32} {da cells filled : Nat → Int32} {pr : Int32} {coef : Nat → Int32} {d : St} {hs : List St} {kd : Nat → Option St} (h : CS ss np dc dr da cells filled pr coef d hs kd) {k : Nat} (hk : k < 2) : ∃ cells' filled', kX9_save (nI k) dc dr da cells filled = some (nI d.1, cells', filled') ∧ CS ss np dc dr da cells' filled' pr coef d hs (fun m => if m = k then some d else kd m) := by
  obtain ⟨hV, rfl, rfl, hA, hc, rfl, hL, ⟨n, rfl, hn, hH⟩, hK⟩ := h
  obtain ⟨cells', g1, g2, g3⟩ := q_keep (cells := cells) (filled := filled) hA (show 8 + k < 10 by omega)
  have e : (8 + nI k : Int32) = nI (8 + k) := by rw [fa_lit 8, nI_add]
  unfold kX9_save
  rw [q_slot hk, bnd1_e, if_neg n10, e, g1, bnd2_e]
  refine ⟨_, _, rfl, hV, rfl, rfl, hA, hc, rfl, hL, ⟨n, rfl, hn, fun j e' hj => ?_⟩, fun m hm => ?_⟩
  · obtain ⟨b1, b2, b3⟩ := hH j e' hj
    refine ⟨b1, b2.congr (fun i hi => g3 _ (by omega)), ?_⟩
    rw [pk_un (by omega)]; exact b3
  · by_cases w : m = k
    · subst w
      refine ⟨fun z => ?_, fun e' z => ?_⟩
      · have z0 : (if m = m then some d else kd m) = none := z
        rw [if_pos rfl] at z0; exact absurd z0 (by simp)
      · replace z : (if m = m then some d else kd m) = some e' := z
        rw [if_pos rfl] at z
        have z' : d = e' := by simpa using z
        subst z'
        exact ⟨pk_us .., hV, g2⟩
    · obtain ⟨k1, k2⟩ := hK m hm
      refine ⟨fun z => ?_, fun e' z => ?_⟩
      · replace z : (if m = k then some d else kd m) = none := z
        rw [if_neg w] at z
        rw [pk_un (by omega)]; exact k1 z
      · replace z : (if m = k then some d else kd m) = some e' := z
        rw [if_neg w] at z
        obtain ⟨r1, r3, r4⟩ := k2 e' z
        exact ⟨by rw [pk_un (by omega)]; exact r1, r3, r4.congr (fun i hi => g3 _ (by omega))⟩
theorem o_saveNo {dc dr : Int32} {da cells filled : Nat → Int32} {v : Int32} (hv : v < 0 ∨ nI 2 ≤ v) : kX9_save v dc dr da cells filled = some (-1000001, cells, filled) := by
  unfold kX9_save
  rw [q_slotNo hv, bnd1_e, if_pos rfl]
theorem CS.restore {ss np dc dr : Int32} {da cells filled : Nat → Int32} {pr : Int32} {coef : Nat → Int32} {d : St} {hs : List St} {kd : Nat → Option St} (h : CS ss np dc dr da cells filled pr coef d hs kd) {k : Nat} (hk : k < 2) {e : St} (he : kd k = some e) : ∃ ss' dc' dr' da' pr', kX9_restore (nI k) ss dc dr da cells filled pr = some (nI e.1, ss', dc', dr', da', pr') ∧ ∀ cf', CS ss' np dc' dr' da' cells filled pr' cf' e [] kd := by
  obtain ⟨hV, rfl, rfl, hA, hc, rfl, hL, ⟨n, rfl, hn, hH⟩, hK⟩ := h
  obtain ⟨r1, r3, r4⟩ := (hK k hk).2 e he
  have e1 : (8 + nI k : Int32) = nI (8 + k) := by rw [fa_lit 8, nI_add]
  obtain ⟨a', f1, f2⟩ := q_fetch (a := da) (k := 8 + k) (by omega) r1 r4 r3.le16 (fun e he => r3.2.2.1 e (by have := r3.1; omega)) (nI d.1) (nI d.2.1)
  unfold kX9_restore kX0_forget
  rw [q_slot hk, bnd1_e, if_neg n10, e1, q_holds (by omega), r1, if_neg n10, bnd1_e, if_neg n10, f1, bnd3_e, bnd1_e]
  exact ⟨_, _, _, _, _, rfl, fun cf' => ⟨r3, rfl, rfl, f2, Or.inl rfl, rfl, Nat.zero_le _, ⟨n, rfl, hn, fun j e' hj => absurd hj (by simp)⟩, hK⟩⟩
theorem CS.restoreNone {ss np dc dr : Int32} {da cells filled : Nat → Int32} {pr : Int32} {coef : Nat → Int32} {d : St} {hs : List St} {kd : Nat → Option St} (h : CS ss np dc dr da cells filled pr coef d hs kd) {k : Nat} (hk : k < 2) (he : kd k = none) : kX9_restore (nI k) ss dc dr da cells filled pr = some (-1000002, ss, dc, dr, da, pr) := by
  obtain ⟨hV, rfl, rfl, hA, hc, rfl, hL, ⟨n, rfl, hn, hH⟩, hK⟩ := h
  have r1 := (hK k hk).1 he
  have e1 : (8 + nI k : Int32) = nI (8 + k) := by rw [fa_lit 8, nI_add]
  unfold kX9_restore
  rw [q_slot hk, bnd1_e, if_neg n10, e1, q_holds (by omega), r1, if_pos rfl, bnd1_e, if_pos rfl]
theorem o_restoreNo {ss dc dr : Int32} {da cells filled : Nat → Int32} {pr v : Int32} (hv : v < 0 ∨ nI 2 ≤ v) : kX9_restore v ss dc dr da cells filled pr = some (-1000001, ss, dc, dr, da, pr) := by
  unfold kX9_restore
  rw [q_slotNo hv, bnd1_e, if_pos rfl]
/-! turns -/
def swD (d : St) (j : Nat) : St := (d.1, d.2.1, exch d.2.2 j)
def miD (d : St) : St := (d.1, d.2.1, mirF d.2.2 d.1)
theorem CS.switch {ss np dc dr : Int32} {da cells filled : Nat → Int32} {pr : Int32} {coef : Nat → Int32} {d : St} {hs : List St} {kd : Nat → Option St} (h : CS ss np dc dr da cells filled pr coef d hs kd) (hl : hs.length ≤ 7) {j : Nat} (hj : j < d.1) (pc po : Int32) (pa : Nat → Int32) : ∃ ss' np' dc' dr' da' pc' po' pa' cells' filled' pr', kX9_switchCrossing (nI j) ss np dc dr da pc po pa cells filled pr = some (sgD (swD d j) j, ss', np', dc', dr', da', pc', po', pa', cells', filled', pr') ∧ ∀ cf', CS ss' np' dc' dr' da' cells' filled' pr' cf' (swD d j) (d :: hs) kd := by
  have h' := h
  obtain ⟨hV, rfl, rfl, hA, _⟩ := h'
  have hc := hV.1
  obtain ⟨pa2, g1, g2⟩ := q_exchange (a := fa_fill da pa 32) hA.copy (show j < 8 by omega)
  have hV' : VS (swD d j) := exch_VS hV j
  obtain ⟨ss', np', da', cells', filled', e1, e3, e4⟩ := h.become hV' (pa := pa2) g2 hl
  have e1' : kX9_becomeDraft ss np (nI d.1) (nI d.2.1) da (nI d.1) (nI d.2.1) pa2 cells filled pr = some (ss', np', nI (swD d j).1, nI (swD d j).2.1, da', cells', filled', 0) := e1
  unfold kX9_switchCrossing
  rw [q_hasIn hj (by omega), bnd1_e, if_neg n10, q_copyFrom, bnd3_e, g1, bnd1_e, e1', bnd8_e, (o_entered hV' e3).1, bnd1_e, q_sign (by omega), bnd1_e]
  exact ⟨_, _, _, _, _, _, _, _, _, _, _, rfl, e4⟩
theorem o_switchNo {ss np dc dr : Int32} {da cells filled : Nat → Int32} {pr pc po : Int32} {pa : Nat → Int32} {c : Nat} (hdc : dc = nI c) {v : Int32} (hv : v < 0 ∨ nI c ≤ v) : kX9_switchCrossing v ss np dc dr da pc po pa cells filled pr = some (-1000001, ss, np, dc, dr, da, pc, po, pa, cells, filled, pr) := by
  subst hdc
  unfold kX9_switchCrossing
  rw [o_hasNo hv, bnd1_e, if_pos rfl]
theorem CS.mirror {ss np dc dr : Int32} {da cells filled : Nat → Int32} {pr : Int32} {coef : Nat → Int32} {d : St} {hs : List St} {kd : Nat → Option St} (h : CS ss np dc dr da cells filled pr coef d hs kd) (hl : hs.length ≤ 7) (h0 : 0 < d.1) (pc po : Int32) (pa : Nat → Int32) : ∃ ss' np' dc' dr' da' pc' po' pa' cells' filled' pr', kX9_mirror ss np dc dr da pc po pa cells filled pr = some (wrD (miD d), ss', np', dc', dr', da', pc', po', pa', cells', filled', pr') ∧ ∀ cf', CS ss' np' dc' dr' da' cells' filled' pr' cf' (miD d) (d :: hs) kd := by
  have h' := h
  obtain ⟨hV, rfl, rfl, hA, _⟩ := h'
  have hc := hV.1
  unfold kX9_mirror
  rw [if_neg (nI_ne0 (by omega) (by omega)), q_copyFrom, bnd3_e]
  have L : ∃ pa2, Rp pa2 (mirF d.2.2 d.1) ∧ it2 (kX9_mirror_L1 (nI d.1) ss np (nI d.1) (nI d.2.1) da (nI d.2.1) cells filled pr) 400 0 (fa_fill da pa 32) = kX9_mirror_L1 (nI d.1) ss np (nI d.1) (nI d.2.1) da (nI d.2.1) cells filled pr (fun _ _ => none) (nI d.1) pa2 := by
    refine it2_inv (F := kX9_mirror_L1 (nI d.1) ss np (nI d.1) (nI d.2.1) da (nI d.2.1) cells filled pr) (x1 := 0) (x2 := fa_fill da pa 32) (n := 400) (fun i x y => x = nI i ∧ Rp y (mirF d.2.2 i)) (fun r => ∃ pa2, Rp pa2 (mirF d.2.2 d.1) ∧ r = kX9_mirror_L1 (nI d.1) ss np (nI d.1) (nI d.2.1) da (nI d.2.1) cells filled pr (fun _ _ => none) (nI d.1) pa2) d.1 (fun K i x y hi hI => ?_) (fun K x y hI => ?_) ⟨rfl, hA.copy⟩ (by omega)
    · obtain ⟨rfl, hy⟩ := hI
      obtain ⟨y2, g1, g2⟩ := q_exchange hy (show i < 8 by omega)
      refine ⟨nI (i + 1), y2, ?_, rfl, g2⟩
      unfold kX9_mirror_L1
      rw [if_neg (nI_ge hi (by omega)), g1, bnd1_e, nI_1]
    · obtain ⟨rfl, hy⟩ := hI
      refine ⟨y, hy, ?_⟩
      unfold kX9_mirror_L1
      rw [if_pos (Int32.le_refl _), if_pos (Int32.le_refl _)]
  obtain ⟨pa2, p1, p2⟩ := L
  have hV' : VS (miD d) := mir_VS hV d.1
  obtain ⟨ss', np', da', cells', filled', e1, e3, e4⟩ := h.become hV' (pa := pa2) p1 hl
  have e1' : kX9_becomeDraft ss np (nI d.1) (nI d.2.1) da (nI d.1) (nI d.2.1) pa2 cells filled pr = some (ss', np', nI (miD d).1, nI (miD d).2.1, da', cells', filled', 0) := e1
  rw [p2]
  unfold kX9_mirror_L1
  rw [if_pos (Int32.le_refl _), e1', bnd8_e, o_signSum hV' e3, bnd1_e]
  exact ⟨_, _, _, _, _, _, _, _, _, _, _, rfl, e4⟩
theorem o_mirrorNo {ss np dr : Int32} {da cells filled : Nat → Int32} {pr pc po : Int32} {pa : Nat → Int32} : kX9_mirror ss np 0 dr da pc po pa cells filled pr = some (-1000002, ss, np, 0, dr, da, pc, po, pa, cells, filled, pr) := by
  unfold kX9_mirror
  rw [if_pos rfl]
/-! the normalized bracket -/
noncomputable def wD (d : St) : Int := wZ (bt (enD d)) d.1
theorem wrD_wD (d : St) : wrD d = Int32.ofInt (wD d) := sgs_wZ _ _
def sgnZ (w : Int) : Int := if w % 2 = 0 then 1 else -1
def bzD (d : St) (e : Int) : Int := BZ d.1 d.2.1 d.2.2 e
noncomputable def nmD (d : St) (j : Nat) : Int32 := Int32.ofInt (sgnZ (wD d) * bzD d ((j : Int) - 60 + 3 * wD d))
theorem brD_bz {d : St} (hV : VS d) {i : Nat} (hi : i < 121) : brD d i = Int32.ofInt (bzD d ((i : Int) - 60)) := brk_BZ hV hi
theorem wZ_bd (mu : Nat → Bool) : ∀ c : Nat, -(c : Int) ≤ wZ mu c ∧ wZ mu c ≤ c
  | 0 => ⟨Int.le_refl _, Int.le_refl _⟩
  | c + 1 => by
    obtain ⟨h1, h2⟩ := wZ_bd mu c
    have e : wZ mu (c + 1) = wZ mu c + sgZ mu c := rfl
    have : sgZ mu c = 1 ∨ sgZ mu c = -1 := by
      unfold sgZ
      by_cases q : mu (4 * c) = mu (4 * c + 3)
      · exact Or.inl (if_pos q)
      · exact Or.inr (if_neg q)
    omega
theorem wr8 : ∀ k : Nat, k < 17 → Int32.ofInt ((k : Int) - 8) = nI k - 8 := by decide +kernel
theorem wrPar : ∀ k : Nat, k < 17 → (((nI k - 8) &&& 1 : Int32) = 0 ↔ ((k : Int) - 8) % 2 = 0) := by decide +kernel
theorem o_normalized {d : St} {da : Nat → Int32} (hV : VS d) (hA : Rp da d.2.2) {pr : Int32} {coef : Nat → Int32} (h : pr = 0 ∨ ∀ i, i < 121 → coef i = brD d i) {j : Nat} (hj : j < 121) (oe T prod : Nat → Int32) : ∃ pr' oe' T' coef' prod', kX9_normalizedCoefficient (nI j - 60) (nI d.1) (nI d.2.1) da pr oe T coef prod = some (nmD d j, pr', oe', T', coef', prod') ∧ ∀ i, i < 121 → coef' i = brD d i := by
  obtain ⟨pr', oe', T', cf', pd', g1, g2⟩ := o_prep hV hA h oe T prod
  have hc := hV.1
  obtain ⟨w1, w2⟩ := wZ_bd (bt (enD d)) d.1
  obtain ⟨k, hk⟩ : ∃ k : Nat, wD d = (k : Int) - 8 := ⟨(wD d + 8).toNat, by unfold wD; omega⟩
  have k17 : k < 17 := by
    have : wD d ≤ d.1 := w2
    omega
  have ew : wrD d = nI k - 8 := by rw [wrD_wD, hk, wr8 k k17]
  have fin : ∀ t : Int32, ∀ z : Int, t = Int32.ofInt z → (if ((nI k - 8 : Int32) &&& 1) = 0 then some (t, pr', oe', T', cf', pd') else some (-t, pr', oe', T', cf', pd')) = some (Int32.ofInt (sgnZ (wD d) * z), pr', oe', T', cf', pd') := fun t z e => by
    subst e
    by_cases q : ((nI k - 8 : Int32) &&& 1) = 0
    · have q2 := (wrPar k k17).mp q
      rw [if_pos q]
      unfold sgnZ
      rw [hk, if_pos q2, Int.one_mul]
    · have q2 : ¬ ((k : Int) - 8) % 2 = 0 := fun z => q ((wrPar k k17).mpr z)
      rw [if_neg q]
      unfold sgnZ
      rw [hk, if_neg q2, Int.neg_one_mul, Int32.ofInt_neg]
  refine ⟨pr', oe', T', cf', pd', ?_, g2⟩
  unfold kX9_normalizedCoefficient nmD
  rw [q_exIn hj, bnd1_e, if_neg n10, g1, bnd5_e, o_signSum hV hA, bnd1_e, ew, nrmX k k17 j hj]
  rcases (show j + 3 * k < 24 ∨ (∃ n, n < 121 ∧ j + 3 * k = n + 24) ∨ ∃ n, n < 24 ∧ j + 3 * k = n + 145 by
    by_cases a : j + 3 * k < 24
    · exact Or.inl a
    · by_cases b : j + 3 * k < 145
      · exact Or.inr (Or.inl ⟨j + 3 * k - 24, by omega, by omega⟩)
      · exact Or.inr (Or.inr ⟨j + 3 * k - 145, by omega, by omega⟩)) with a | ⟨n, a, b⟩ | ⟨n, a, b⟩
  · rw [q_atLo (nrmLo _ a).1, bnd1_e]
    have f0 : bzD d ((j : Int) - 60 + 3 * wD d) = 0 := BZ_far hV (by omega)
    exact fin 0 _ (by rw [f0]; rfl)
  · rw [b, nrmIn n a, q_at (exIn n a).2.2.1 a, bnd1_e, g2 n a, brD_bz hV a]
    have e : (j : Int) - 60 + 3 * wD d = (n : Int) - 60 := by omega
    rw [e]
    exact fin _ _ rfl
  · rw [b, q_atHi (nrmHi _ a).1, bnd1_e]
    have f0 : bzD d ((j : Int) - 60 + 3 * wD d) = 0 := BZ_far hV (by omega)
    exact fin 0 _ (by rw [f0]; rfl)
