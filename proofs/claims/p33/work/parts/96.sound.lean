/-! ===== sound ===== -/
theorem not_lt1 {a : Nat} (h : 1 ≤ a) (hb : a < 2 ^ 31) : ¬ nI a < 1 := Int32.not_lt.mpr (nI_le (a := 1) h hb)
def SndQ (d : St) (r : Option (Int32 × Int32 × (Nat → Int32) × (Nat → Int32) × (Nat → Int32) × (Nat → Int32) × (Nat → Int32) × (Nat → Int32))) : Prop := ∃ pr' oe' T' coef' prod' cl' ce', r = some (1, pr', oe', T', coef', prod', cl', ce') ∧ (pr' = 0 ∨ ∀ i, i < 121 → coef' i = brD d i)
theorem S_J7 {d : St} {da : Nat → Int32} (hV : VS d) (hp : 0 < d.1 + d.2.1) (hA : Rp da d.2.2) {pr : Int32} {coef : Nat → Int32} (h : pr = 0 ∨ ∀ i, i < 121 → coef i = brD d i) (oe T prod cl ce : Nat → Int32) : SndQ d (kL_sound_J7 (nI d.1) (nI d.2.1) da cl ce (nI d.1) pr oe T coef prod) := by
  have hc := hV.1
  have h4 := cd_high hV (p := 5) (Or.inr (Or.inl rfl))
  have b3 := cd_high hV (p := 3) (Or.inl rfl)
  have b11 := cd_high hV (p := 11) (Or.inr (Or.inr (Or.inr rfl)))
  unfold kL_sound_J7
  obtain ⟨_, pr', oe', T', cf', pd', g1, g2⟩ := o_determinant hV hA h oe T prod
  rw [g1, bnd6_e, if_neg (dt_nonneg hV)]
  obtain ⟨cl1, ce1, e1⟩ := o_colouring hV hA (p := 3) (Or.inl rfl) cl ce
  have e1' : kX9_colouringDimension 3 (nI d.1) (nI d.2.1) da cl ce = some (nI (cdD d 3), cl1, ce1) := e1
  obtain ⟨cl2, ce2, e2⟩ := o_colouring hV hA (p := 11) (Or.inr (Or.inr (Or.inr rfl))) cl1 ce1
  have e2' : kX9_colouringDimension 11 (nI d.1) (nI d.2.1) da cl1 ce1 = some (nI (cdD d 11), cl2, ce2) := e2
  obtain ⟨cl3, ce3, e3⟩ := o_colouring hV hA (p := 5) (Or.inr (Or.inl rfl)) cl2 ce2
  have e3' : kX9_colouringDimension 5 (nI d.1) (nI d.2.1) da cl2 ce2 = some (nI (cdD d 5), cl3, ce3) := e3
  have e4 : (nI d.1 + 4 : Int32) = nI (d.1 + 4) := by rw [fa_lit 4, nI_add]
  rw [e1', bnd3_e, if_neg (not_lt1 (cd_low hV hp (Or.inl rfl)) (by omega)), e2', bnd3_e, if_neg (not_lt1 (cd_low hV hp (Or.inr (Or.inr (Or.inr rfl)))) (by omega)), e3', bnd3_e, e4, if_neg (Int32.not_lt.mpr (nI_le h4 (by omega)))]
  exact ⟨_, _, _, _, _, _, _, rfl, Or.inr g2⟩
theorem lo_hi {d : St} (hV : VS d) (h : loD d ≠ -1000009) : hiD d ≠ -1000009 ∧ ¬ hiD d < loD d ∧ (∃ j, j < 121 ∧ loD d = nI j - 60 ∧ brD d j ≠ 0) ∧ ∃ j, j < 121 ∧ hiD d = nI j - 60 ∧ brD d j ≠ 0 := by
  rcases lo_cases hV with ⟨e0, l1, l2, l3, l4, j, j1, j2, j3, j4, j5⟩ | ⟨z1, z2, z3⟩
  · rcases hi_cases hV with ⟨h0, m1, m2, m3, m4, k, k1, k2, k3, k4, k5⟩ | ⟨z1, z2, z3⟩
    · refine ⟨by rw [k3]; exact nI60ne k k1, ?_, ⟨j, j1, j3, j4⟩, k, k1, k3, k4⟩
      rw [l4, m4, fa_lt, fb_ofI (by omega) (by omega), fb_ofI (by omega) (by omega)]
      by_cases q : h0 < e0
      · exact absurd (l1.2 _ q) m1.1
      · omega
    · exact absurd (z1 e0) l1.1
  · exact absurd z2 h
theorem lo_none {d : St} (hV : VS d) (h : loD d = -1000009) : hiD d = -1000009 := by
  rcases lo_cases hV with ⟨e0, l1, l2, l3, l4, j, j1, j2, j3, j4, j5⟩ | ⟨z1, z2, z3⟩
  · exact absurd (j3.symm.trans h) (nI60ne j j1)
  · rcases hi_cases hV with ⟨h0, m1, _⟩ | ⟨_, y2, _⟩
    · exact absurd (z1 h0) m1.1
    · exact y2
theorem S_J4 {d : St} {da : Nat → Int32} (hV : VS d) (hp : 0 < d.1 + d.2.1) (hA : Rp da d.2.2) {pr : Int32} {coef : Nat → Int32} (h : pr = 0 ∨ ∀ i, i < 121 → coef i = brD d i) (oe T prod cl ce : Nat → Int32) : SndQ d (kL_sound_J4 pr oe T coef prod cl ce (nI d.1) da (wrD d) (hiD d) (if loD d = -1000009 then 1 else 0) (loD d) (nI d.2.1) (nI d.1) 1) := by
  unfold kL_sound_J4
  rw [if_neg n10, o_writhe hV hA, bnd1_e, if_pos rfl]
  by_cases q : loD d = -1000009
  · rw [if_pos q, if_pos (lo_none hV q)]
    unfold kL_sound_J6
    rw [if_pos rfl, if_neg n10]
    exact S_J7 hV hp hA h oe T prod cl ce
  · obtain ⟨q1, q2, ⟨j, j1, j2, j3⟩, k, k1, k2, k3⟩ := lo_hi hV q
    rw [if_neg q, if_neg q1]
    unfold kL_sound_J6
    obtain ⟨pr', oe', T', cf', pd', g1, g2⟩ := o_coefficient hV hA h j1 oe T prod
    obtain ⟨pr2, oe2, T2, cf2, pd2, g3, g4⟩ := o_coefficient hV hA (Or.inr g2) k1 oe' T' pd' (pr := pr')
    rw [if_pos rfl, if_pos rfl, if_neg q2, j2, g1, bnd6_e, if_neg j3, k2, g3, bnd6_e, if_neg k3]
    exact S_J7 hV hp hA (Or.inr g4) oe2 T2 pd2 cl ce
theorem S_J3 {d : St} {da : Nat → Int32} (hV : VS d) (hp : 0 < d.1 + d.2.1) (hA : Rp da d.2.2) {pr : Int32} {coef : Nat → Int32} (h : pr = 0 ∨ ∀ i, i < 121 → coef i = brD d i) (oe T prod cl ce : Nat → Int32) : SndQ d (kL_sound_J3 (nI d.1) (nI d.2.1) da pr oe T coef prod cl ce (wrD d) (hiD d) (loD d) (nI d.1) (nI (gnD d)) (if loD d = -1000009 then 1 else 0)) := by
  obtain ⟨c1, c2, c3⟩ := cm_low hV hp
  obtain ⟨g1, g2⟩ := gnD_eq hV
  have e1 : (2 * nI (gnD d) : Int32) = nI (2 * gnD d) := by rw [fa_lit 2, pk_mul]
  have e2 : (nI d.1 + 2 * nI (ptD d) - nI (fcD d) : Int32) = nI (2 * gnD d) := by
    rw [fa_lit 2, pk_mul, nI_add, g1, ← nI_add, Int32.add_comm, Int32.add_sub_cancel]
  unfold kL_sound_J3
  rw [o_components hV hA, bnd1_e, if_neg (not_lt1 (by omega) (by omega)), o_parts hV hA, bnd1_e, if_neg (not_lt1 c1 (by omega)), bnd1_e, bnd1_e, if_neg (Int32.not_lt.mpr (nI_le c2 (by omega))), if_neg (nI_pos (by omega)), bnd1_e, o_faces hV hA, bnd1_e, e1, e2, if_pos rfl]
  exact S_J4 hV hp hA h oe T prod cl ce
theorem two_minus {a b : Nat} (h1 : a ≤ b + 1) (h2 : b ≤ a + 1) : ¬ (1 : Int32) < nI a - nI b ∧ ¬ nI a - nI b < -1 ∧ (nI a - nI b = 0 → a = b) := by
  rcases (show a = b ∨ a = b + 1 ∨ b = a + 1 by omega) with q | q | q
  · subst q
    rw [Int32.sub_self]
    exact ⟨by decide, by decide, fun _ => rfl⟩
  · subst q
    have e : (nI (b + 1) - nI b : Int32) = 1 := by rw [← nI_1, Int32.add_comm, Int32.add_sub_cancel]
    rw [e]
    exact ⟨by decide, by decide, fun z => absurd z (by decide)⟩
  · subst q
    have e : (nI a - nI (a + 1) : Int32) = -1 := by
      rw [← nI_1, ← Int32.sub_sub, Int32.sub_self]; rfl
    rw [e]
    exact ⟨by decide, by decide, fun z => absurd z (by decide)⟩
theorem S_L2 {d : St} {da : Nat → Int32} (hV : VS d) (hp : 0 < d.1 + d.2.1) (hA : Rp da d.2.2) {pr : Int32} {coef : Nat → Int32} (h : pr = 0 ∨ ∀ i, i < 121 → coef i = brD d i) (oe T prod cl ce : Nat → Int32) : SndQ d (it2 (kL_sound_L2 (nI d.1) (nI d.1) (nI d.2.1) da pr T coef prod cl ce (wrD d) (nI (gnD d))) 400 0 oe) := by
  have hc := hV.1
  have h2 := two_le hc
  obtain ⟨g1, g2⟩ := gnD_eq hV
  obtain ⟨s, hs, hs1⟩ : ∃ s, (s = if d.1 ≤ 4 then 1 else 3) ∧ 1 ≤ s := ⟨if d.1 ≤ 4 then 1 else 3, rfl, by by_cases q : d.1 ≤ 4; rw [if_pos q]; omega; rw [if_neg q]; omega⟩
  refine it2_way (F := kL_sound_L2 (nI d.1) (nI d.1) (nI d.2.1) da pr T coef prod cl ce (wrD d) (nI (gnD d))) (x1 := 0) (x2 := oe) (n := 400) (fun i x y => x = nI (s * i)) (SndQ d) 256 (fun K i x y hi hI => ?_) rfl (by omega)
  subst hI
  have s3 : s ≤ 3 := by
    by_cases q : d.1 ≤ 4
    · rw [hs, if_pos q]; omega
    · rw [hs, if_neg q]; omega
  have sb : s * i ≤ 3 * 256 := Nat.mul_le_mul s3 hi
  unfold kL_sound_L2
  rw [shlOne _ hc]
  by_cases q : 2 ^ d.1 ≤ s * i
  · left
    rw [if_pos (nI_le q (by omega))]
    obtain ⟨pr', oe', T', cf', pd', e1, e2⟩ := o_lowest hV hA h y T prod
    obtain ⟨pr2, oe2, T2, cf2, pd2, e3, e4⟩ := o_highest hV hA (Or.inr e2) oe' T' pd' (pr := pr')
    rw [e1, bnd6_e, e3, bnd6_e]
    have r := S_J3 hV hp hA (Or.inr e4) oe2 T2 pd2 cl ce (pr := pr2)
    by_cases w : loD d = -1000009
    · rw [if_pos w] at r ⊢; exact r
    · rw [if_neg w] at r ⊢; exact r
  · right
    have lt : s * i < 2 ^ d.1 := by omega
    have ib : i < 256 := by
      have : i * 1 ≤ i * s := Nat.mul_le_mul_left i hs1
      rw [Nat.mul_comm i s] at this
      omega
    refine ⟨ib, ?_⟩
    rw [if_neg (nI_ge lt (by omega))]
    obtain ⟨oe1, e1⟩ := o_stateLoops hV hA lt y
    rw [e1, bnd2_e]
    have R : ∃ oe', it2 (kL_sound_L9 (nI d.1) K (nI (s * i)) (nI d.1) (nI d.2.1) da (nI (Lo d.1 d.2.1 d.2.2 (s * i))) pr T coef prod cl ce (nI (gnD d))) 400 0 oe1 = K (nI (s * (i + 1))) oe' := by
      refine it2_inv (F := kL_sound_L9 (nI d.1) K (nI (s * i)) (nI d.1) (nI d.2.1) da (nI (Lo d.1 d.2.1 d.2.2 (s * i))) pr T coef prod cl ce (nI (gnD d))) (x1 := 0) (x2 := oe1) (n := 400) (fun j x _ => x = nI j) (fun r => ∃ oe', r = K (nI (s * (i + 1))) oe') d.1 (fun K9 j x z hj hI => ?_) (fun K9 x z hI => ?_) rfl (by omega)
      · subst hI
        have fl := flip_lt lt hj
        have ex : (nI (s * i) ^^^ nI (2 ^ j) : Int32) = nI (s * i ^^^ 2 ^ j) := fb_xorI _ _
        obtain ⟨oe2, e2⟩ := o_stateLoops hV hA fl z
        obtain ⟨b1, b2⟩ := loops_by hV (st := s * i) hj
        obtain ⟨t1, t2, t3⟩ := two_minus (a := Lo d.1 d.2.1 d.2.2 (s * i)) (b := Lo d.1 d.2.1 d.2.2 (s * i ^^^ 2 ^ j)) (by unfold Lo; omega) (by unfold Lo; omega)
        unfold kL_sound_L9
        rw [if_neg (nI_ge hj (by omega)), shlOne j (by omega), ex, e2, bnd2_e, if_neg t1, if_neg t2, nI_1]
        by_cases g0 : gnD d = 0
        · rw [g0, if_pos (show nI 0 = 0 from rfl)]
          have np := loops_planar hV (gn_planar hV g0) (st := s * i) hj
          rw [if_neg (fun zz => by have := t3 zz; unfold Lo at this; omega)]
          exact ⟨_, _, rfl, rfl⟩
        · rw [if_neg (nI_ne0 (by omega) (by omega))]
          exact ⟨_, _, rfl, rfl⟩
      · subst hI
        unfold kL_sound_L9
        rw [if_pos (Int32.le_refl _)]
        by_cases q4 : d.1 ≤ 4
        · rw [if_pos (show nI d.1 ≤ 4 from nI_le (b := 4) q4 (by omega))]
          rw [if_pos q4] at hs
          subst hs
          refine ⟨z, ?_⟩
          rw [nI_1, Nat.mul_succ]
        · rw [if_neg (show ¬ nI d.1 ≤ 4 from nI_ge (a := 4) (by omega) (by omega))]
          rw [if_neg q4] at hs
          subst hs
          refine ⟨z, ?_⟩
          have e3 : (nI (3 * i) + 3 : Int32) = nI (3 * (i + 1)) := by rw [fa_lit 3, nI_add, Nat.mul_succ]
          rw [e3]
    obtain ⟨oe', e⟩ := R
    exact ⟨_, oe', e, rfl⟩
theorem two_same {d : St} (hV : VS d) {e : Nat} (he : e < 4 * d.1) : fb_ct (fun k => d.2.2 k == d.2.2 e) (4 * d.1) = 2 := by
  obtain ⟨t, t1, t2, t3, t4⟩ := hV.2.2.2.2 e he
  rw [cc_one_out (q := fun k => d.2.2 k == d.2.2 e && !(k == e)) he (by simp) (fun x _ => by simp), cc_one_out (q := fun k => (d.2.2 k == d.2.2 e && !(k == e)) && !(k == t)) t1 (by simp [t3, t2]) (fun x _ => by simp)]
  have z : fb_ct (fun k => (d.2.2 k == d.2.2 e && !(k == e)) && !(k == t)) (4 * d.1) = 0 := fb_ct_zero.mpr (fun k hk => by
    by_cases q : d.2.2 k = d.2.2 e
    · rcases t4 k hk q with r | r
      · simp [r]
      · simp [r]
    · simp [q])
  rw [z]
theorem S_L11 {d : St} {da : Nat → Int32} (hV : VS d) (hA : Rp da d.2.2) (pr : Int32) (oe T coef prod cl ce : Nat → Int32) {v : Nat} (hv : v < d.1) (K : Int32 → Int32 → Option (Int32 × Int32 × (Nat → Int32) × (Nat → Int32) × (Nat → Int32) × (Nat → Int32) × (Nat → Int32) × (Nat → Int32))) (a b : Int32) : it1 (kL_sound_L11 K a b (nI v) (nI d.1) pr oe T coef prod cl ce (nI d.1) da) 400 0 = K (a + b) (nI (v + 1)) := by
  have hc := hV.1
  refine it1_inv (F := kL_sound_L11 K a b (nI v) (nI d.1) pr oe T coef prod cl ce (nI d.1) da) (x1 := 0) (n := 400) (fun i x => x = nI i) (fun r => r = K (a + b) (nI (v + 1))) 4 (fun K1 i x hi hI => ?_) (fun K1 x hI => ?_) rfl (by omega)
  · subst hI
    have fb := hV.2.2.2.1 (4 * v + i) (by omega)
    refine ⟨nI (i + 1), ?_, rfl⟩
    unfold kL_sound_L11
    rw [if_neg (show ¬ 4 ≤ nI i from nI_ge (b := 4) hi (by omega))]
    have e4 : (4 * nI d.1 : Int32) = nI (4 * d.1) := by rw [fa_lit 4, pk_mul]
    refine it2_inv (F := kL_sound_L12 (nI d.1) K1 (nI i) pr oe T coef prod cl ce (nI d.1) da (nI v)) (x1 := 0) (x2 := 0) (n := 400) (fun j x y => x = nI (fb_ct (fun k => d.2.2 k == d.2.2 (4 * v + i)) j) ∧ y = nI j) (fun r => r = K1 (nI (i + 1))) (4 * d.1) (fun K2 j x y hj hI => ?_) (fun K2 x y hI => ?_) ⟨rfl, rfl⟩ (by omega)
    · obtain ⟨rfl, rfl⟩ := hI
      have e1 : (nI j / 4 : Int32) = nI (j / 4) := by rw [fa_lit 4, pk_div (by omega) (by omega) (by omega)]
      have e2 : irem (nI j) 4 = nI (j % 4) := by rw [fa_lit 4, irem_nI (by omega) (by omega) (by omega)]
      have gb := hV.2.2.2.1 j hj
      unfold kL_sound_L12 kL_sound_J13
      rw [e4, if_neg (nI_ge hj (by omega)), e1, e2, o_arcAt hV hA (by omega) (by omega), bnd1_e, o_arcAt hV hA hv hi, bnd1_e, show 4 * (j / 4) + j % 4 = j by omega, nI_1]
      by_cases q : d.2.2 j = d.2.2 (4 * v + i)
      · rw [if_pos (by rw [q]), nI_1]
        refine ⟨_, _, rfl, ?_, rfl⟩
        rw [fb_ct_succ, if_pos (by simp [q])]
      · rw [if_neg (fun z => q ((nI_eq (by omega) (by omega)).mp z))]
        refine ⟨_, _, rfl, ?_, nI_1 _⟩
        rw [fb_ct_succ, if_neg (by simp [q]), Nat.add_zero, Int32.add_zero]
    · obtain ⟨rfl, rfl⟩ := hI
      unfold kL_sound_L12
      rw [e4, if_pos (Int32.le_refl _), two_same hV (by omega), if_pos (show nI 2 = 2 from rfl), nI_1]
  · subst hI
    unfold kL_sound_L11
    rw [if_pos (show (4 : Int32) ≤ nI 4 from Int32.le_refl _), nI_1]
theorem L_sound0 {d : St} {da : Nat → Int32} (hV : VS d) (hp : 0 < d.1 + d.2.1) (hA : Rp da d.2.2) {pr : Int32} {coef : Nat → Int32} (h : pr = 0 ∨ ∀ i, i < 121 → coef i = brD d i) (oe T prod cl ce : Nat → Int32) : SndQ d (kL_sound (nI d.1) (nI d.2.1) da pr oe T coef prod cl ce) := by
  have hc := hV.1
  unfold kL_sound kX9_crossingCount
  rw [bnd1_e, o_genus hV hA, bnd1_e]
  refine it2_inv (F := kL_sound_L1 (nI d.1) (nI d.1) (nI d.2.1) da pr T coef prod cl ce (nI (gnD d)) oe) (x1 := 0) (x2 := 0) (n := 400) (fun i x y => x = sgs (enD d) i ∧ y = nI i) (SndQ d) d.1 (fun K i x y hi hI => ?_) (fun K x y hI => ?_) ⟨rfl, rfl⟩ (by omega)
  · obtain ⟨rfl, rfl⟩ := hI
    refine ⟨sgs (enD d) i + sgD d i, nI (i + 1), ?_, rfl, rfl⟩
    have J : ∀ r : Int32, (∃ k, r = nI k ∧ k < d.1 ∧ k ≠ i) ∨ r = -1000009 → kL_sound_J10 r (nI i) pr oe T coef prod cl ce (nI d.1) (nI d.1) da K (sgs (enD d) i) (sgD d i) = K (sgs (enD d) i + sgD d i) (nI (i + 1)) := fun r hr => by
      have r1 : r ≠ nI i := by
        rcases hr with ⟨k, rfl, k1, k2⟩ | rfl
        · exact fun z => k2 ((nI_eq (by omega) (by omega)).mp z)
        · intro z
          have : ¬ nI i < 0 := nI_pos (by omega)
          rw [← z] at this
          exact this (by decide)
      have r2 : ¬ nI d.1 ≤ r := by
        rcases hr with ⟨k, rfl, k1, k2⟩ | rfl
        · exact nI_ge k1 (by omega)
        · intro z
          have : (0 : Int32) ≤ nI d.1 := nI_pos' (by omega)
          exact absurd (Int32.le_trans this z) (by decide)
      unfold kL_sound_J10
      rw [if_neg r1, if_neg r2]
      rcases o_isKink hV hA hi with ⟨_, e⟩ | ⟨_, e⟩
      · rw [e, bnd1_e, if_neg (by decide), bnd1_e, if_pos (by decide)]
        exact S_L11 hV hA pr oe T coef prod cl ce hi K _ _
      · rw [e, bnd1_e, if_neg (by decide), bnd1_e, if_pos (by decide)]
        exact S_L11 hV hA pr oe T coef prod cl ce hi K _ _
    have sg : sgD d i = 1 ∨ sgD d i = -1 := by
      unfold sgD sgn
      by_cases q : bt (enD d) (4 * i) = bt (enD d) (4 * i + 3)
      · exact Or.inl (if_pos q)
      · exact Or.inr (if_neg q)
    have fin : ∀ r : Int32, (∃ k, r = nI k ∧ k < d.1 ∧ k ≠ i) ∨ r = -1000009 → kX9_bigonPartner (nI i) (nI d.1) da = some r → kL_sound_L1 (nI d.1) (nI d.1) (nI d.2.1) da pr T coef prod cl ce (nI (gnD d)) oe K (sgs (enD d) i) (nI i) = K (sgs (enD d) i + sgD d i) (nI (i + 1)) := fun r hr er => by
      unfold kL_sound_L1
      rw [if_neg (nI_ge hi (by omega)), o_crossingSign hV hA hi, bnd1_e, er, bnd1_e]
      rcases sg with s1 | s1
      · rw [if_pos s1]; exact J r hr
      · rw [if_neg (by rw [s1]; decide), if_pos s1]; exact J r hr
    rcases o_bigonPartner hV hA hi with ⟨k, k1, k2, k3⟩ | ⟨k1, k2⟩
    · exact fin _ (Or.inl ⟨k, rfl, k1, k2.1⟩) k3
    · exact fin _ (Or.inr rfl) k2
  · obtain ⟨rfl, rfl⟩ := hI
    unfold kL_sound_L1
    rw [if_pos (Int32.le_refl _)]
    exact S_L2 hV hp hA h oe T prod cl ce
theorem L_sound {ss np dc dr : Int32} {da cells filled : Nat → Int32} {pr : Int32} {coef : Nat → Int32} {d : St} {hs : List St} {kd : Nat → Option St} (h : CS ss np dc dr da cells filled pr coef d hs kd) (hp : 0 < d.1 + d.2.1) (oe T prod cl ce : Nat → Int32) : ∃ pr' oe' T' coef' prod' cl' ce', kL_sound dc dr da pr oe T coef prod cl ce = some (1, pr', oe', T', coef', prod', cl', ce') ∧ CS ss np dc dr da cells filled pr' coef' d hs kd := by
  have h' := h
  obtain ⟨hV, rfl, rfl, hA, hc, _⟩ := h'
  obtain ⟨pr', oe', T', cf', pd', cl', ce', e1, e2⟩ := L_sound0 hV hp hA hc oe T prod cl ce
  exact ⟨_, _, _, _, _, _, _, e1, h.coef e2⟩
