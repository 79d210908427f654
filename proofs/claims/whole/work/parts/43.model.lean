/-! ===== the reference's rows: a row of cells holds c crossings, o circles, the arcs f ===== -/
def Mr (now : Nat → Int32) (c o : Nat) (f : Nat → Nat) : Prop := now 0 = nI c ∧ now 1 = nI o ∧ ∀ e, e < 32 → now (2 + e) = nI (f e)
/-- a diagram: c crossings, o circles, arcs f, each at two ends -/
def Vd (c o : Nat) (f : Nat → Nat) : Prop := c ≤ 8 ∧ o ≤ 4 ∧ (∀ e, 4 * c ≤ e → f e = 0) ∧ (∀ e, e < 4 * c → 1 ≤ f e ∧ f e ≤ 16) ∧ ∀ e, e < 4 * c → ∃ t, Oth c f e t
theorem Vd.le16 {c o : Nat} {f : Nat → Nat} (h : Vd c o f) (e : Nat) : f e ≤ 16 := by
  rcases Nat.lt_or_ge e (4 * c) with q | q
  · exact (h.2.2.2.1 e q).2
  · rw [h.2.2.1 e q]; exact Nat.zero_le _
theorem cl0 : (0 : Int32).toNatClampNeg = 0 := by decide
theorem cl1 : (1 : Int32).toNatClampNeg = 1 := by decide
theorem m_crossings {now : Nat → Int32} {c o : Nat} {f : Nat → Nat} (h : Mr now c o f) : kX10_crossings now = some (nI c) := by
  unfold kX10_crossings
  rw [ck_i (x := 0) (i := 0) rfl (by omega) (by omega), cl0, h.1]
theorem m_ends {now : Nat → Int32} {c o : Nat} {f : Nat → Nat} (h : Mr now c o f) : kX10_ends now = some (nI (4 * c)) := by
  unfold kX10_ends
  rw [ck_i (x := 0) (i := 0) rfl (by omega) (by omega), cl0, h.1]
  simp (disch := omega) only [fa_lit, irem_nI, pk_div, nI_add, pk_mul, nI_ltI, nI_leI, nI_eq, nI_clamp, ck_nI, bnd0_e, bnd1_e, bnd2_e, bnd3_e, bnd4_e, if_pos, if_neg, reduceIte]
theorem m_arc {now : Nat → Int32} {c o : Nat} {f : Nat → Nat} (h : Mr now c o f) {e : Nat} (he : e < 32) : kX10_arc (nI e) now = some (nI (f e)) := by
  unfold kX10_arc
  simp (disch := omega) only [h.2.2 e he, fa_lit, irem_nI, pk_div, nI_add, pk_mul, nI_ltI, nI_leI, nI_eq, nI_clamp, ck_nI, bnd0_e, bnd1_e, bnd2_e, bnd3_e, bnd4_e, if_pos, if_neg, reduceIte]
theorem m_turn {e k : Nat} (he : e < 1000) (hk : k < 1000) : kX10_turn (nI e) (nI k) = some (nI (e / 4 * 4 + (e + k) % 4)) := by
  unfold kX10_turn
  simp (disch := omega) only [fa_lit, irem_nI, pk_div, nI_add, pk_mul, nI_ltI, nI_leI, nI_eq, nI_clamp, ck_nI, bnd0_e, bnd1_e, bnd2_e, bnd3_e, bnd4_e, if_pos, if_neg, reduceIte]
theorem m_other {now : Nat → Int32} {c o : Nat} {f : Nat → Nat} (h : Mr now c o f) (hb : ∀ e, f e ≤ 16) (hc : c ≤ 8) {e t : Nat} (he : e < 4 * c) (ho : Oth c f e t) : kX10_other (nI e) now = some (nI t) := by
  obtain ⟨h1, h2, h3, h4⟩ := ho
  unfold kX10_other
  refine it2_run (fun i => nI (if t < i then t else e)) (fun i => nI i) (4 * c) (fun K i hi => ?_) (fun K => ?_) (by rw [if_neg (by omega)]) rfl (by omega)
  · have b1 := hb i
    have b2 := hb e
    unfold kX10_other_L1 kX10_other_J2
    by_cases q : i = e
    · have e1 : (if t < i + 1 then t else e) = if t < i then t else e := by
        by_cases z : t < i
        · rw [if_pos z, if_pos (by omega)]
        · rw [if_neg z, if_neg (by omega)]
      simp only [e1]
      subst q
      simp (disch := omega) only [m_ends h, bnd1_e, nI_leI, nI_eq, if_neg, reduceIte]
      simp (disch := omega) only [fa_lit, irem_nI, pk_div, nI_add, pk_mul, nI_ltI, nI_leI, nI_eq, nI_clamp, ck_nI, bnd0_e, bnd1_e, bnd2_e, bnd3_e, bnd4_e, if_pos, if_neg, reduceIte]
    · by_cases q2 : i = t
      · subst q2
        have e1 : (if i < i + 1 then i else e) = i := if_pos (by omega)
        simp only [e1]
        simp (disch := omega) only [m_ends h, m_arc h, fa_lit, irem_nI, pk_div, nI_add, pk_mul, nI_ltI, nI_leI, nI_eq, nI_clamp, ck_nI, bnd0_e, bnd1_e, bnd2_e, bnd3_e, bnd4_e, if_pos, if_neg, reduceIte]
      · have ne : f i ≠ f e := fun z => by rcases h4 i hi z with r | r <;> omega
        have e1 : (if t < i + 1 then t else e) = if t < i then t else e := by
          by_cases z : t < i
          · rw [if_pos z, if_pos (by omega)]
          · rw [if_neg z, if_neg (by omega)]
        simp only [e1]
        have e2 : (nI i = nI e) ↔ False := by rw [nI_eq (by omega) (by omega)]; exact ⟨q, False.elim⟩
        have e3 : (nI (f i) = nI (f e)) ↔ False := by rw [nI_eq (by omega) (by omega)]; exact ⟨ne, False.elim⟩
        have e4 : (nI (4 * c) ≤ nI i) ↔ False := by rw [nI_leI (by omega) (by omega)]; exact ⟨fun z => by omega, False.elim⟩
        simp (disch := omega) only [m_ends h, m_arc h, bnd1_e, e2, e3, e4, reduceIte, nI_1]
  · unfold kX10_other_L1
    simp (disch := omega) only [m_ends h, bnd1_e]
    rw [if_pos (nI_le (Nat.le_refl _) (by omega)), if_pos h1]
theorem m_in {x l m : Int32} (h1 : l ≤ x) (h2 : x ≤ m) : kX10_in x l m = some 1 := by
  unfold kX10_in
  rw [if_neg (fun z => (fa_of_lt z).2.1 h1), if_neg (fun z => (fa_of_lt z).2.1 h2)]
theorem m_inLo {x l m : Int32} (h1 : x < l) : kX10_in x l m = some 0 := by
  unfold kX10_in kX10_in_J1
  rw [if_pos h1]
theorem m_inHi {x l m : Int32} (h1 : m < x) : kX10_in x l m = some 0 := by
  unfold kX10_in kX10_in_J1
  by_cases q : x < l
  · rw [if_pos q]
  · rw [if_neg q, if_pos h1]
theorem m_isIn {now : Nat → Int32} {c o : Nat} {f : Nat → Nat} (h : Mr now c o f) (hc : c ≤ 8) {j : Nat} (hj : j < c) : kX10_isCrossing (nI j) now = some 1 := by
  unfold kX10_isCrossing
  have e : nI c - 1 = nI (c - 1) := pk_sub (b := 1) (by omega)
  rw [m_crossings h, bnd1_e, e, m_in (nI_pos' (by omega)) (nI_le (by omega) (by omega)), bnd1_e, zr_1]
theorem m_isNeg {now : Nat → Int32} {c o : Nat} {f : Nat → Nat} (h : Mr now c o f) {v : Int32} (hv : v < 0) : kX10_isCrossing v now = some 0 := by
  unfold kX10_isCrossing
  rw [m_crossings h, bnd1_e, m_inLo hv, bnd1_e, zr_0]
theorem m_isBig {now : Nat → Int32} {c o : Nat} {f : Nat → Nat} (h : Mr now c o f) (hc : c ≤ 8) {v : Int32} (hv : nI c ≤ v) : kX10_isCrossing v now = some 0 := by
  have e : nI c - 1 < v := by
    rw [fa_lt]
    rw [fa_le, nI_toInt (by omega)] at hv
    show (nI c - nI 1).toInt < _
    rw [pk_sub_toInt (by omega) (by omega)]
    omega
  unfold kX10_isCrossing
  rw [m_crossings h, bnd1_e, m_inHi e, bnd1_e, zr_0]
/-! the labels -/
def Lr (lab : Nat → Int32) (l : Nat → Nat) : Prop := ∀ j, j < 17 → lab j = nI (l j)
theorem m_begin (lab : Nat → Int32) : ∃ lab', kX10_beginClasses lab = some lab' ∧ Lr lab' (fun n => n) := by
  refine ⟨fa_fill (fun j => nI j) lab 17, ?_, fun j hj => fa_fill_in hj⟩
  unfold kX10_beginClasses
  refine it2_run (fun i => nI i) (fun i => fa_fill (fun j => nI j) lab i) 17 (fun K i hi => ?_) (fun K => ?_) rfl (fa_fill_0 _ _).symm (by omega)
  · unfold kX10_beginClasses_L1
    rw [← fa_fill_succ (fun j => nI j) lab i]
    simp (disch := omega) only [fa_lit, irem_nI, pk_div, nI_add, pk_mul, nI_ltI, nI_leI, nI_eq, nI_clamp, ck_nI, bnd0_e, bnd1_e, bnd2_e, bnd3_e, bnd4_e, if_pos, if_neg, reduceIte]
  · unfold kX10_beginClasses_L1
    rw [if_pos (by decide)]
theorem m_uniteJ {lab : Nat → Int32} {l : Nat → Nat} (hl : Lr lab l) (hle : ∀ n, l n ≤ n) (h0 : ∀ n, 1 ≤ n → 1 ≤ l n) {a b m : Nat} (ha : 1 ≤ a ∧ a ≤ 16) (hb : 1 ≤ b ∧ b ≤ 16) (hm : m = min (l a) (l b)) : ∃ lab', kX10_unite_J1 lab (nI a) (nI b) (nI m) = some lab' ∧ Lr lab' (lbU l a b) := by
  have la := hle a
  have lb := hle b
  have la0 := h0 a ha.1
  have lb0 := h0 b hb.1
  let g : Nat → Int32 := fun j => if j = 0 then lab 0 else nI (lbU l a b j)
  have gs : ∀ j, 1 ≤ j → g j = nI (lbU l a b j) := fun j hj => if_neg (by omega)
  refine ⟨fa_fill g lab 17, ?_, fun j hj => ?_⟩
  · unfold kX10_unite_J1
    refine it2_run (fun i => nI (1 + i)) (fun i => fa_fill g lab (1 + i)) 16 (fun K i hi => ?_) (fun K => ?_) rfl (fill_eq (fun j hj => by rw [show j = 0 by omega]; exact if_pos rfl)).symm (by omega)
    · have e1 : fa_fill g lab (1 + i) (1 + i) = nI (l (1 + i)) := by rw [fa_fill_out (Nat.le_refl _)]; exact hl _ (by omega)
      have li := hle (1 + i)
      have ea := hl a (by omega)
      have eb := hl b (by omega)
      have e4 := fa_fill_succ g lab (1 + i)
      rw [gs (1 + i) (by omega)] at e4
      have e5 : 1 + (i + 1) = 1 + i + 1 := by omega
      rw [e5, ← e4]
      unfold kX10_unite_L2 kX10_unite_J3
      by_cases q1 : l (1 + i) = l a
      · have e2 : lbU l a b (1 + i) = m := by unfold lbU; rw [if_pos (Or.inl q1), hm]
        rw [e2]
        simp (disch := omega) only [e1, ea, eb, fa_lit, irem_nI, pk_div, nI_add, pk_mul, nI_ltI, nI_leI, nI_eq, nI_clamp, ck_nI, bnd0_e, bnd1_e, bnd2_e, bnd3_e, bnd4_e, if_pos, if_neg, reduceIte]
      · by_cases q2 : l (1 + i) = l b
        · have e2 : lbU l a b (1 + i) = m := by unfold lbU; rw [if_pos (Or.inr q2), hm]
          rw [e2]
          simp (disch := omega) only [e1, ea, eb, fa_lit, irem_nI, pk_div, nI_add, pk_mul, nI_ltI, nI_leI, nI_eq, nI_clamp, ck_nI, bnd0_e, bnd1_e, bnd2_e, bnd3_e, bnd4_e, if_pos, if_neg, reduceIte]
        · have e2 : lbU l a b (1 + i) = l (1 + i) := by unfold lbU; rw [if_neg (fun z => z.elim q1 q2)]
          rw [e2]
          simp (disch := omega) only [e1, ea, eb, fa_lit, irem_nI, pk_div, nI_add, pk_mul, nI_ltI, nI_leI, nI_eq, nI_clamp, ck_nI, bnd0_e, bnd1_e, bnd2_e, bnd3_e, bnd4_e, if_pos, if_neg, reduceIte]
    · unfold kX10_unite_L2
      rw [if_pos (by decide)]
  · rw [fa_fill_in hj]
    by_cases z : j = 0
    · subst z
      have e0 : l 0 = 0 := by have := hle 0; omega
      show (if (0 : Nat) = 0 then lab 0 else _) = _
      rw [if_pos rfl, hl 0 (by omega), e0]
      unfold lbU
      rw [e0, if_neg (by omega)]
    · exact gs j (by omega)
theorem m_unite {now lab : Nat → Int32} {c o : Nat} {f l : Nat → Nat} (h : Mr now c o f) (hl : Lr lab l) (hle : ∀ n, l n ≤ n) (h0 : ∀ n, 1 ≤ n → 1 ≤ l n) {e k : Nat} (he : e < 32) (hk : k < 32) (fe : 1 ≤ f e ∧ f e ≤ 16) (fk : 1 ≤ f k ∧ f k ≤ 16) : ∃ lab', kX10_unite (nI e) (nI k) now lab = some lab' ∧ Lr lab' (lbU l (f e) (f k)) := by
  have la := hle (f e)
  have lb := hle (f k)
  have ea := hl (f e) (by omega)
  have eb := hl (f k) (by omega)
  unfold kX10_unite
  simp (disch := omega) only [m_arc h, bnd1_e, ck_nI, nI_clamp, ea, eb, nI_leI]
  by_cases q : l (f k) ≤ l (f e)
  · rw [if_pos q]
    exact m_uniteJ hl hle h0 fe fk (by omega)
  · rw [if_neg q]
    exact m_uniteJ hl hle h0 fe fk (by omega)
theorem lbU_pos {l : Nat → Nat} (h0 : ∀ n, 1 ≤ n → 1 ≤ l n) {a b : Nat} (ha : 1 ≤ a) (hb : 1 ≤ b) : ∀ n, 1 ≤ n → 1 ≤ lbU l a b n := fun n hn => by
  have h1 := h0 n hn
  have h2 := h0 a ha
  have h3 := h0 b hb
  unfold lbU
  by_cases q : l n = l a ∨ l n = l b
  · rw [if_pos q]; omega
  · rw [if_neg q]; exact h1
theorem m_occurs {now : Nat → Int32} {c o : Nat} {f : Nat → Nat} (h : Mr now c o f) (hb : ∀ e, f e ≤ 16) (hc : c ≤ 8) {v : Nat} (hv : v ≤ 16) : kX10_occurs (nI v) now = some (if occB f v (4 * c) = true then 1 else 0) := by
  unfold kX10_occurs
  refine it2_run (fun i => if occB f v i = true then 1 else 0) (fun i => nI i) (4 * c) (fun K i hi => ?_) (fun K => ?_) rfl rfl (by omega)
  · have b1 := hb i
    have s1 : occB f v (i + 1) = (occB f v i || (f i == v)) := rfl
    have e4 : (nI (4 * c) ≤ nI i) ↔ False := by rw [nI_leI (by omega) (by omega)]; exact ⟨fun z => by omega, False.elim⟩
    unfold kX10_occurs_L1 kX10_occurs_J2
    rw [s1]
    cases q : occB f v i
    · by_cases q2 : f i = v
      · have e3 : (nI (f i) = nI v) ↔ True := by rw [q2]; exact ⟨fun _ => trivial, fun _ => rfl⟩
        simp (disch := omega) only [m_ends h, m_arc h, bnd1_e, e4, e3, reduceIte, nI_1]
        simp [q2]
      · have e3 : (nI (f i) = nI v) ↔ False := by rw [nI_eq (by omega) (by omega)]; exact ⟨q2, False.elim⟩
        simp (disch := omega) only [m_ends h, m_arc h, bnd1_e, e4, e3, reduceIte, nI_1]
        simp [q2]
    · simp (disch := omega) only [m_ends h, m_arc h, bnd1_e, e4, reduceIte, nI_1]
      simp
  · unfold kX10_occurs_L1
    simp (disch := omega) only [m_ends h, bnd1_e]
    rw [if_pos (nI_le (Nat.le_refl _) (by omega)), zr_b]
theorem m_classes {now lab : Nat → Int32} {c o : Nat} {f l : Nat → Nat} (h : Mr now c o f) (hb : ∀ e, f e ≤ 16) (hc : c ≤ 8) (hl : Lr lab l) (hle : ∀ n, l n ≤ n) (hz : occB f 0 (4 * c) = false) : kX10_classes now lab = some (nI (fb_ct (fun n => occB f n (4 * c) && (l n == n)) 17)) := by
  have z0 : fb_ct (fun n => occB f n (4 * c) && (l n == n)) 1 = 0 := by
    rw [fb_ct_succ]
    simp [hz, fb_ct]
  unfold kX10_classes
  refine it2_run (fun i => nI (fb_ct (fun n => occB f n (4 * c) && (l n == n)) (1 + i))) (fun i => nI (1 + i)) 16 (fun K i hi => ?_) (fun K => ?_) (by show (0 : Int32) = nI (fb_ct _ 1); rw [z0]; rfl) rfl (by omega)
  · have li := hle (1 + i)
    have e1 := hl (1 + i) (by omega)
    have e5 : 1 + (i + 1) = 1 + i + 1 := by omega
    have s1 := fb_ct_succ (fun n => occB f n (4 * c) && (l n == n)) (1 + i)
    have e6 : (16 < nI (1 + i)) ↔ False := by rw [fa_lit 16, nI_ltI (by omega) (by omega)]; exact ⟨fun z => by omega, False.elim⟩
    rw [e5, s1]
    unfold kX10_classes_L1 kX10_classes_J3 kX10_classes_J2
    simp (disch := omega) only [m_occurs h hb hc, bnd1_e, b_ne0, e6, reduceIte, ck_nI, nI_clamp, e1, nI_eq, nI_1]
    cases q : occB f (1 + i) (4 * c)
    · simp
    · by_cases q2 : l (1 + i) = 1 + i
      · simp [q2, nI_1]
      · simp [q2]
  · unfold kX10_classes_L1
    rw [if_pos (by decide)]
