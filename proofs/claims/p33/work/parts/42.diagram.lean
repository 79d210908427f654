/-! ===== Diagram, by its ends: f e is the arc at end e (0: none), c crossings ===== -/
def Rp (a : Nat → Int32) (f : Nat → Nat) : Prop := (∀ e, e < 32 → a e = nI (f e)) ∧ (∀ e, f e ≤ 16) ∧ ∀ e, 32 ≤ e → f e = 0
theorem q_arc {a : Nat → Int32} {e : Nat} (h : e < 32) : kX2_arc (nI e) a = some (a e) := by
  unfold kX2_arc
  simp (disch := omega) only [fa_lit, irem_nI, pk_div, nI_add, pk_mul, nI_ltI, nI_leI, nI_eq, nI_clamp, ck_nI, bnd0_e, bnd1_e, bnd2_e, bnd3_e, bnd4_e, if_pos, if_neg, reduceIte]
theorem q_arcBig {a : Nat → Int32} {e : Nat} (h : 32 ≤ e) (h2 : e < 2 ^ 31) : kX2_arc (nI e) a = some 0 := by
  unfold kX2_arc kX2_arc_J1
  rw [if_neg (nI_pos h2), fa_lit 32, if_pos ((nI_leI (by omega) h2).mpr h)]
theorem q_arcR {a : Nat → Int32} {f : Nat → Nat} (h : Rp a f) {e : Nat} (he : e < 2 ^ 31) : kX2_arc (nI e) a = some (nI (f e)) := by
  rcases Nat.lt_or_ge e 32 with q | q
  · rw [q_arc q, h.1 e q]
  · rw [q_arcBig q he, h.2.2 e q]; rfl
theorem q_endCount (c : Nat) : kX2_endCount (nI c) = some (nI (4 * c)) := by
  unfold kX2_endCount
  simp (disch := omega) only [fa_lit, irem_nI, pk_div, nI_add, pk_mul, nI_ltI, nI_leI, nI_eq, nI_clamp, ck_nI, bnd0_e, bnd1_e, bnd2_e, bnd3_e, bnd4_e, if_pos, if_neg, reduceIte]
theorem q_hasNeg {v c : Int32} (h : v < 0) : kX2_hasCrossing v c = some 0 := by
  unfold kX2_hasCrossing kX2_hasCrossing_J1
  rw [if_pos h]
theorem q_hasBig {v c : Int32} (h : c ≤ v) : kX2_hasCrossing v c = some 0 := by
  unfold kX2_hasCrossing kX2_hasCrossing_J1
  by_cases q : v < 0
  · rw [if_pos q]
  · rw [if_neg q, if_pos h]
theorem q_hasIn {j c : Nat} (h : j < c) (hc : c < 2 ^ 31) : kX2_hasCrossing (nI j) (nI c) = some 1 := by
  unfold kX2_hasCrossing
  simp (disch := omega) only [fa_lit, irem_nI, pk_div, nI_add, pk_mul, nI_ltI, nI_leI, nI_eq, nI_clamp, ck_nI, bnd0_e, bnd1_e, bnd2_e, bnd3_e, bnd4_e, if_pos, if_neg, reduceIte]
/-- the end t at the other side of the arc of e -/
def Oth (c : Nat) (f : Nat → Nat) (e t : Nat) : Prop := t < 4 * c ∧ t ≠ e ∧ f t = f e ∧ ∀ x, x < 4 * c → f x = f e → x = e ∨ x = t
theorem q_oe {a : Nat → Int32} {f : Nat → Nat} (h : Rp a f) {c e t : Nat} (hc : c ≤ 8) (he : e < 4 * c) (ho : Oth c f e t) : kX2_otherEnd (nI e) (nI c) a = some (nI t) := by
  obtain ⟨h1, h2, h3, h4⟩ := ho
  have hb := h.2.1
  unfold kX2_otherEnd
  simp (disch := omega) only [q_arcR h, q_endCount, bnd1_e]
  refine it1_run (fun i => nI i) t (fun K i hi => ?_) (fun K => ?_) rfl (by omega)
  · have b1 := hb i
    have b2 := hb e
    by_cases q : i = e
    · subst q
      unfold kX2_otherEnd_L1
      simp (disch := omega) only [q_arcR h, fa_lit, irem_nI, pk_div, nI_add, pk_mul, nI_ltI, nI_leI, nI_eq, nI_clamp, ck_nI, bnd0_e, bnd1_e, bnd2_e, bnd3_e, bnd4_e, if_pos, if_neg, reduceIte]
    · have ne : f i ≠ f e := fun z => by rcases h4 i (by omega) z with r | r <;> omega
      unfold kX2_otherEnd_L1
      simp (disch := omega) only [q_arcR h, fa_lit, irem_nI, pk_div, nI_add, pk_mul, nI_ltI, nI_leI, nI_eq, nI_clamp, ck_nI, bnd0_e, bnd1_e, bnd2_e, bnd3_e, bnd4_e, if_pos, if_neg, reduceIte]
  · have b1 := hb t
    have b2 := hb e
    unfold kX2_otherEnd_L1
    simp (disch := omega) only [q_arcR h, fa_lit, irem_nI, pk_div, nI_add, pk_mul, nI_ltI, nI_leI, nI_eq, nI_clamp, ck_nI, bnd0_e, bnd1_e, bnd2_e, bnd3_e, bnd4_e, if_pos, if_neg, reduceIte]
theorem q_oeNone {a : Nat → Int32} {f : Nat → Nat} (h : Rp a f) {c e : Nat} (hc : c ≤ 8) (he : e < 2 ^ 31) (ho : ∀ x, x < 4 * c → f x = f e → x = e) : kX2_otherEnd (nI e) (nI c) a = some (nI e) := by
  have hb := h.2.1
  unfold kX2_otherEnd
  simp (disch := omega) only [q_arcR h, q_endCount, bnd1_e]
  refine it1_run (fun i => nI i) (4 * c) (fun K i hi => ?_) (fun K => ?_) rfl (by omega)
  · have b1 := hb i
    have b2 := hb e
    by_cases q : i = e
    · subst q
      unfold kX2_otherEnd_L1
      simp (disch := omega) only [q_arcR h, fa_lit, irem_nI, pk_div, nI_add, pk_mul, nI_ltI, nI_leI, nI_eq, nI_clamp, ck_nI, bnd0_e, bnd1_e, bnd2_e, bnd3_e, bnd4_e, if_pos, if_neg, reduceIte]
    · have ne : f i ≠ f e := fun z => q (ho i hi z)
      unfold kX2_otherEnd_L1
      simp (disch := omega) only [q_arcR h, fa_lit, irem_nI, pk_div, nI_add, pk_mul, nI_ltI, nI_leI, nI_eq, nI_clamp, ck_nI, bnd0_e, bnd1_e, bnd2_e, bnd3_e, bnd4_e, if_pos, if_neg, reduceIte]
  · unfold kX2_otherEnd_L1
    simp (disch := omega) only [fa_lit, irem_nI, pk_div, nI_add, pk_mul, nI_ltI, nI_leI, nI_eq, nI_clamp, ck_nI, bnd0_e, bnd1_e, bnd2_e, bnd3_e, bnd4_e, if_pos, if_neg, reduceIte]
theorem q_first {a : Nat → Int32} {f : Nat → Nat} (h : Rp a f) {c t v : Nat} (hc : c ≤ 8) (hv : v ≤ 16) (ht : t < 4 * c) (h1 : f t = v) (h2 : ∀ x, x < t → f x ≠ v) : kX2_firstEnd (nI v) (nI c) a = some (nI t) := by
  have hb := h.2.1
  unfold kX2_firstEnd
  simp (disch := omega) only [q_endCount, bnd1_e]
  refine it1_run (fun i => nI i) t (fun K i hi => ?_) (fun K => ?_) rfl (by omega)
  · have b1 := hb i
    have ne := h2 i hi
    unfold kX2_firstEnd_L1
    simp (disch := omega) only [q_arcR h, fa_lit, irem_nI, pk_div, nI_add, pk_mul, nI_ltI, nI_leI, nI_eq, nI_clamp, ck_nI, bnd0_e, bnd1_e, bnd2_e, bnd3_e, bnd4_e, if_pos, if_neg, reduceIte]
  · have b1 := hb t
    unfold kX2_firstEnd_L1
    simp (disch := omega) only [q_arcR h, fa_lit, irem_nI, pk_div, nI_add, pk_mul, nI_ltI, nI_leI, nI_eq, nI_clamp, ck_nI, bnd0_e, bnd1_e, bnd2_e, bnd3_e, bnd4_e, if_pos, if_neg, reduceIte]
theorem q_firstNone {a : Nat → Int32} {f : Nat → Nat} (h : Rp a f) {c v : Nat} (hc : c ≤ 8) (hv : v ≤ 16) (h2 : ∀ x, x < 4 * c → f x ≠ v) : kX2_firstEnd (nI v) (nI c) a = some (-1) := by
  have hb := h.2.1
  unfold kX2_firstEnd
  simp (disch := omega) only [q_endCount, bnd1_e]
  refine it1_run (fun i => nI i) (4 * c) (fun K i hi => ?_) (fun K => ?_) rfl (by omega)
  · have b1 := hb i
    have ne := h2 i hi
    unfold kX2_firstEnd_L1
    simp (disch := omega) only [q_arcR h, fa_lit, irem_nI, pk_div, nI_add, pk_mul, nI_ltI, nI_leI, nI_eq, nI_clamp, ck_nI, bnd0_e, bnd1_e, bnd2_e, bnd3_e, bnd4_e, if_pos, if_neg, reduceIte]
  · unfold kX2_firstEnd_L1
    rw [if_pos ((nI_leI (by omega) (by omega)).mpr (Nat.le_refl _))]
theorem q_occ {a : Nat → Int32} {f : Nat → Nat} (h : Rp a f) {c v : Nat} (hc : c ≤ 8) (hv : v ≤ 16) : kX2_occurrences (nI v) (nI c) a = some (nI (fb_ct (fun e => f e == v) (4 * c))) := by
  have hb := h.2.1
  unfold kX2_occurrences
  simp (disch := omega) only [q_endCount, bnd1_e]
  refine it2_run (fun i => nI (fb_ct (fun e => f e == v) i)) (fun i => nI i) (4 * c) (fun K i hi => ?_) (fun K => ?_) rfl rfl (by omega)
  · have b1 := hb i
    unfold kX2_occurrences_L1
    by_cases q : f i = v
    · have e : fb_ct (fun e => f e == v) (i + 1) = fb_ct (fun e => f e == v) i + 1 := by rw [fb_ct_succ, if_pos (by simpa using q)]
      rw [e]
      simp (disch := omega) only [q_arcR h, fa_lit, irem_nI, pk_div, nI_add, pk_mul, nI_ltI, nI_leI, nI_eq, nI_clamp, ck_nI, bnd0_e, bnd1_e, bnd2_e, bnd3_e, bnd4_e, if_pos, if_neg, reduceIte]
    · have e : fb_ct (fun e => f e == v) (i + 1) = fb_ct (fun e => f e == v) i := by rw [fb_ct_succ, if_neg (by simpa using q)]; rfl
      rw [e]
      simp (disch := omega) only [q_arcR h, fa_lit, irem_nI, pk_div, nI_add, pk_mul, nI_ltI, nI_leI, nI_eq, nI_clamp, ck_nI, bnd0_e, bnd1_e, bnd2_e, bnd3_e, bnd4_e, if_pos, if_neg, reduceIte]
  · unfold kX2_occurrences_L1
    simp (disch := omega) only [fa_lit, irem_nI, pk_div, nI_add, pk_mul, nI_ltI, nI_leI, nI_eq, nI_clamp, ck_nI, bnd0_e, bnd1_e, bnd2_e, bnd3_e, bnd4_e, if_pos, if_neg, reduceIte]
/-! arrays that are filled by a loop -/
theorem fill_skip {g a : Nat → Int32} {i : Nat} (h : g i = a i) : fa_fill g a (i + 1) = fa_fill g a i := by
  funext j
  unfold fa_fill
  by_cases q : j = i
  · subst q; simp [h]
  · by_cases q2 : j < i
    · rw [if_pos q2, if_pos (by omega)]
    · rw [if_neg q2, if_neg (by omega)]
theorem fill_eq {g a : Nat → Int32} {i : Nat} (h : ∀ j, j < i → g j = a j) : fa_fill g a i = a := by
  funext j
  unfold fa_fill
  by_cases q : j < i
  · rw [if_pos q, h j q]
  · rw [if_neg q]
theorem q_copyFrom (ic io : Int32) (a b : Nat → Int32) (pc po : Int32) : kX2_copyFrom ic io a pc po b = some (pc, po, fa_fill b a 32) := by
  unfold kX2_copyFrom
  refine it2_run (fun i => nI i) (fun i => fa_fill b a i) 32 (fun K i hi => ?_) (fun K => ?_) rfl (fa_fill_0 _ _).symm (by omega)
  · unfold kX2_copyFrom_L1
    rw [← fa_fill_succ b a i]
    simp (disch := omega) only [fa_lit, irem_nI, pk_div, nI_add, pk_mul, nI_ltI, nI_leI, nI_eq, nI_clamp, ck_nI, bnd0_e, bnd1_e, bnd2_e, bnd3_e, bnd4_e, if_pos, if_neg, reduceIte]
  · unfold kX2_copyFrom_L1
    simp (disch := omega) only [fa_lit, irem_nI, pk_div, nI_add, pk_mul, nI_ltI, nI_leI, nI_eq, nI_clamp, ck_nI, bnd0_e, bnd1_e, bnd2_e, bnd3_e, bnd4_e, if_pos, if_neg, reduceIte]
theorem q_clear (ic io : Int32) (a : Nat → Int32) : kX2_clear ic io a = some (0, 0, fa_fill (fun _ => 0) a 32) := by
  unfold kX2_clear
  refine it2_run (fun i => nI i) (fun i => fa_fill (fun _ => 0) a i) 32 (fun K i hi => ?_) (fun K => ?_) rfl (fa_fill_0 _ _).symm (by omega)
  · unfold kX2_clear_L1
    rw [← fa_fill_succ (fun _ => (0 : Int32)) a i]
    simp (disch := omega) only [fa_lit, irem_nI, pk_div, nI_add, pk_mul, nI_ltI, nI_leI, nI_eq, nI_clamp, ck_nI, bnd0_e, bnd1_e, bnd2_e, bnd3_e, bnd4_e, if_pos, if_neg, reduceIte]
  · unfold kX2_clear_L1
    rw [if_pos (by decide)]
theorem Rp.copy {a b : Nat → Int32} {f : Nat → Nat} (h : Rp b f) : Rp (fa_fill b a 32) f := ⟨fun e he => by rw [fa_fill_in he]; exact h.1 e he, h.2⟩
theorem Rp.clear (a : Nat → Int32) : Rp (fa_fill (fun _ => 0) a 32) (fun _ => 0) := ⟨fun e he => by rw [fa_fill_in he]; rfl, fun _ => Nat.zero_le _, fun _ _ => rfl⟩
def updN (f : Nat → Nat) (e v : Nat) : Nat → Nat := fun x => if x = e then v else f x
theorem Rp.put {a : Nat → Int32} {f : Nat → Nat} (h : Rp a f) {e v : Nat} (he : e < 32) (hv : v ≤ 16) : Rp (upd a e (nI v)) (updN f e v) := by
  obtain ⟨h1, h2, h3⟩ := h
  refine ⟨fun x hx => ?_, fun x => ?_, fun x hx => ?_⟩
  · by_cases q : x = e
    · subst q; rw [pk_us]; unfold updN; rw [if_pos rfl]
    · rw [pk_un q, h1 x hx]; unfold updN; rw [if_neg q]
  · unfold updN
    by_cases q : x = e
    · rw [if_pos q]; exact hv
    · rw [if_neg q]; exact h2 x
  · unfold updN; rw [if_neg (by omega)]; exact h3 x hx
theorem q_setArc {a : Nat → Int32} {e : Nat} (v : Int32) (he : e < 32) : kX2_setArc (nI e) v a = some (upd a e v) := by
  unfold kX2_setArc
  simp (disch := omega) only [fa_lit, irem_nI, pk_div, nI_add, pk_mul, nI_ltI, nI_leI, nI_eq, nI_clamp, ck_nI, bnd0_e, bnd1_e, bnd2_e, bnd3_e, bnd4_e, if_pos, if_neg, reduceIte]
theorem q_setArcBig {a : Nat → Int32} {e : Nat} (v : Int32) (he : 32 ≤ e) (h2 : e < 2 ^ 31) : kX2_setArc (nI e) v a = some a := by
  unfold kX2_setArc
  rw [if_neg (nI_pos h2), fa_lit 32, if_pos ((nI_leI (by omega) h2).mpr he)]
theorem imax_nI {x y : Nat} (hx : x < 2 ^ 31) (hy : y < 2 ^ 31) : imax (nI x) (nI y) = nI (max x y) := by
  unfold imax
  by_cases q : x < y
  · rw [if_pos ((nI_ltI hx hy).mpr q), Nat.max_eq_right (by omega)]
  · rw [if_neg (fun z => q ((nI_ltI hx hy).mp z)), Nat.max_eq_left (by omega)]
theorem imin_nI {x y : Nat} (hx : x < 2 ^ 31) (hy : y < 2 ^ 31) : imin (nI x) (nI y) = nI (min x y) := by
  unfold imin
  by_cases q : y < x
  · rw [if_pos ((nI_ltI hy hx).mpr q), Nat.min_eq_right (by omega)]
  · rw [if_neg (fun z => q ((nI_ltI hy hx).mp z)), Nat.min_eq_left (by omega)]
/-- every arc of hi becomes one of lo -/
def rel (f : Nat → Nat) (lo hi : Nat) : Nat → Nat := fun x => if f x = hi then lo else f x
theorem q_joinSame {a : Nat → Int32} {f : Nat → Nat} (h : Rp a f) {c p q : Nat} {io : Int32} (hp : p < 2 ^ 31) (hq : q < 2 ^ 31) (e : f p = f q) : kX2_join (nI p) (nI q) (nI c) io a = some (io + 1, a) := by
  unfold kX2_join
  simp (disch := omega) only [q_arcR h, bnd1_e]
  rw [if_pos (by rw [e])]
theorem q_join {a : Nat → Int32} {f : Nat → Nat} (h : Rp a f) {c p q : Nat} {io : Int32} (hc : c ≤ 8) (h0 : ∀ e, 4 * c ≤ e → f e = 0) (hp : p < 2 ^ 31) (hq : q < 2 ^ 31) (e : f p ≠ f q) : ∃ a', kX2_join (nI p) (nI q) (nI c) io a = some (io, a') ∧ Rp a' (rel f (min (f p) (f q)) (max (f p) (f q))) := by
  have hb := h.2.1
  have b1 := hb p
  have b2 := hb q
  let g : Nat → Int32 := fun j => if a j = nI (max (f p) (f q)) then nI (min (f p) (f q)) else a j
  refine ⟨fa_fill g a (4 * c), ?_, fun x hx => ?_, fun x => ?_, fun x hx => ?_⟩
  · unfold kX2_join
    simp (disch := omega) only [q_arcR h, bnd1_e, q_endCount]
    rw [if_neg (fun z => e ((nI_eq (by omega) (by omega)).mp z))]
    refine it2_run (fun i => nI i) (fun i => fa_fill g a i) (4 * c) (fun K i hi => ?_) (fun K => ?_) rfl (fa_fill_0 _ _).symm (by omega)
    · have b3 := hb i
      have e1 : a i = nI (f i) := h.1 i (by omega)
      have e2 : fa_fill g a i i = nI (f i) := by rw [fa_fill_out (Nat.le_refl i), e1]
      unfold kX2_join_L1
      simp (disch := omega) only [q_arc, bnd1_e, e2, imax_nI, imin_nI]
      by_cases q1 : f i = max (f p) (f q)
      · have e3 : g i = nI (min (f p) (f q)) := if_pos (by rw [e1, q1])
        rw [← fa_fill_succ g a i, e3]
        simp (disch := omega) only [q_setArc, fa_lit, irem_nI, pk_div, nI_add, pk_mul, nI_ltI, nI_leI, nI_eq, nI_clamp, ck_nI, bnd0_e, bnd1_e, bnd2_e, bnd3_e, bnd4_e, if_pos, if_neg, reduceIte]
      · have e3 : g i = a i := if_neg (fun z => q1 ((nI_eq (by omega) (by omega)).mp (e1.symm.trans z)))
        rw [fill_skip e3]
        simp (disch := omega) only [fa_lit, irem_nI, pk_div, nI_add, pk_mul, nI_ltI, nI_leI, nI_eq, nI_clamp, ck_nI, bnd0_e, bnd1_e, bnd2_e, bnd3_e, bnd4_e, if_pos, if_neg, reduceIte]
    · unfold kX2_join_L1
      simp (disch := omega) only [fa_lit, irem_nI, pk_div, nI_add, pk_mul, nI_ltI, nI_leI, nI_eq, nI_clamp, ck_nI, bnd0_e, bnd1_e, bnd2_e, bnd3_e, bnd4_e, if_pos, if_neg, reduceIte]
  · unfold rel
    have b3 := hb x
    have e1 : a x = nI (f x) := h.1 x hx
    have e4 : g x = nI (if f x = max (f p) (f q) then min (f p) (f q) else f x) := by
      by_cases q1 : f x = max (f p) (f q)
      · rw [if_pos q1]; exact if_pos (by rw [e1, q1])
      · rw [if_neg q1]; exact (if_neg (fun z => q1 ((nI_eq (by omega) (by omega)).mp (e1.symm.trans z)))).trans e1
    rcases Nat.lt_or_ge x (4 * c) with z | z
    · rw [fa_fill_in z, e4]
    · have e5 := h0 x z
      rw [fa_fill_out z, e1, e5, if_neg (by omega)]
  · have b3 := hb x
    unfold rel
    by_cases q1 : f x = max (f p) (f q)
    · rw [if_pos q1]; omega
    · rw [if_neg q1]; exact b3
  · have e5 := h.2.2 x hx
    unfold rel
    rw [e5, if_neg (by omega)]
def ex1 (f : Nat → Nat) (v : Nat) : Nat → Nat := updN f (4 * v) (f (4 * v + 1))
def ex2 (f : Nat → Nat) (v : Nat) : Nat → Nat := updN (ex1 f v) (4 * v + 1) (ex1 f v (4 * v + 2))
def ex3 (f : Nat → Nat) (v : Nat) : Nat → Nat := updN (ex2 f v) (4 * v + 2) (ex2 f v (4 * v + 3))
def exch (f : Nat → Nat) (v : Nat) : Nat → Nat := updN (ex3 f v) (4 * v + 3) (f (4 * v))
theorem q_exchange {a : Nat → Int32} {f : Nat → Nat} (h : Rp a f) {v : Nat} (hv : v < 8) : ∃ a', kX2_exchangeStrands (nI v) a = some a' ∧ Rp a' (exch f v) := by
  have hb := h.2.1
  have h1 : Rp _ (ex1 f v) := h.put (e := 4 * v) (v := f (4 * v + 1)) (by omega) (hb _)
  have h2 : Rp _ (ex2 f v) := h1.put (e := 4 * v + 1) (v := ex1 f v (4 * v + 2)) (by omega) (h1.2.1 _)
  have h3 : Rp _ (ex3 f v) := h2.put (e := 4 * v + 2) (v := ex2 f v (4 * v + 3)) (by omega) (h2.2.1 _)
  have h4 : Rp _ (exch f v) := h3.put (e := 4 * v + 3) (v := f (4 * v)) (by omega) (hb _)
  refine ⟨_, ?_, h4⟩
  unfold kX2_exchangeStrands
  simp (disch := omega) only [fa_lit, nI_add, pk_mul, q_arcR h, bnd1_e, q_setArc, q_arcR h1, q_arcR h2, q_arcR h3]
def drp (f : Nat → Nat) (v : Nat) : Nat → Nat := fun x => if x < 4 * v then f x else f (x + 4)
theorem q_drop {a : Nat → Int32} {f : Nat → Nat} (h : Rp a f) {c v : Nat} (hc : c ≤ 8) (h0 : ∀ e, 4 * c ≤ e → f e = 0) (hv : v < c) : ∃ a', kX2_drop (nI v) (nI c) a = some (nI (c - 1), a') ∧ Rp a' (drp f v) := by
  have hb := h.2.1
  let g : Nat → Int32 := fun j => if j < 4 * v then a j else nI (f (j + 4))
  have g0 : ∀ j, j < 4 * v → g j = a j := fun j hj => if_pos hj
  refine ⟨fa_fill g a (4 * c), ?_, fun x hx => ?_, fun x => ?_, fun x hx => ?_⟩
  · unfold kX2_drop
    simp (disch := omega) only [q_endCount, fa_lit, irem_nI, pk_div, nI_add, pk_mul, nI_ltI, nI_leI, nI_eq, nI_clamp, ck_nI, bnd0_e, bnd1_e, bnd2_e, bnd3_e, bnd4_e, if_pos, if_neg, reduceIte]
    refine it2_run (fun i => nI (4 * v + i)) (fun i => fa_fill g a (4 * v + i)) (4 * c - 4 * v) (fun K i hi => ?_) (fun K => ?_) rfl (fill_eq g0).symm (by omega)
    · have e2 : kX2_arc (nI (4 * v + i + 4)) (fa_fill g a (4 * v + i)) = some (nI (f (4 * v + i + 4))) := by
        rcases Nat.lt_or_ge (4 * v + i + 4) 32 with z | z
        · rw [q_arc z, fa_fill_out (by omega), h.1 _ z]
        · rw [q_arcBig z (by omega), h.2.2 _ z]; rfl
      have e3 : g (4 * v + i) = nI (f (4 * v + i + 4)) := if_neg (by omega)
      have e4 := fa_fill_succ g a (4 * v + i)
      rw [e3] at e4
      unfold kX2_drop_L1
      simp (disch := omega) only [e2, q_setArc, fa_lit, irem_nI, pk_div, nI_add, pk_mul, nI_ltI, nI_leI, nI_eq, nI_clamp, ck_nI, bnd0_e, bnd1_e, bnd2_e, bnd3_e, bnd4_e, if_pos, if_neg, reduceIte]
      rw [e4]
      rfl
    · have e1 : 4 * v + (4 * c - 4 * v) = 4 * c := by omega
      unfold kX2_drop_L1
      simp only [e1]
      rw [if_pos (nI_le (Nat.le_refl _) (by omega)), fa_lit 1, pk_sub (by omega)]
  · unfold drp
    rcases Nat.lt_or_ge x (4 * v) with z | z
    · rw [fa_fill_in (by omega), g0 x z, if_pos z]; exact h.1 x hx
    · rw [if_neg (by omega)]
      rcases Nat.lt_or_ge x (4 * c) with y | y
      · rw [fa_fill_in y]; exact if_neg (by omega)
      · rw [fa_fill_out y, h.1 x hx, h0 x y, h0 (x + 4) (by omega)]
  · unfold drp
    by_cases z : x < 4 * v
    · rw [if_pos z]; exact hb _
    · rw [if_neg z]; exact hb _
  · unfold drp
    rw [if_neg (by omega)]; exact h.2.2 _ (by omega)
