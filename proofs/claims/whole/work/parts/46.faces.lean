/-! ===== orbits of a permutation of the ends ===== -/
def itr (p : Nat → Nat) : Nat → Nat → Nat
  | 0, s => s
  | n + 1, s => p (itr p n s)
def Orb (p : Nat → Nat) (s x : Nat) : Prop := ∃ n, itr p n s = x
def Perm (E : Nat) (p pi : Nat → Nat) : Prop := ∀ x, x < E → p x < E ∧ pi x < E ∧ pi (p x) = x ∧ p (pi x) = x
theorem itr_lt {E : Nat} {p pi : Nat → Nat} (h : Perm E p pi) {s : Nat} (hs : s < E) : ∀ n, itr p n s < E
  | 0 => hs
  | n + 1 => (h _ (itr_lt h hs n)).1
theorem itr_add (p : Nat → Nat) (m s : Nat) : ∀ n, itr p (n + m) s = itr p n (itr p m s)
  | 0 => by rw [Nat.zero_add]; rfl
  | n + 1 => by rw [show n + 1 + m = n + m + 1 by omega]; show p _ = p _; rw [itr_add p m s n]
theorem itr_back {E : Nat} {p pi : Nat → Nat} (h : Perm E p pi) {s : Nat} (hs : s < E) : ∀ n m, itr p (n + m) s = itr p m s → itr p n s = s
  | n, 0, e => by rw [Nat.add_zero] at e; exact e
  | n, m + 1, e => by
    have e : p (itr p (n + m) s) = p (itr p m s) := e
    have := congrArg pi e
    rw [(h _ (itr_lt h hs _)).2.2.1, (h _ (itr_lt h hs _)).2.2.1] at this
    exact itr_back h hs n m this
/-- it comes round -/
theorem orb_per {E : Nat} {p pi : Nat → Nat} (h : Perm E p pi) {s : Nat} (hs : s < E) : ∃ k, 1 ≤ k ∧ k ≤ E ∧ itr p k s = s := by
  obtain ⟨i, j, h1, h2, h3⟩ := fb_twice (m := E) (n := E + 1) (f := fun i => itr p i s) (fun i _ => itr_lt h hs i) (by omega)
  refine ⟨j - i, by omega, by omega, itr_back h hs (j - i) i ?_⟩
  rw [show j - i + i = j by omega]
  exact h3.symm
theorem orb_least {E : Nat} {p pi : Nat → Nat} (h : Perm E p pi) {s : Nat} (hs : s < E) : ∃ k, 1 ≤ k ∧ k ≤ E ∧ itr p k s = s ∧ ∀ j, 1 ≤ j → j < k → itr p j s ≠ s := by
  obtain ⟨k, h1, h2, h3⟩ := orb_per h hs
  obtain ⟨k, g1, g2⟩ := pk_least (fun k => 1 ≤ k ∧ itr p k s = s) ⟨k, h1, h3⟩
  have hk : k ≤ E := by
    rcases Nat.lt_or_ge E k with q | q
    · rename_i k0
      exact absurd ⟨h1, h3⟩ (g2 k0 (by omega))
    · exact q
  exact ⟨k, g1.1, hk, g1.2, fun j hj hk e => g2 j hk ⟨hj, e⟩⟩
theorem orb_below {p : Nat → Nat} {s k : Nat} (hk : 1 ≤ k) (e : itr p k s = s) : ∀ n, ∃ j, j < k ∧ itr p j s = itr p n s
  | 0 => ⟨0, by omega, rfl⟩
  | n + 1 => by
    obtain ⟨j, h1, h2⟩ := orb_below hk e n
    by_cases q : j + 1 = k
    · refine ⟨0, by omega, ?_⟩
      show s = p (itr p n s)
      rw [← h2]
      show s = itr p (j + 1) s
      rw [q, e]
    · exact ⟨j + 1, by omega, by show p _ = p _; rw [h2]⟩
theorem orb_iff {p : Nat → Nat} {s k x : Nat} (hk : 1 ≤ k) (e : itr p k s = s) : Orb p s x ↔ ∃ j, j < k ∧ itr p j s = x := by
  constructor
  · rintro ⟨n, h⟩
    obtain ⟨j, h1, h2⟩ := orb_below hk e n
    exact ⟨j, h1, h2.trans h⟩
  · rintro ⟨j, _, h⟩
    exact ⟨j, h⟩
theorem orb_inj {E : Nat} {p pi : Nat → Nat} (h : Perm E p pi) {s k : Nat} (hs : s < E) (hl : ∀ j, 1 ≤ j → j < k → itr p j s ≠ s) : ∀ i j, i < j → j < k → itr p i s ≠ itr p j s := by
  intro i j h1 h2 e
  refine hl (j - i) (by omega) (by omega) (itr_back h hs (j - i) i ?_)
  rw [show j - i + i = j by omega]
  exact e.symm
theorem orb_back {E : Nat} {p pi : Nat → Nat} (h : Perm E p pi) {s x : Nat} (hs : s < E) (ho : Orb p s x) : Orb p x s := by
  obtain ⟨n, rfl⟩ := ho
  obtain ⟨k, h1, h2, h3⟩ := orb_per h hs
  have key : ∀ m, itr p (m * k) s = s := by
    intro m
    induction m with
    | zero => rw [Nat.zero_mul]; rfl
    | succ m ih => rw [Nat.succ_mul, itr_add, h3, ih]
  have hle : n ≤ n * k := Nat.le_mul_of_pos_right n (by omega)
  refine ⟨n * k - n, ?_⟩
  rw [← itr_add, show n * k - n + n = n * k by omega, key]
theorem Orb.trans {p : Nat → Nat} {s x y : Nat} (h1 : Orb p s x) (h2 : Orb p x y) : Orb p s y := by
  obtain ⟨n, rfl⟩ := h1
  obtain ⟨m, rfl⟩ := h2
  exact ⟨m + n, itr_add p n s m⟩
/-- what has been met before the end i is looked at, if each end that isn't met yet is followed round -/
def sS (p : Nat → Nat) : Nat → Nat → Prop
  | 0, _ => False
  | i + 1, x => sS p i x ∨ (¬ sS p i i ∧ Orb p i x)
theorem sS_iff {E : Nat} {p pi : Nat → Nat} (h : Perm E p pi) : ∀ i, i ≤ E → ∀ x, sS p i x ↔ ∃ y, y < i ∧ Orb p y x
  | 0, _, x => ⟨fun h => h.elim, fun ⟨_, h, _⟩ => absurd h (Nat.not_lt_zero _)⟩
  | i + 1, hi, x => by
    show (sS p i x ∨ (¬ sS p i i ∧ Orb p i x)) ↔ _
    rw [sS_iff h i (by omega) x, sS_iff h i (by omega) i]
    constructor
    · rintro (⟨y, h1, h2⟩ | ⟨_, h2⟩)
      · exact ⟨y, by omega, h2⟩
      · exact ⟨i, by omega, h2⟩
    · rintro ⟨y, h1, h2⟩
      by_cases q : y = i
      · subst q
        by_cases z : ∃ w, w < y ∧ Orb p w y
        · obtain ⟨w, z1, z2⟩ := z
          exact Or.inl ⟨w, z1, z2.trans h2⟩
        · exact Or.inr ⟨z, h2⟩
      · exact Or.inl ⟨y, by omega, h2⟩
/-- it is closed -/
theorem sS_step {E : Nat} {p pi : Nat → Nat} (h : Perm E p pi) {i : Nat} (hi : i ≤ E) {x y : Nat} (hx : x < E) (ho : Orb p x y) : sS p i x ↔ sS p i y := by
  rw [sS_iff h i hi, sS_iff h i hi]
  constructor
  · rintro ⟨w, h1, h2⟩; exact ⟨w, h1, h2.trans ho⟩
  · rintro ⟨w, h1, h2⟩; exact ⟨w, h1, h2.trans (orb_back h hx ho)⟩
noncomputable def cF (p : Nat → Nat) : Nat → Nat
  | 0 => 0
  | i + 1 => cF p i + (if Classical.propDecidable (sS p i i) |>.decide then 0 else 1)
theorem cF_yes {p : Nat → Nat} {i : Nat} (h : sS p i i) : cF p (i + 1) = cF p i := by
  show cF p i + (if (Classical.propDecidable (sS p i i)).decide = true then 0 else 1) = _
  rw [if_pos (by cases q : Classical.propDecidable (sS p i i) with | isTrue _ => rfl | isFalse z => exact absurd h z)]
  rfl
theorem cF_no {p : Nat → Nat} {i : Nat} (h : ¬ sS p i i) : cF p (i + 1) = cF p i + 1 := by
  show cF p i + (if (Classical.propDecidable (sS p i i)).decide = true then 0 else 1) = _
  rw [if_neg (by cases q : Classical.propDecidable (sS p i i) with | isTrue z => exact absurd z h | isFalse z => exact Bool.false_ne_true)]
theorem cF_le (p : Nat → Nat) : ∀ i, cF p i ≤ i
  | 0 => Nat.le_refl _
  | i + 1 => by
    have := cF_le p i
    by_cases q : sS p i i
    · rw [cF_yes q]; omega
    · rw [cF_no q]; omega
/-! ===== faces ===== -/
noncomputable def fp (c : Nat) (f : Nat → Nat) (e : Nat) : Nat := tn 1 (ot c f e)
noncomputable def fpi (c : Nat) (f : Nat → Nat) (e : Nat) : Nat := ot c f (tn 3 e)
theorem fp_perm {c o : Nat} {f : Nat → Nat} (hV : Vd c o f) : Perm (4 * c) (fp c f) (fpi c f) := fun x hx => by
  have ht := ot_inv hV
  obtain ⟨a1, a2, a3⟩ := ht x hx
  have b1 := tn_lt (k := 3) hx
  obtain ⟨c1, c2, c3⟩ := ht _ b1
  have e1 : tn 3 (tn 1 (ot c f x)) = ot c f x := by unfold tn; omega
  have e2 : tn 1 (tn 3 x) = x := by unfold tn; omega
  refine ⟨tn_lt a1, c1, ?_, ?_⟩
  · unfold fp fpi; rw [e1, a2]
  · unfold fp fpi; rw [c2, e2]
theorem nextI : ∀ r, r < 32 → ((nI r &&& (-4)) ||| ((nI r + 1) &&& 3) : Int32) = nI (tn 1 r) := by decide +kernel
theorem q_cycle {a : Nat → Int32} {c o : Nat} {f : Nat → Nat} (hA : Rp a f) (hV : Vd c o f) {s : Nat} (hs : s < 4 * c) : ∃ m, kX5_cycleOf (nI s) (nI c) a = some m ∧ ∀ x, x < 32 → (bt m x = true ↔ Orb (fp c f) s x) := by
  have hc := hV.1
  have hp := fp_perm hV
  obtain ⟨k, k1, k2, k3, k4⟩ := orb_least hp hs
  unfold kX5_cycleOf
  refine it3_way (fun i x y z => i ≤ k ∧ y = nI (itr (fp c f) i s) ∧ z = nI i ∧ ∀ w, w < 32 → (bt x w = true ↔ ∃ j, j < i ∧ itr (fp c f) j s = w)) (fun r => ∃ m, r = some m ∧ ∀ x, x < 32 → (bt m x = true ↔ Orb (fp c f) s x)) k (fun K i x y z hi hI => ?_) ⟨Nat.zero_le _, rfl, rfl, fun w _ => ?_⟩ (by omega)
  · obtain ⟨_, rfl, rfl, hS⟩ := hI
    have w0 := itr_lt hp hs i
    unfold kX5_cycleOf_L1
    by_cases q : i = k
    · left
      refine ⟨x, ?_, fun w hw => (hS w hw).trans (by rw [q]; exact (orb_iff k1 k3).symm)⟩
      have hb : bt x (itr (fp c f) i s) = true := (hS _ (by omega)).mpr ⟨0, by omega, by rw [q, k3]; rfl⟩
      by_cases q2 : i = 32
      · rw [q2, if_pos (by decide)]
      · rw [if_neg (by rw [fa_lit 32]; exact nI_ge (by omega) (by omega)), q_contains (by omega), bnd1_e, if_pos hb]; rfl
    · right
      have hb : ¬ bt x (itr (fp c f) i s) = true := fun h => by
        obtain ⟨j, h1, h2⟩ := (hS _ (by omega)).mp h
        exact orb_inj hp hs k4 j i h1 (by omega) h2
      have ho := ot_is hV w0
      refine ⟨by omega, x ||| ishl 1 (nI (itr (fp c f) i s)), nI (itr (fp c f) (i + 1) s), nI (i + 1), ?_, by omega, rfl, rfl, fun w hw => ?_⟩
      · rw [if_neg (by rw [fa_lit 32]; exact nI_ge (by omega) (by omega)), q_contains (by omega), bnd1_e, if_neg hb, if_pos rfl, q_bit, bnd1_e, q_oe hA hc w0 ho, bnd1_e, nextI _ (by have := ho.1; omega), nI_1]
        rfl
      · rw [bt_add (by omega) hw, Bool.or_eq_true, hS w hw, beq_iff_eq]
        constructor
        · rintro (⟨j, h1, h2⟩ | h)
          · exact ⟨j, by omega, h2⟩
          · exact ⟨i, by omega, h.symm⟩
        · rintro ⟨j, h1, h2⟩
          by_cases z : j = i
          · subst z; exact Or.inr h2.symm
          · exact Or.inl ⟨j, by omega, h2⟩
  · rw [b_0]
    exact ⟨fun h => (by cases h), fun ⟨_, h, _⟩ => absurd h (Nat.not_lt_zero _)⟩
theorem q_faces {a : Nat → Int32} {c o : Nat} {f : Nat → Nat} (hA : Rp a f) (hV : Vd c o f) : kX5_endCycles (nI c) a = some (nI (cF (fp c f) (4 * c))) := by
  have hc := hV.1
  have hp := fp_perm hV
  unfold kX5_endCycles
  rw [q_endCount, bnd1_e]
  refine it3_inv (fun i x y z => z = nI i ∧ y = nI (cF (fp c f) i) ∧ ∀ e, e < 32 → (bt x e = true ↔ sS (fp c f) i e)) (fun r => r = some (nI (cF (fp c f) (4 * c)))) (4 * c) (fun K i x y z hi hI => ?_) (fun K x y z hI => ?_) ⟨rfl, rfl, fun e he => ?_⟩ (by omega)
  · obtain ⟨rfl, rfl, hS⟩ := hI
    unfold kX5_endCycles_L1
    rw [if_neg (nI_ge hi (by omega)), q_contains (by omega), bnd1_e]
    by_cases b1 : bt x i = true
    · have b2 := (hS i (by omega)).mp b1
      refine ⟨x, nI (cF (fp c f) (i + 1)), nI (i + 1), ?_, rfl, rfl, fun e he => (hS e he).trans ⟨Or.inl, fun h => h.elim id (fun h => absurd b2 h.1)⟩⟩
      rw [if_pos b1, if_neg (by decide), cF_yes b2, nI_1]
    · have b2 : ¬ sS (fp c f) i i := fun h => b1 ((hS i (by omega)).mpr h)
      obtain ⟨m, e1, e2⟩ := q_cycle hA hV hi
      refine ⟨x ||| m, nI (cF (fp c f) (i + 1)), nI (i + 1), ?_, rfl, rfl, fun e he => ?_⟩
      · rw [if_neg b1, if_pos rfl, e1, bnd1_e, cF_no b2, nI_1, nI_1]
      · rw [b_or, Bool.or_eq_true, hS e he, e2 e he]
        exact ⟨fun h => h.elim Or.inl (fun h => Or.inr ⟨b2, h⟩), fun h => h.elim Or.inl (fun h => Or.inr h.2)⟩
  · obtain ⟨rfl, rfl, hS⟩ := hI
    unfold kX5_endCycles_L1
    rw [if_pos (nI_le (Nat.le_refl _) (by omega))]
  · rw [b_0]
    exact ⟨fun h => (by cases h), fun h => h.elim⟩
/-! the reference's faces -/
theorem m_followFace {now met : Nat → Int32} {c o : Nat} {f : Nat → Nat} (h : Mr now c o f) (hV : Vd c o f) {s : Nat} (hs : s < 4 * c) (hm : ∀ e, e < 4 * c → (met e = 0 ∨ met e = 1) ∧ (met e = 1 ↔ sS (fp c f) s e)) (K2 : Int32 → Int32 → (Nat → Int32) → Option (Int32 × (Nat → Int32))) (v1 t1 v2 : Int32) :
    ∃ met', it2 (kX10_faceCount_L4 now K2 v1 t1 v2) 400 (nI s) met = K2 (v1 + t1) (v2 + 1) met' ∧ ∀ e, e < 4 * c → (met' e = 0 ∨ met' e = 1) ∧ (met' e = 1 ↔ sS (fp c f) (s + 1) e) := by
  have hc := hV.1
  have hp := fp_perm hV
  have stop : ∀ (y : Nat → Int32) (cur : Nat) (K), cur < 4 * c → y cur = 1 → kX10_faceCount_L4 now K2 v1 t1 v2 K (nI cur) y = K2 (v1 + t1) (v2 + 1) y := fun y cur K hcur hy => by
    unfold kX10_faceCount_L4
    rw [ck_nI (by omega) (by omega), nI_clamp (by omega), hy, if_neg (by decide)]
  have step : ∀ (y : Nat → Int32) (cur : Nat) (K), cur < 4 * c → y cur = 0 → kX10_faceCount_L4 now K2 v1 t1 v2 K (nI cur) y = K (nI (fp c f cur)) (upd y cur 1) := fun y cur K hcur hy => by
    have ho := ot_is hV hcur
    have t2 : kX10_turn (nI (ot c f cur)) 1 = some (nI (tn 1 (ot c f cur))) := m_turnT (k := 1) (by have := ho.1; omega) (by omega)
    unfold kX10_faceCount_L4
    rw [ck_nI (by omega) (by omega), nI_clamp (by omega), hy, if_pos rfl, ck_nI (by omega) (by omega), m_other h hV.le16 hc hcur ho, bnd1_e, t2, bnd1_e, show ((1 : Int32) &&& 1) = 1 by decide]
    rfl
  obtain ⟨k, k1, k2, k3, k4⟩ := orb_least hp hs
  by_cases hin : sS (fp c f) s s
  · refine ⟨met, stop met s _ hs ((hm s hs).2.mpr hin), fun e he => ⟨(hm e he).1, (hm e he).2.trans ⟨Or.inl, fun h => h.elim id (fun h => absurd hin h.1)⟩⟩⟩
  · have hno : ∀ i, ¬ sS (fp c f) s (itr (fp c f) i s) := fun i hi => hin ((sS_step hp (by omega) hs ⟨i, rfl⟩).mpr hi)
    refine it2_inv (fun i x y => x = nI (itr (fp c f) i s) ∧ ∀ e, e < 4 * c → (y e = 0 ∨ y e = 1) ∧ (y e = 1 ↔ sS (fp c f) s e ∨ ∃ j, j < i ∧ itr (fp c f) j s = e)) (fun r => ∃ met', r = K2 (v1 + t1) (v2 + 1) met' ∧ ∀ e, e < 4 * c → (met' e = 0 ∨ met' e = 1) ∧ (met' e = 1 ↔ sS (fp c f) (s + 1) e)) k (fun K i x y hi hI => ?_) (fun K x y hI => ?_) ⟨rfl, fun e he => ⟨(hm e he).1, (hm e he).2.trans ⟨Or.inl, fun h => h.elim id (fun ⟨_, h, _⟩ => absurd h (Nat.not_lt_zero _))⟩⟩⟩ (by omega)
    · obtain ⟨rfl, hS⟩ := hI
      have w0 := itr_lt hp hs i
      have hy : y (itr (fp c f) i s) = 0 := by
        rcases (hS _ w0).1 with z | z
        · exact z
        · rcases (hS _ w0).2.mp z with z | ⟨j, z1, z2⟩
          · exact absurd z (hno i)
          · exact absurd z2 (orb_inj hp hs k4 j i z1 hi)
      refine ⟨_, _, step y _ K w0 hy, rfl, fun e he => ?_⟩
      by_cases q : e = itr (fp c f) i s
      · subst q
        rw [pk_us]
        exact ⟨Or.inr rfl, fun _ => Or.inr ⟨i, by omega, rfl⟩, fun _ => rfl⟩
      · rw [pk_un q]
        refine ⟨(hS e he).1, (hS e he).2.trans ⟨fun h => h.elim Or.inl (fun ⟨j, h1, h2⟩ => Or.inr ⟨j, by omega, h2⟩), fun h => h.elim Or.inl (fun ⟨j, h1, h2⟩ => ?_)⟩⟩
        by_cases z : j = i
        · subst z; exact absurd h2.symm q
        · exact Or.inr ⟨j, by omega, h2⟩
    · obtain ⟨rfl, hS⟩ := hI
      have w0 := itr_lt hp hs k
      refine ⟨y, stop y _ K w0 ((hS _ w0).2.mpr (Or.inr ⟨0, by omega, by rw [k3]; rfl⟩)), fun e he => ⟨(hS e he).1, (hS e he).2.trans ?_⟩⟩
      show _ ↔ (sS _ _ _ ∨ _)
      rw [orb_iff k1 k3]
      exact ⟨fun h => h.elim Or.inl (fun h => Or.inr ⟨hin, h⟩), fun h => h.elim Or.inl (fun h => Or.inr h.2)⟩
theorem m_faceCount {now met : Nat → Int32} {c o : Nat} {f : Nat → Nat} (h : Mr now c o f) (hV : Vd c o f) : ∃ met', kX10_faceCount now met = some (nI (2 * o + cF (fp c f) (4 * c)), met') := by
  have hc := hV.1
  have hp := fp_perm hV
  unfold kX10_faceCount
  refine it2_inv (fun i x y => x = nI i ∧ ∀ e, e < i → y e = 0) (fun r => ∃ met', r = some (nI (2 * o + cF (fp c f) (4 * c)), met')) (4 * c) (fun K i x y hi hI => ?_) (fun K x y hI => ?_) ⟨rfl, fun e h => absurd h (Nat.not_lt_zero _)⟩ (by omega)
  · obtain ⟨rfl, hS⟩ := hI
    refine ⟨nI (i + 1), upd y i 0, ?_, rfl, fun e he => ?_⟩
    · unfold kX10_faceCount_L1
      rw [m_ends h, bnd1_e, if_neg (nI_ge hi (by omega)), ck_nI (by omega) (by omega), nI_clamp (by omega), nI_1, show ((0 : Int32) &&& 1) = 0 by decide]
    · by_cases q : e = i
      · rw [q, pk_us]
      · rw [pk_un q]; exact hS e (by omega)
  · obtain ⟨rfl, hS⟩ := hI
    unfold kX10_faceCount_L1
    rw [m_ends h, bnd1_e, if_pos (nI_le (Nat.le_refl _) (by omega)), ck_i (x := 1) (i := 1) rfl (by omega) (by omega), cl1, h.2.1]
    have e2 : (2 * nI o : Int32) = nI (2 * o) := pk_mul 2 o
    rw [e2]
    refine it3_inv (fun i x z y => z = nI i ∧ x = nI (2 * o + cF (fp c f) i) ∧ ∀ e, e < 4 * c → (y e = 0 ∨ y e = 1) ∧ (y e = 1 ↔ sS (fp c f) i e)) (fun r => ∃ met', r = some (nI (2 * o + cF (fp c f) (4 * c)), met')) (4 * c) (fun K i x z y hi hI => ?_) (fun K x z y hI => ?_) ⟨rfl, rfl, fun e he => ?_⟩ (by omega)
    · obtain ⟨rfl, rfl, hM⟩ := hI
      have mi := hM i hi
      unfold kX10_faceCount_L2 kX10_faceCount_J3
      rw [m_ends h, bnd1_e, if_neg (nI_ge hi (by omega)), ck_nI (by omega) (by omega), nI_clamp (by omega)]
      by_cases q : sS (fp c f) i i
      · have e1 : y i = 1 := mi.2.mpr q
        obtain ⟨met', g1, g2⟩ := m_followFace h hV hi hM K (nI (2 * o + cF (fp c f) i)) 0 (nI i)
        refine ⟨nI (2 * o + cF (fp c f) (i + 1)), nI (i + 1), met', ?_, rfl, rfl, g2⟩
        rw [e1, if_neg (by decide), g1, cF_yes q, nI_1, show (0 : Int32) = nI 0 from rfl, nI_add, Nat.add_zero]
      · have e1 : y i = 0 := by
          rcases mi.1 with z | z
          · exact z
          · exact absurd (mi.2.mp z) q
        obtain ⟨met', g1, g2⟩ := m_followFace h hV hi hM K (nI (2 * o + cF (fp c f) i)) 1 (nI i)
        refine ⟨nI (2 * o + cF (fp c f) (i + 1)), nI (i + 1), met', ?_, rfl, rfl, g2⟩
        rw [e1, if_pos rfl, g1, cF_no q, nI_1, nI_1]
        rfl
    · obtain ⟨rfl, rfl, hM⟩ := hI
      refine ⟨y, ?_⟩
      unfold kX10_faceCount_L2
      rw [m_ends h, bnd1_e, if_pos (nI_le (Nat.le_refl _) (by omega))]
    · rw [hS e he]
      exact ⟨Or.inl rfl, fun h => absurd h (by decide), fun h => h.elim⟩
