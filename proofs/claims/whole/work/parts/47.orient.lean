/-! ===== orientation ===== -/
/-- the ends that are entered before arc n's turn -/
def eS (c : Nat) (f : Nat → Nat) : Nat → Nat → Prop
  | 0, _ => False
  | n + 1, x => eS c f n x ∨ ∃ p, p < 4 * c ∧ f p = n ∧ (∀ q, q < p → f q ≠ n) ∧ ¬ eS c f n p ∧ ¬ eS c f n (ot c f p) ∧ Orb (p2 c f) (ot c f p) x
def OKm (c : Nat) (f : Nat → Nat) (n : Nat) (m : Int32) : Prop :=
  (∀ w, w < 32 → (bt m w = true ↔ eS c f n w)) ∧ (∀ x, x < 4 * c → sym m x = sym m (ot c f x)) ∧ (∀ y, y < 4 * c → bt m y = true → bt m (tn 2 y) = false) ∧ (∀ y, y < 4 * c → bt m y = true → bt m (p2 c f y) = true) ∧ ∀ x, x < 4 * c → f x < n → sym m x = true
theorem OKm.zero (c : Nat) (f : Nat → Nat) : OKm c f 0 0 := by
  refine ⟨fun w _ => ?_, fun x _ => ?_, fun y _ h => ?_, fun y _ h => ?_, fun x _ h => absurd h (Nat.not_lt_zero _)⟩
  · rw [b_0]; exact ⟨fun h => (by cases h), fun h => h.elim⟩
  · unfold sym; rw [b_0, b_0, b_0, b_0]
  · rw [b_0] at h; cases h
  · rw [b_0] at h; cases h
theorem e_step {a : Nat → Int32} {c o : Nat} {f : Nat → Nat} (hA : Rp a f) (hV : Vd c o f) {n : Nat} (hn : n ≤ 16) {m : Int32} (hm : OKm c f n m) (K : Int32 → Int32 → Option Int32) : ∃ m', kX7_enteredEnds_L1 (nI c) a K m (nI n) = K m' (nI (n + 1)) ∧ OKm c f (n + 1) m' := by
  have hc := hV.1
  have ht := ot_inv hV
  have hs := tn2_inv c
  have hp := p2_perm hV
  obtain ⟨h1, h2, h3, h4, h5⟩ := hm
  have g0 : ¬ (16 : Int32) < nI n := by rw [fa_lit 16]; exact nI_nlt (by omega) (by omega)
  have same : (∀ x, eS c f (n + 1) x ↔ eS c f n x) → (∀ x, x < 4 * c → f x = n → sym m x = true) → OKm c f (n + 1) m := fun e1 e2 =>
    ⟨fun w hw => (h1 w hw).trans (e1 w).symm, h2, h3, h4, fun x hx h => by
      by_cases q : f x = n
      · exact e2 x hx q
      · exact h5 x hx (by omega)⟩
  by_cases hex : ∃ p, p < 4 * c ∧ f p = n
  · obtain ⟨p, ⟨p1, p2'⟩, p3⟩ := pk_least (fun p => p < 4 * c ∧ f p = n) hex
    have p3' : ∀ q, q < p → f q ≠ n := fun q hq e => p3 q hq ⟨by omega, e⟩
    have honly : ∀ q, q < 4 * c → f q = n → (∀ z, z < q → f z ≠ n) → q = p := fun q hq e hz => by
      rcases Nat.lt_trichotomy q p with z | z | z
      · exact absurd e (p3' q z)
      · exact z
      · exact absurd p2' (hz p z)
    have hx2 : ∀ x, x < 4 * c → f x = n → x = p ∨ x = ot c f p := fun x hx e => ot_only hV p1 hx (by rw [p2', e])
    have ho := ot_is hV p1
    have t1 := ho.1
    have eff := q_first hA hc (by omega : n ≤ 16) p1 p2' p3'
    have mp := h1 p (by omega)
    have mo := h1 (ot c f p) (by omega)
    have run : kX7_enteredEnds_L1 (nI c) a K m (nI n) = (if bt m p = true then K m (nI (n + 1)) else if bt m (ot c f p) = true then K m (nI (n + 1)) else bnd1 (kX7_enterFrom (nI (ot c f p)) m (nI c) a) (fun r => K r (nI (n + 1)))) := by
      unfold kX7_enteredEnds_L1
      rw [if_neg g0, eff, bnd1_e, if_pos (nI_pos' (by omega)), q_oe hA hc p1 ho, bnd1_e, q_contains (by omega), bnd1_e]
      by_cases b1 : bt m p = true
      · rw [if_pos b1, if_pos b1, if_neg (by decide), nI_1]
      · rw [if_neg b1, if_neg b1, if_pos rfl, q_contains (by omega), bnd1_e]
        by_cases b2 : bt m (ot c f p) = true
        · rw [if_pos b2, if_pos b2, if_neg (by decide), nI_1]
        · rw [if_neg b2, if_neg b2, if_pos rfl, nI_1]
    rw [run]
    by_cases b1 : bt m p = true
    · refine ⟨m, if_pos b1, same (fun x => ⟨fun h => h.elim id (fun ⟨q, q1, q2, q3, q4, q5, q6⟩ => ?_), Or.inl⟩) (fun x hx e => ?_)⟩
      · rw [honly q q1 q2 q3] at q4
        exact absurd (mp.mp b1) q4
      · have s1 : sym m p = true := by unfold sym; rw [b1]; rfl
        rcases hx2 x hx e with z | z
        · rw [z]; exact s1
        · rw [z, ← h2 p p1]; exact s1
    · by_cases b2 : bt m (ot c f p) = true
      · refine ⟨m, by rw [if_neg b1, if_pos b2], same (fun x => ⟨fun h => h.elim id (fun ⟨q, q1, q2, q3, q4, q5, q6⟩ => ?_), Or.inl⟩) (fun x hx e => ?_)⟩
        · rw [honly q q1 q2 q3] at q5
          exact absurd (mo.mp b2) q5
        · have s1 : sym m (ot c f p) = true := by unfold sym; rw [b2]; rfl
          rcases hx2 x hx e with z | z
          · rw [z, h2 p p1]; exact s1
          · rw [z]; exact s1
      · have b1' : bt m p = false := by simpa using b1
        have b2' : bt m (ot c f p) = false := by simpa using b2
        have hsn : sym m (ot c f p) = false := by
          unfold sym
          rw [b2', Bool.false_or]
          cases z : bt m (tn 2 (ot c f p)) with
          | false => rfl
          | true =>
            have := h4 _ (hs _ t1).1 z
            unfold p2 at this
            rw [(hs _ t1).2.1, (ht _ p1).2.1, b1'] at this
            cases this
        obtain ⟨m', e1, e2, e3, e4⟩ := q_enterFrom hA hV t1 hsn h2
        have hES : ∀ x, eS c f (n + 1) x ↔ eS c f n x ∨ Orb (p2 c f) (ot c f p) x := fun x => by
          constructor
          · rintro (h | ⟨q, q1, q2, q3, q4, q5, q6⟩)
            · exact Or.inl h
            · rw [honly q q1 q2 q3] at q6; exact Or.inr q6
          · rintro (h | h)
            · exact Or.inl h
            · exact Or.inr ⟨p, p1, p2', p3', fun z => b1 (mp.mpr z), fun z => b2 (mo.mpr z), h⟩
        refine ⟨m', by rw [if_neg b1, if_neg b2, e1, bnd1_e], fun w hw => ?_, e2.2.1, e4 h3, fun y hy hb => ?_, fun x hx hlt => ?_⟩
        · rw [e3 w hw, hES w, h1 w hw]
        · have hpy := (hp y hy).1
          rcases (e3 y (by omega)).mp hb with z | ⟨k, z⟩
          · exact (e3 _ (by omega)).mpr (Or.inl (h4 y hy z))
          · exact (e3 _ (by omega)).mpr (Or.inr ⟨k + 1, by show p2 c f _ = _; rw [z]⟩)
        · by_cases q : f x = n
          · rcases hx2 x hx q with z | z
            · rw [z, e2.2.1 p p1]; exact e2.2.2.1
            · rw [z]; exact e2.2.2.1
          · exact e2.2.2.2.1 x hx (h5 x hx (by omega))
  · have hno : ∀ x, x < 4 * c → f x ≠ n := fun x hx e => hex ⟨x, hx, e⟩
    refine ⟨m, ?_, same (fun x => ⟨fun h => h.elim id (fun ⟨q, q1, q2, _⟩ => absurd q2 (hno q q1)), Or.inl⟩) (fun x hx e => absurd e (hno x hx))⟩
    unfold kX7_enteredEnds_L1
    rw [if_neg g0, q_firstNone hA hc (by omega) hno, bnd1_e, if_neg (by decide), nI_1]
theorem e_all {a : Nat → Int32} {c o : Nat} {f : Nat → Nat} (hA : Rp a f) (hV : Vd c o f) : ∀ n, n ≤ 17 → ∃ m, OKm c f n m
  | 0, _ => ⟨0, OKm.zero c f⟩
  | n + 1, h => by
    obtain ⟨m, hm⟩ := e_all hA hV n (by omega)
    obtain ⟨m', _, h2⟩ := e_step hA hV (by omega) hm (fun _ _ => none)
    exact ⟨m', h2⟩
theorem OKm.one {c o : Nat} {f : Nat → Nat} (hV : Vd c o f) : OKm c f 1 0 := by
  have h := OKm.zero c f
  refine ⟨fun w hw => (h.1 w hw).trans ⟨Or.inl, fun z => ?_⟩, h.2.1, h.2.2.1, h.2.2.2.1, fun x hx hlt => ?_⟩
  · rcases z with z | ⟨p, g1, g2, _⟩
    · exact z
    · have g3 : f p = 0 := g2
      have := (hV.2.2.2.1 p g1).1
      omega
  · have := (hV.2.2.2.1 x hx).1
    omega
theorem q_entered {a : Nat → Int32} {c o : Nat} {f : Nat → Nat} (hA : Rp a f) (hV : Vd c o f) : ∃ m, kX7_enteredEnds (nI c) a = some m ∧ OKm c f 17 m := by
  unfold kX7_enteredEnds
  refine it2_inv (fun i x y => y = nI (1 + i) ∧ OKm c f (1 + i) x) (fun r => ∃ m, r = some m ∧ OKm c f 17 m) 16 (fun K i x y hi hI => ?_) (fun K x y hI => ?_) ⟨rfl, OKm.one hV⟩ (by omega)
  · obtain ⟨rfl, hm⟩ := hI
    obtain ⟨m', e1, e2⟩ := e_step hA hV (by omega) hm K
    exact ⟨m', nI (1 + i + 1), e1, by rw [show 1 + (i + 1) = 1 + i + 1 by omega], by rw [show 1 + (i + 1) = 1 + i + 1 by omega]; exact e2⟩
  · obtain ⟨rfl, hm⟩ := hI
    refine ⟨x, ?_, hm⟩
    unfold kX7_enteredEnds_L1
    rw [if_pos (by decide)]
def sgn (m : Int32) (v : Nat) : Int32 := if bt m (4 * v) = bt m (4 * v + 3) then 1 else -1
theorem q_sign {m : Int32} {v : Nat} (hv : v < 8) : kX7_sign (nI v) m = some (sgn m v) := by
  have e1 : (4 * nI v : Int32) = nI (4 * v) := pk_mul 4 v
  have e2 : (nI (4 * v) + 3 : Int32) = nI (4 * v + 3) := nI_add (4 * v) 3
  unfold kX7_sign sgn
  rw [e1, q_contains (by omega), bnd1_e, e2, q_contains (by omega), bnd1_e]
  cases bt m (4 * v) <;> cases bt m (4 * v + 3) <;> rfl
def sgs (m : Int32) : Nat → Int32
  | 0 => 0
  | n + 1 => sgs m n + sgn m n
theorem q_signSum {a : Nat → Int32} {c o : Nat} {f : Nat → Nat} {m : Int32} (hV : Vd c o f) (he : kX7_enteredEnds (nI c) a = some m) : kX7_signSum (nI c) a = some (sgs m c) := by
  have hc := hV.1
  unfold kX7_signSum
  rw [he, bnd1_e]
  refine it2_run (fun i => sgs m i) (fun i => nI i) c (fun K i hi => ?_) (fun K => ?_) rfl rfl (by omega)
  · unfold kX7_signSum_L1
    rw [if_neg (nI_ge hi (by omega)), q_sign (by omega), bnd1_e, nI_1]
    rfl
  · unfold kX7_signSum_L1
    rw [if_pos (nI_le (Nat.le_refl _) (by omega))]
/-! the reference's -/
def ixE (y : Nat) : Nat := y / 4 * 2 + y % 2
theorem ixE_eq {x y : Nat} (h : ixE x = ixE y) : x = y ∨ x = tn 2 y := by unfold ixE at h; unfold tn; omega
def EnR (c : Nat) (S : Nat → Prop) (entry : Nat → Int32) : Prop := ∀ y, y < 4 * c → S y → entry (ixE y) = nI (y % 4)
def PaR (c : Nat) (f : Nat → Nat) (S : Nat → Prop) (passed : Nat → Int32) : Prop := ∀ a, a ≤ 16 → (passed a = 0 ∨ passed a = 1) ∧ (passed a = 1 ↔ ∃ x, x < 4 * c ∧ f x = a ∧ S x)
theorem m_follow {now entry passed : Nat → Int32} {c o : Nat} {f : Nat → Nat} (h : Mr now c o f) (hV : Vd c o f) {S : Nat → Prop} {start : Nat} (hst : start < 4 * c) (hE : EnR c S entry) (hP : PaR c f S passed)
    (hd : ∀ y, y < 4 * c → (S y ∨ Orb (p2 c f) start y) → ¬ (S (tn 2 y) ∨ Orb (p2 c f) start (tn 2 y))) : ∃ entry' passed', kX10_follow (nI start) now entry passed = some (entry', passed') ∧ EnR c (fun y => S y ∨ Orb (p2 c f) start y) entry' ∧ PaR c f (fun y => S y ∨ Orb (p2 c f) start y) passed' := by
  have hc := hV.1
  have hs := tn2_inv c
  have hp := p2_perm hV
  obtain ⟨k, k1, k2, k3, k4⟩ := orb_least hp hst
  unfold kX10_follow
  refine it4_inv (F := kX10_follow_L1 now (nI start)) (x1 := nI start) (n := 400) (fun i x y z w => x = nI (itr (p2 c f) i start) ∧ y = (if i < k then 1 else 0) ∧ EnR c (fun y => S y ∨ ∃ j, j < i ∧ itr (p2 c f) j start = y) z ∧ PaR c f (fun y => S y ∨ ∃ j, j < i ∧ itr (p2 c f) j start = y) w)
    (fun r => ∃ entry' passed', r = some (entry', passed') ∧ EnR c (fun y => S y ∨ Orb (p2 c f) start y) entry' ∧ PaR c f (fun y => S y ∨ Orb (p2 c f) start y) passed') k (fun K i x y z w hi hI => ?_) (fun K x y z w hI => ?_) ⟨rfl, by rw [if_pos (by omega)], fun y hy h => h.elim (hE y hy) (fun ⟨_, h, _⟩ => absurd h (Nat.not_lt_zero _)), fun a ha => ⟨(hP a ha).1, (hP a ha).2.trans ⟨fun ⟨x, h1, h2, h3⟩ => ⟨x, h1, h2, Or.inl h3⟩, fun ⟨x, h1, h2, h3⟩ => ⟨x, h1, h2, h3.elim id (fun ⟨_, h, _⟩ => absurd h (Nat.not_lt_zero _))⟩⟩⟩⟩ (by omega)
  · obtain ⟨rfl, rfl, hz, hw⟩ := hI
    have w0 := itr_lt hp hst i
    have t1 := (hs _ w0).1
    have ho := ot_is hV t1
    have fb := hV.2.2.2.1 _ w0
    have e1 : (nI (itr (p2 c f) i start) / 4 * 2 + irem (nI (itr (p2 c f) i start)) 2 : Int32) = nI (ixE (itr (p2 c f) i start)) := by
      unfold ixE
      simp (disch := omega) only [fa_lit, irem_nI, pk_div, nI_add, pk_mul, nI_ltI, nI_leI, nI_eq, nI_clamp, ck_nI, bnd0_e, bnd1_e, bnd2_e, bnd3_e, bnd4_e, if_pos, if_neg, reduceIte]
    have e2 : (irem (nI (itr (p2 c f) i start)) 4 : Int32) = nI (itr (p2 c f) i start % 4) := by
      simp (disch := omega) only [fa_lit, irem_nI, pk_div, nI_add, pk_mul, nI_ltI, nI_leI, nI_eq, nI_clamp, ck_nI, bnd0_e, bnd1_e, bnd2_e, bnd3_e, bnd4_e, if_pos, if_neg, reduceIte]
    have e3 : kX10_turn (nI (itr (p2 c f) i start)) 2 = some (nI (tn 2 (itr (p2 c f) i start))) := m_turnT (k := 2) (by omega) (by omega)
    have e5 : itr (p2 c f) (i + 1) start = ot c f (tn 2 (itr (p2 c f) i start)) := rfl
    have hix : ixE (itr (p2 c f) i start) < 16 := by unfold ixE; omega
    refine ⟨nI (itr (p2 c f) (i + 1) start), if i + 1 < k then 1 else 0, upd z (ixE (itr (p2 c f) i start)) (nI (itr (p2 c f) i start % 4)), upd w (f (itr (p2 c f) i start)) 1, ?_, rfl, rfl, fun y hy hy2 => ?_, fun a ha => ?_⟩
    · unfold kX10_follow_L1
      rw [if_pos hi, if_neg (by decide), e1, ck_nI hix (by omega), m_arc h (by omega), bnd1_e, ck_nI (by omega) (by omega), e3, bnd1_e, m_other h hV.le16 hc t1 ho, bnd1_e, e2, nI_clamp (by omega), nI_clamp (by omega), ← e5, show ((1 : Int32) &&& 1) = 1 by decide]
      by_cases q : i + 1 = k
      · rw [if_neg (show ¬ i + 1 < k by omega), q, k3, if_pos rfl]
      · rw [if_pos (show i + 1 < k by omega), if_neg (fun e => k4 (i + 1) (by omega) (by omega) ((nI_eq (by have := itr_lt hp hst (i + 1); omega) (by omega)).mp e))]
    · by_cases q : y = itr (p2 c f) i start
      · subst q; rw [pk_us]
      · have hy3 : S y ∨ ∃ j, j < i ∧ itr (p2 c f) j start = y := hy2.elim Or.inl (fun ⟨j, h1, h2⟩ => by
          by_cases r : j = i
          · subst r; exact absurd h2.symm q
          · exact Or.inr ⟨j, by omega, h2⟩)
        rw [pk_un (fun e => ?_)]
        · exact hz y hy hy3
        · rcases ixE_eq e with r | r
          · exact q r
          · refine hd _ w0 (Or.inr ⟨i, rfl⟩) ?_
            rw [← r]
            exact hy3.elim Or.inl (fun ⟨j, _, h2⟩ => Or.inr ⟨j, h2⟩)
    · by_cases q : a = f (itr (p2 c f) i start)
      · subst q
        rw [pk_us]
        exact ⟨Or.inr rfl, fun _ => ⟨_, w0, rfl, Or.inr ⟨i, by omega, rfl⟩⟩, fun _ => rfl⟩
      · rw [pk_un q]
        refine ⟨(hw a ha).1, (hw a ha).2.trans ⟨fun ⟨x, h1, h2, h3⟩ => ⟨x, h1, h2, h3.elim Or.inl (fun ⟨j, g1, g2⟩ => Or.inr ⟨j, by omega, g2⟩)⟩, fun ⟨x, h1, h2, h3⟩ => ⟨x, h1, h2, h3.elim Or.inl (fun ⟨j, g1, g2⟩ => ?_)⟩⟩⟩
        by_cases r : j = i
        · subst r; exact absurd (by rw [g2, h2]) q
        · exact Or.inr ⟨j, by omega, g2⟩
  · obtain ⟨rfl, rfl, hz, hw⟩ := hI
    refine ⟨z, w, ?_, fun y hy h => hz y hy (h.elim Or.inl (fun h => Or.inr ((orb_iff k1 k3).mp h))), fun a ha => ⟨(hw a ha).1, (hw a ha).2.trans ?_⟩⟩
    · unfold kX10_follow_L1
      rw [if_neg (Nat.lt_irrefl k), if_pos rfl]
    · constructor
      · rintro ⟨x, h1, h2, h3⟩
        exact ⟨x, h1, h2, h3.elim Or.inl (fun ⟨j, _, g⟩ => Or.inr ⟨j, g⟩)⟩
      · rintro ⟨x, h1, h2, h3⟩
        exact ⟨x, h1, h2, h3.elim Or.inl (fun h => Or.inr ((orb_iff k1 k3).mp h))⟩
theorem m_first {now : Nat → Int32} {c o : Nat} {f : Nat → Nat} (h : Mr now c o f) (hV : Vd c o f) {a : Nat} (ha : a ≤ 16) {entry passed : Nat → Int32} (K2 : Int32 → (Nat → Int32) → (Nat → Int32) → Option ((Nat → Int32) × (Nat → Int32))) :
    ∃ v : Int32, (∃ K3, it2 (kX10_orient_L3 K2 (nI a) entry passed now) 400 (-1) (nI (4 * c) - 1) = kX10_orient_L3 K2 (nI a) entry passed now K3 v (-1)) ∧ ((∃ p, p < 4 * c ∧ f p = a ∧ (∀ q, q < p → f q ≠ a) ∧ v = nI p) ∨ ((∀ p, p < 4 * c → f p ≠ a) ∧ v = -1)) := by
  have hc := hV.1
  refine it2_inv (F := kX10_orient_L3 K2 (nI a) entry passed now) (x1 := -1) (x2 := nI (4 * c) - 1) (n := 400) (fun i x y => y = nI (4 * c - i) - 1 ∧ ((∃ p, 4 * c - i ≤ p ∧ p < 4 * c ∧ f p = a ∧ (∀ q, 4 * c - i ≤ q → q < p → f q ≠ a) ∧ x = nI p) ∨ ((∀ p, 4 * c - i ≤ p → p < 4 * c → f p ≠ a) ∧ x = -1)))
    (fun r => ∃ v : Int32, (∃ K3, r = kX10_orient_L3 K2 (nI a) entry passed now K3 v (-1)) ∧ ((∃ p, p < 4 * c ∧ f p = a ∧ (∀ q, q < p → f q ≠ a) ∧ v = nI p) ∨ ((∀ p, p < 4 * c → f p ≠ a) ∧ v = -1))) (4 * c) (fun K i x y hi hI => ?_) (fun K x y hI => ?_) ⟨rfl, Or.inr ⟨fun p h1 h2 => by omega, rfl⟩⟩ (by omega)
  · obtain ⟨rfl, hx⟩ := hI
    have e1 : (nI (4 * c - i) - 1 : Int32) = nI (4 * c - i - 1) := pk_sub (b := 1) (by omega)
    have e2 : 4 * c - (i + 1) = 4 * c - i - 1 := by omega
    have e3 : (nI (4 * c - i - 1) + (-1) : Int32) = nI (4 * c - i - 1) - 1 := by rw [Int32.sub_eq_add_neg]
    have fb := hV.le16 (4 * c - i - 1)
    have run : kX10_orient_L3 K2 (nI a) entry passed now K x (nI (4 * c - i) - 1) = (if f (4 * c - i - 1) = a then K (nI (4 * c - i - 1)) (nI (4 * c - i - 1) - 1) else K x (nI (4 * c - i - 1) - 1)) := by
      unfold kX10_orient_L3
      rw [e1, if_neg (nI_pos (by omega)), m_arc h (by omega), bnd1_e, e3]
      by_cases q : f (4 * c - i - 1) = a
      · rw [if_pos q, if_pos (by rw [q])]
      · rw [if_neg q, if_neg (fun z => q ((nI_eq (by omega) (by omega)).mp z))]
    rw [run, e2]
    by_cases q : f (4 * c - i - 1) = a
    · exact ⟨_, _, if_pos q, rfl, Or.inl ⟨4 * c - i - 1, Nat.le_refl _, by omega, q, fun z h1 h2 => by omega, rfl⟩⟩
    · refine ⟨_, _, if_neg q, rfl, hx.elim (fun ⟨p, h1, h2, h3, h4, h5⟩ => Or.inl ⟨p, by omega, h2, h3, fun z g1 g2 => ?_, h5⟩) (fun ⟨h1, h2⟩ => Or.inr ⟨fun z g1 g2 => ?_, h2⟩)⟩
      · by_cases r : z = 4 * c - i - 1
        · rw [r]; exact q
        · exact h4 z (by omega) g2
      · by_cases r : z = 4 * c - i - 1
        · rw [r]; exact q
        · exact h1 z (by omega) g2
  · obtain ⟨rfl, hx⟩ := hI
    have e1 : 4 * c - 4 * c = 0 := by omega
    rw [e1] at hx ⊢
    refine ⟨x, ⟨K, rfl⟩, hx.elim (fun ⟨p, h1, h2, h3, h4, h5⟩ => Or.inl ⟨p, h2, h3, fun z g => h4 z (Nat.zero_le _) g, h5⟩) (fun ⟨h1, h2⟩ => Or.inr ⟨fun p g => h1 p (Nat.zero_le _) g, h2⟩)⟩
theorem m_orient {now entry passed : Nat → Int32} {a : Nat → Int32} {c o : Nat} {f : Nat → Nat} (hA : Rp a f) (h : Mr now c o f) (hV : Vd c o f) : ∃ entry' passed', kX10_orient now entry passed = some (entry', passed') ∧ EnR c (eS c f 17) entry' := by
  have hc := hV.1
  have hs := tn2_inv c
  unfold kX10_orient
  refine it2_inv (F := kX10_orient_L1 now entry) (x1 := 0) (x2 := passed) (n := 400) (fun i x y => x = nI i ∧ ∀ j, j < i → y j = 0) (fun r => ∃ entry' passed', r = some (entry', passed') ∧ EnR c (eS c f 17) entry') 17 (fun K i x y hi hI => ?_) (fun K x y hI => ?_) ⟨rfl, fun j hj => absurd hj (Nat.not_lt_zero _)⟩ (by omega)
  · obtain ⟨rfl, hy⟩ := hI
    refine ⟨nI (i + 1), upd y i 0, ?_, rfl, fun j hj => ?_⟩
    · unfold kX10_orient_L1
      rw [if_neg (by rw [fa_lit 16]; exact nI_nlt (by omega) (by omega)), ck_nI (by omega) (by omega), nI_clamp (by omega), nI_1, show ((0 : Int32) &&& 1) = 0 by decide]
    · by_cases q : j = i
      · rw [q, pk_us]
      · rw [pk_un q]; exact hy j (by omega)
  · obtain ⟨rfl, hy⟩ := hI
    have z1 : ∀ x, ¬ eS c f 1 x := fun x z => by
      rcases z with z | ⟨p, g1, g2, _⟩
      · exact z
      · have g3 : f p = 0 := g2
        have := (hV.2.2.2.1 p g1).1
        omega
    have run : kX10_orient_L1 now entry K (nI 17) y = it3 (kX10_orient_L2 now) 400 1 entry y := by
      unfold kX10_orient_L1
      rw [if_pos (by decide)]
    rw [run]
    refine it3_inv (F := kX10_orient_L2 now) (x1 := 1) (x2 := entry) (x3 := y) (n := 400) (fun i x z w => x = nI (1 + i) ∧ EnR c (eS c f (1 + i)) z ∧ PaR c f (eS c f (1 + i)) w) (fun r => ∃ entry' passed', r = some (entry', passed') ∧ EnR c (eS c f 17) entry') 16 (fun K i x z w hi hI => ?_) (fun K x z w hI => ?_) ⟨rfl, fun y _ g => absurd g (z1 y), fun b hb => ?_⟩ (by omega)
    · obtain ⟨rfl, hz, hw⟩ := hI
      obtain ⟨m, hm⟩ := e_all hA hV (1 + i) (by omega)
      obtain ⟨m', hm'⟩ := e_all hA hV (1 + i + 1) (by omega)
      obtain ⟨v, ⟨K3, e1⟩, hv⟩ := m_first h hV (a := 1 + i) (by omega) (entry := z) (passed := w) K
      have wa := hw (1 + i) (by omega)
      have run : kX10_orient_L2 now K (nI (1 + i)) z w = kX10_orient_L3 K (nI (1 + i)) z w now K3 v (-1) := by
        rw [← e1]
        unfold kX10_orient_L2
        rw [if_neg (by rw [fa_lit 16]; exact nI_nlt (by omega) (by omega)), m_ends h, bnd1_e]
      rw [run]
      have e5 : 1 + (i + 1) = 1 + i + 1 := by omega
      rw [e5]
      rcases hv with ⟨p, p1, g2, g3, rfl⟩ | ⟨hno, rfl⟩
      · have ho := ot_is hV p1
        have t1 := ho.1
        have hx2 : ∀ x, x < 4 * c → f x = 1 + i → x = p ∨ x = ot c f p := fun x hx e => ot_only hV p1 hx (by rw [g2, e])
        have honly : ∀ q, q < 4 * c → f q = 1 + i → (∀ z, z < q → f z ≠ 1 + i) → q = p := fun q hq e hz => by
          rcases Nat.lt_trichotomy q p with z | z | z
          · exact absurd e (g3 q z)
          · exact z
          · exact absurd g2 (hz p z)
        have run2 : kX10_orient_L3 K (nI (1 + i)) z w now K3 (nI p) (-1) = (if w (1 + i) = 0 then bnd2 (kX10_follow (nI (ot c f p)) now z w) (fun a b => K (nI (1 + i + 1)) a b) else K (nI (1 + i + 1)) z w) := by
          unfold kX10_orient_L3
          rw [if_pos (by decide), if_neg (nI_pos (by omega)), ck_nI (by omega) (by omega), nI_clamp (by omega), m_other h hV.le16 hc p1 ho, bnd1_e, nI_1]
        rw [run2]
        by_cases q : w (1 + i) = 0
        · have hnp : ¬ ∃ x, x < 4 * c ∧ f x = 1 + i ∧ eS c f (1 + i) x := fun z => by
            have := wa.2.mpr z
            rw [q] at this
            exact absurd this (by decide)
          have n1 : ¬ eS c f (1 + i) p := fun z => hnp ⟨p, p1, g2, z⟩
          have n2 : ¬ eS c f (1 + i) (ot c f p) := fun z => hnp ⟨_, t1, by rw [ho.2.2.1]; exact g2, z⟩
          have hES : ∀ x, eS c f (1 + i + 1) x ↔ eS c f (1 + i) x ∨ Orb (p2 c f) (ot c f p) x := fun x => by
            constructor
            · rintro (h | ⟨q, q1, q2, q3, q4, q5, q6⟩)
              · exact Or.inl h
              · rw [honly q q1 q2 q3] at q6; exact Or.inr q6
            · rintro (h | h)
              · exact Or.inl h
              · exact Or.inr ⟨p, p1, g2, g3, n1, n2, h⟩
          obtain ⟨en, pa, f1, f2, f3⟩ := m_follow h hV t1 hz hw (fun y hy hy2 hy3 => by
            have a1 := (hm'.1 y (by omega)).mpr ((hES y).mpr hy2)
            have a2 := (hm'.1 (tn 2 y) (by have := (hs y hy).1; omega)).mpr ((hES _).mpr hy3)
            rw [hm'.2.2.1 y hy a1] at a2
            cases a2)
          refine ⟨nI (1 + i + 1), en, pa, ?_, rfl, fun y hy g => f2 y hy ((hES y).mp g), fun b hb => ⟨(f3 b hb).1, (f3 b hb).2.trans ⟨fun ⟨x, h1, h2, h3⟩ => ⟨x, h1, h2, (hES x).mpr h3⟩, fun ⟨x, h1, h2, h3⟩ => ⟨x, h1, h2, (hES x).mp h3⟩⟩⟩⟩
          rw [if_pos q, f1, bnd2_e]
        · have hyes : w (1 + i) = 1 := wa.1.resolve_left q
          obtain ⟨x, x1, x2, x3⟩ := wa.2.mp hyes
          have hES : ∀ x, eS c f (1 + i + 1) x ↔ eS c f (1 + i) x := fun y => ⟨fun g => g.elim id (fun ⟨q, q1, q2, q3, q4, q5, q6⟩ => by
            rw [honly q q1 q2 q3] at q4 q5
            rcases hx2 x x1 x2 with r | r
            · rw [r] at x3; exact absurd x3 q4
            · rw [r] at x3; exact absurd x3 q5), Or.inl⟩
          refine ⟨nI (1 + i + 1), z, w, if_neg q, rfl, fun y hy g => hz y hy ((hES y).mp g), fun b hb => ⟨(hw b hb).1, (hw b hb).2.trans ⟨fun ⟨x, h1, h2, h3⟩ => ⟨x, h1, h2, (hES x).mpr h3⟩, fun ⟨x, h1, h2, h3⟩ => ⟨x, h1, h2, (hES x).mp h3⟩⟩⟩⟩
      · have hES : ∀ x, eS c f (1 + i + 1) x ↔ eS c f (1 + i) x := fun y => ⟨fun g => g.elim id (fun ⟨q, q1, q2, _⟩ => absurd q2 (hno q q1)), Or.inl⟩
        refine ⟨nI (1 + i + 1), z, w, ?_, rfl, fun y hy g => hz y hy ((hES y).mp g), fun b hb => ⟨(hw b hb).1, (hw b hb).2.trans ⟨fun ⟨x, h1, h2, h3⟩ => ⟨x, h1, h2, (hES x).mpr h3⟩, fun ⟨x, h1, h2, h3⟩ => ⟨x, h1, h2, (hES x).mp h3⟩⟩⟩⟩
        unfold kX10_orient_L3
        rw [if_pos (by decide), if_pos (by decide), nI_1]
    · obtain ⟨rfl, hz, hw⟩ := hI
      refine ⟨z, w, ?_, hz⟩
      unfold kX10_orient_L2
      rw [if_pos (by decide)]
    · rw [hy b (by omega)]
      exact ⟨Or.inl rfl, fun g => absurd g (by decide), fun ⟨x, _, _, g⟩ => absurd g (z1 x)⟩
theorem m_sign {entry : Nat → Int32} {c : Nat} {f : Nat → Nat} {m : Int32} (hc : c ≤ 8) (hm : OKm c f 17 m) (hb : ∀ e, f e ≤ 16) (hE : EnR c (eS c f 17) entry) {v : Nat} (hv : v < c) : kX10_sign (nI v) entry = some (sgn m v) := by
  have en : ∀ y, y < 4 * c → bt m y = true → entry (ixE y) = nI (y % 4) := fun y hy h => hE y hy ((hm.1 y (by omega)).mp h)
  have dis := hm.2.2.1
  have cov : ∀ y, y < 4 * c → bt m y = true ∨ bt m (tn 2 y) = true := fun y hy => by
    have := hm.2.2.2.2 y hy (by have := hb y; omega)
    unfold sym at this
    simpa using this
  have e1 : (2 * nI v : Int32) = nI (2 * v) := pk_mul 2 v
  have e2 : (nI (2 * v) + 1 : Int32) = nI (2 * v + 1) := nI_add (2 * v) 1
  have t0 : tn 2 (4 * v) = 4 * v + 2 := by unfold tn; omega
  have t3 : tn 2 (4 * v + 3) = 4 * v + 1 := by unfold tn; omega
  have i0 : ixE (4 * v) = 2 * v := by unfold ixE; omega
  have i2 : ixE (4 * v + 2) = 2 * v := by unfold ixE; omega
  have i3 : ixE (4 * v + 3) = 2 * v + 1 := by unfold ixE; omega
  have i1 : ixE (4 * v + 1) = 2 * v + 1 := by unfold ixE; omega
  have r0 : 4 * v % 4 = 0 := by omega
  have r2 : (4 * v + 2) % 4 = 2 := by omega
  have r3 : (4 * v + 3) % 4 = 3 := by omega
  have r1 : (4 * v + 1) % 4 = 1 := by omega
  have under : (entry (2 * v) = 0) ↔ bt m (4 * v) = true := by
    constructor
    · intro h
      rcases cov (4 * v) (by omega) with q | q
      · exact q
      · rw [t0] at q
        have := en _ (by omega) q
        rw [i2, r2, h] at this
        exact absurd this (by decide)
    · intro q
      have := en _ (by omega) q
      rw [i0, r0] at this
      exact this
  have over : (entry (2 * v + 1) = 3) ↔ bt m (4 * v + 3) = true := by
    constructor
    · intro h
      rcases cov (4 * v + 3) (by omega) with q | q
      · exact q
      · rw [t3] at q
        have := en _ (by omega) q
        rw [i1, r1, h] at this
        exact absurd this (by decide)
    · intro q
      have := en _ (by omega) q
      rw [i3, r3] at this
      exact this
  unfold kX10_sign kX10_sign_J1 kX10_sign_J2 sgn
  rw [e1, e2, ck_nI (by omega) (by omega), ck_nI (by omega) (by omega), ck_nI (by omega) (by omega), nI_clamp (by omega), nI_clamp (by omega)]
  cases q1 : bt m (4 * v) <;> cases q2 : bt m (4 * v + 3)
  · rw [if_neg (fun z => by rw [under.mp z] at q1; cases q1), if_neg (fun z => by rw [over.mp z] at q2; cases q2)]; rfl
  · rw [if_neg (fun z => by rw [under.mp z] at q1; cases q1), if_pos (over.mpr q2)]; rfl
  · rw [if_pos (under.mpr q1), if_neg (fun z => by rw [over.mp z] at q2; cases q2)]; rfl
  · rw [if_pos (under.mpr q1), if_pos (over.mpr q2)]; rfl
theorem m_writheNow {now entry passed a : Nat → Int32} {c o : Nat} {f : Nat → Nat} {m : Int32} (hA : Rp a f) (h : Mr now c o f) (hV : Vd c o f) (hm : OKm c f 17 m) : ∃ entry' passed', kX10_writheNow now entry passed = some (sgs m c, entry', passed') := by
  have hc := hV.1
  obtain ⟨en, pa, e1, e2⟩ := m_orient (entry := entry) (passed := passed) hA h hV
  refine ⟨en, pa, ?_⟩
  unfold kX10_writheNow
  rw [e1, bnd2_e]
  refine it2_run (fun i => sgs m i) (fun i => nI i) c (fun K i hi => ?_) (fun K => ?_) rfl rfl (by omega)
  · unfold kX10_writheNow_L1
    rw [m_crossings h, bnd1_e, if_neg (nI_ge hi (by omega)), m_sign hc hm hV.le16 e2 hi, bnd1_e, nI_1]
    rfl
  · unfold kX10_writheNow_L1
    rw [m_crossings h, bnd1_e, if_pos (nI_le (Nat.le_refl _) (by omega))]
/-! alternating -/
theorem m1I {n : Nat} (h : n < 2 ^ 31) : (nI n &&& 1 : Int32) = nI (n % 2) := fa_mask n 1
theorem q_alt {a : Nat → Int32} {c o : Nat} {f : Nat → Nat} (hA : Rp a f) (hV : Vd c o f) : (∀ e, e < 4 * c → (e + ot c f e) % 2 = 1) ∧ kX5_alternates (nI c) a = some 1 ∨ (∃ e, e < 4 * c ∧ (e + ot c f e) % 2 ≠ 1) ∧ kX5_alternates (nI c) a = some 0 := by
  have hc := hV.1
  have run : ∀ (K : Int32 → Option Int32) i, i < 4 * c → kX5_alternates_L1 (nI (4 * c)) (nI c) a K (nI i) = (if (i + ot c f i) % 2 = 1 then K (nI (i + 1)) else some 0) := fun K i hi => by
    have ho := ot_is hV hi
    have t1 := ho.1
    unfold kX5_alternates_L1
    rw [if_neg (nI_ge hi (by omega)), q_oe hA hc hi ho, bnd1_e, m1I (by omega), m1I (by omega), nI_1]
    by_cases q : (i + ot c f i) % 2 = 1
    · rw [if_pos q, if_neg (fun z => by have := (nI_eq (by omega) (by omega)).mp z; omega)]
    · rw [if_neg q, if_pos (by rw [show i % 2 = ot c f i % 2 by omega])]
  unfold kX5_alternates
  rw [q_endCount, bnd1_e]
  by_cases hex : ∃ e, e < 4 * c ∧ (e + ot c f e) % 2 ≠ 1
  · right
    refine ⟨hex, ?_⟩
    obtain ⟨p, ⟨p1, g2⟩, p3⟩ := pk_least _ hex
    refine it1_run (fun i => nI i) p (fun K i hi => ?_) (fun K => ?_) rfl (by omega)
    · rw [run K i (by omega), if_pos (Classical.byContradiction (fun z => p3 i hi ⟨by omega, z⟩))]
    · rw [run K p p1, if_neg g2]
  · left
    have hall : ∀ e, e < 4 * c → (e + ot c f e) % 2 = 1 := fun e he => Classical.byContradiction (fun z => hex ⟨e, he, z⟩)
    refine ⟨hall, ?_⟩
    refine it1_run (fun i => nI i) (4 * c) (fun K i hi => ?_) (fun K => ?_) rfl (by omega)
    · rw [run K i hi, if_pos (hall i hi)]
    · unfold kX5_alternates_L1
      rw [if_pos (nI_le (Nat.le_refl _) (by omega))]
theorem m_alt {now : Nat → Int32} {c o : Nat} {f : Nat → Nat} (h : Mr now c o f) (hV : Vd c o f) : ((∀ e, e < 4 * c → (e + ot c f e) % 2 = 1) → kX10_isAlternating now = some 1) ∧ ((∃ e, e < 4 * c ∧ (e + ot c f e) % 2 ≠ 1) → kX10_isAlternating now = some 0) := by
  have hc := hV.1
  have key : ∃ r : Int32, kX10_isAlternating now = some r ∧ ((r = 1 ∧ ∀ e, e < 4 * c → (e + ot c f e) % 2 = 1) ∨ (r = 0 ∧ ∃ e, e < 4 * c ∧ (e + ot c f e) % 2 ≠ 1)) := by
    unfold kX10_isAlternating
    refine it2_inv (F := kX10_isAlternating_L1 now) (x1 := 1) (x2 := 0) (n := 400) (fun i x y => y = nI i ∧ ((x = 1 ∧ ∀ e, e < i → (e + ot c f e) % 2 = 1) ∨ (x = 0 ∧ ∃ e, e < i ∧ (e + ot c f e) % 2 ≠ 1))) (fun r => ∃ r1 : Int32, r = some r1 ∧ ((r1 = 1 ∧ ∀ e, e < 4 * c → (e + ot c f e) % 2 = 1) ∨ (r1 = 0 ∧ ∃ e, e < 4 * c ∧ (e + ot c f e) % 2 ≠ 1))) (4 * c) (fun K i x y hi hI => ?_) (fun K x y hI => ?_) ⟨rfl, Or.inl ⟨rfl, fun e he => absurd he (Nat.not_lt_zero _)⟩⟩ (by omega)
    · obtain ⟨rfl, hx⟩ := hI
      have ho := ot_is hV hi
      have t1 := ho.1
      unfold kX10_isAlternating_L1 kX10_isAlternating_J2
      rw [m_ends h, bnd1_e, if_neg (nI_ge hi (by omega)), nI_1]
      rcases hx with ⟨rfl, hx⟩ | ⟨rfl, e, h1, h2⟩
      · rw [if_neg (by decide), m_other h hV.le16 hc hi ho, bnd1_e, nI_add, fa_lit 2, irem_nI (by omega) (by omega) (by omega)]
        by_cases q : (i + ot c f i) % 2 = 1
        · refine ⟨1, nI (i + 1), by rw [q, if_pos (show nI 1 = (1 : Int32) from rfl)], rfl, Or.inl ⟨rfl, fun e he => ?_⟩⟩
          by_cases z : e = i
          · rw [z]; exact q
          · exact hx e (by omega)
        · refine ⟨0, nI (i + 1), by rw [show (i + ot c f i) % 2 = 0 by omega, if_neg (by decide)], rfl, Or.inr ⟨rfl, i, by omega, q⟩⟩
      · exact ⟨0, nI (i + 1), by rw [if_pos rfl], rfl, Or.inr ⟨rfl, e, by omega, h2⟩⟩
    · obtain ⟨rfl, hx⟩ := hI
      unfold kX10_isAlternating_L1
      rw [m_ends h, bnd1_e, if_pos (nI_le (Nat.le_refl _) (by omega))]
      rcases hx with ⟨rfl, hx⟩ | ⟨rfl, hx⟩
      · exact ⟨1, by rw [if_neg (by decide)], Or.inl ⟨rfl, hx⟩⟩
      · exact ⟨0, by rw [if_pos rfl], Or.inr ⟨rfl, hx⟩⟩
  obtain ⟨r, e1, e2⟩ := key
  refine ⟨fun hall => ?_, fun ⟨e, h1, h2⟩ => ?_⟩
  · rcases e2 with ⟨rfl, _⟩ | ⟨_, e, h1, h2⟩
    · exact e1
    · exact absurd (hall e h1) h2
  · rcases e2 with ⟨_, hall⟩ | ⟨rfl, _⟩
    · exact absurd (hall e h1) h2
    · exact e1
