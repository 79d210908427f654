/-! ===== orientation ===== -/
/-- the ends that are entered before arc n's turn -/
def eS (c : Nat) (f : Nat → Nat) : Nat → Nat → Prop
  | 0, _ => False
  | n + 1, x => eS c f n x ∨ ∃ p, p < 4 * c ∧ f p = n ∧ (∀ q, q < p → f q ≠ n) ∧ ¬ eS c f n p ∧ ¬ eS c f n (ot c f p) ∧ Orb (p2 c f) (ot c f p) x
def OKm (c : Nat) (f : Nat → Nat) (n : Nat) (m : Int32) : Prop :=
  (∀ w, w < 32 → (bt m w = true ↔ eS c f n w)) ∧ (∀ x, x < 4 * c → sym m x = sym m (ot c f x)) ∧ (∀ y, y < 4 * c → bt m y = true → bt m (tn 2 y) = false) ∧ (∀ y, y < 4 * c → bt m y = true → bt m (p2 c f y) = true) ∧ ∀ x, x < 4 * c → f x < n → sym m x = true
theorem OKm.zero (c : Nat) (f : Nat → Nat) : OKm c f 0 0 := by
  refine ⟨fun w _ => ?_, fun x _ => ?_, fun y _ h => ?_, fun y _ h => ?_, fun x _ h => absurd h (Nat.not_lt_zero _)⟩
  · rw [b_0]; exact ⟨fun h => (by cases h), fun h => h.elim⟩
  · unfold sym; rw [b_0, b_0, b_0, b_0]
  · rw [b_0] at h; cases h
  · rw [b_0] at h; cases h
theorem e_step {a : Nat → Int32} {c o : Nat} {f : Nat → Nat} (hA : Rp a f) (hV : Vd c o f) {n : Nat} (hn : n ≤ 16) {m : Int32} (hm : OKm c f n m) (K : Int32 → Int32 → Option Int32) : ∃ m', kX7_enteredEnds_L1 (nI c) a K m (nI n) = K m' (nI (n + 1)) ∧ OKm c f (n + 1) m' := by
  have hc := hV.1
  have ht := ot_inv hV
  have hs := tn2_inv c
  have hp := p2_perm hV
  obtain ⟨h1, h2, h3, h4, h5⟩ := hm
  have g0 : ¬ (16 : Int32) < nI n := by rw [fa_lit 16]; exact nI_nlt (by omega) (by omega)
  have same : (∀ x, eS c f (n + 1) x ↔ eS c f n x) → (∀ x, x < 4 * c → f x = n → sym m x = true) → OKm c f (n + 1) m := fun e1 e2 =>
    ⟨fun w hw => (h1 w hw).trans (e1 w).symm, h2, h3, h4, fun x hx h => by
      by_cases q : f x = n
      · exact e2 x hx q
      · exact h5 x hx (by omega)⟩
  by_cases hex : ∃ p, p < 4 * c ∧ f p = n
  · obtain ⟨p, ⟨p1, p2'⟩, p3⟩ := pk_least (fun p => p < 4 * c ∧ f p = n) hex
    have p3' : ∀ q, q < p → f q ≠ n := fun q hq e => p3 q hq ⟨by omega, e⟩
    have honly : ∀ q, q < 4 * c → f q = n → (∀ z, z < q → f z ≠ n) → q = p := fun q hq e hz => by
      rcases Nat.lt_trichotomy q p with z | z | z
      · exact absurd e (p3' q z)
      · exact z
      · exact absurd p2' (hz p z)
    have hx2 : ∀ x, x < 4 * c → f x = n → x = p ∨ x = ot c f p := fun x hx e => ot_only hV p1 hx (by rw [p2', e])
    have ho := ot_is hV p1
    have t1 := ho.1
    have eff := q_first hA hc (by omega : n ≤ 16) p1 p2' p3'
    have mp := h1 p (by omega)
    have mo := h1 (ot c f p) (by omega)
    have run : kX7_enteredEnds_L1 (nI c) a K m (nI n) = (if bt m p = true then K m (nI (n + 1)) else if bt m (ot c f p) = true then K m (nI (n + 1)) else bnd1 (kX7_enterFrom (nI (ot c f p)) m (nI c) a) (fun r => K r (nI (n + 1)))) := by
      unfold kX7_enteredEnds_L1
      rw [if_neg g0, eff, bnd1_e, if_pos (nI_pos' (by omega)), q_oe hA hc p1 ho, bnd1_e, q_contains (by omega), bnd1_e]
      by_cases b1 : bt m p = true
      · rw [if_pos b1, if_pos b1, if_neg (by decide), nI_1]
      · rw [if_neg b1, if_neg b1, if_pos rfl, q_contains (by omega), bnd1_e]
        by_cases b2 : bt m (ot c f p) = true
        · rw [if_pos b2, if_pos b2, if_neg (by decide), nI_1]
        · rw [if_neg b2, if_neg b2, if_pos rfl, nI_1]
    rw [run]
    by_cases b1 : bt m p = true
    · refine ⟨m, if_pos b1, same (fun x => ⟨fun h => h.elim id (fun ⟨q, q1, q2, q3, q4, q5, q6⟩ => ?_), Or.inl⟩) (fun x hx e => ?_)⟩
      · rw [honly q q1 q2 q3] at q4
        exact absurd (mp.mp b1) q4
      · have s1 : sym m p = true := by unfold sym; rw [b1]; rfl
        rcases hx2 x hx e with z | z
        · rw [z]; exact s1
        · rw [z, ← h2 p p1]; exact s1
    · by_cases b2 : bt m (ot c f p) = true
      · refine ⟨m, by rw [if_neg b1, if_pos b2], same (fun x => ⟨fun h => h.elim id (fun ⟨q, q1, q2, q3, q4, q5, q6⟩ => ?_), Or.inl⟩) (fun x hx e => ?_)⟩
        · rw [honly q q1 q2 q3] at q5
          exact absurd (mo.mp b2) q5
        · have s1 : sym m (ot c f p) = true := by unfold sym; rw [b2]; rfl
          rcases hx2 x hx e with z | z
          · rw [z, h2 p p1]; exact s1
          · rw [z]; exact s1
      · have b1' : bt m p = false := by simpa using b1
        have b2' : bt m (ot c f p) = false := by simpa using b2
        have hsn : sym m (ot c f p) = false := by
          unfold sym
          rw [b2', Bool.false_or]
          cases z : bt m (tn 2 (ot c f p)) with
          | false => rfl
          | true =>
            have := h4 _ (hs _ t1).1 z
            unfold p2 at this
            rw [(hs _ t1).2.1, (ht _ p1).2.1, b1'] at this
            cases this
        obtain ⟨m', e1, e2, e3, e4⟩ := q_enterFrom hA hV t1 hsn h2
        have hES : ∀ x, eS c f (n + 1) x ↔ eS c f n x ∨ Orb (p2 c f) (ot c f p) x := fun x => by
          constructor
          · rintro (h | ⟨q, q1, q2, q3, q4, q5, q6⟩)
            · exact Or.inl h
            · rw [honly q q1 q2 q3] at q6; exact Or.inr q6
          · rintro (h | h)
            · exact Or.inl h
            · exact Or.inr ⟨p, p1, p2', p3', fun z => b1 (mp.mpr z), fun z => b2 (mo.mpr z), h⟩
        refine ⟨m', by rw [if_neg b1, if_neg b2, e1, bnd1_e], fun w hw => ?_, e2.2.1, e4 h3, fun y hy hb => ?_, fun x hx hlt => ?_⟩
        · rw [e3 w hw, hES w, h1 w hw]
        · have hpy := (hp y hy).1
          rcases (e3 y (by omega)).mp hb with z | ⟨k, z⟩
          · exact (e3 _ (by omega)).mpr (Or.inl (h4 y hy z))
          · exact (e3 _ (by omega)).mpr (Or.inr ⟨k + 1, by show p2 c f _ = _; rw [z]⟩)
        · by_cases q : f x = n
          · rcases hx2 x hx q with z | z
            · rw [z, e2.2.1 p p1]; exact e2.2.2.1
            · rw [z]; exact e2.2.2.1
          · exact e2.2.2.2.1 x hx (h5 x hx (by omega))
  · have hno : ∀ x, x < 4 * c → f x ≠ n := fun x hx e => hex ⟨x, hx, e⟩
    refine ⟨m, ?_, same (fun x => ⟨fun h => h.elim id (fun ⟨q, q1, q2, _⟩ => absurd q2 (hno q q1)), Or.inl⟩) (fun x hx e => absurd e (hno x hx))⟩
    unfold kX7_enteredEnds_L1
    rw [if_neg g0, q_firstNone hA hc (by omega) hno, bnd1_e, if_neg (by decide), nI_1]
theorem e_all {a : Nat → Int32} {c o : Nat} {f : Nat → Nat} (hA : Rp a f) (hV : Vd c o f) : ∀ n, n ≤ 17 → ∃ m, OKm c f n m
  | 0, _ => ⟨0, OKm.zero c f⟩
  | n + 1, h => by
    obtain ⟨m, hm⟩ := e_all hA hV n (by omega)
    obtain ⟨m', _, h2⟩ := e_step hA hV (by omega) hm (fun _ _ => none)
    exact ⟨m', h2⟩
theorem OKm.one {c o : Nat} {f : Nat → Nat} (hV : Vd c o f) : OKm c f 1 0 := by
  have h := OKm.zero c f
  refine ⟨fun w hw => (h.1 w hw).trans ⟨Or.inl, fun z => ?_⟩, h.2.1, h.2.2.1, h.2.2.2.1, fun x hx hlt => ?_⟩
  · rcases z with z | ⟨p, g1, g2, _⟩
    · exact z
    · have g3 : f p = 0 := g2
      have := (hV.2.2.2.1 p g1).1
      omega
  · have := (hV.2.2.2.1 x hx).1
    omega
theorem q_entered {a : Nat → Int32} {c o : Nat} {f : Nat → Nat} (hA : Rp a f) (hV : Vd c o f) : ∃ m, kX7_enteredEnds (nI c) a = some m ∧ OKm c f 17 m := by
  unfold kX7_enteredEnds
  refine it2_inv (fun i x y => y = nI (1 + i) ∧ OKm c f (1 + i) x) (fun r => ∃ m, r = some m ∧ OKm c f 17 m) 16 (fun K i x y hi hI => ?_) (fun K x y hI => ?_) ⟨rfl, OKm.one hV⟩ (by omega)
  · obtain ⟨rfl, hm⟩ := hI
    obtain ⟨m', e1, e2⟩ := e_step hA hV (by omega) hm K
    exact ⟨m', nI (1 + i + 1), e1, by rw [show 1 + (i + 1) = 1 + i + 1 by omega], by rw [show 1 + (i + 1) = 1 + i + 1 by omega]; exact e2⟩
  · obtain ⟨rfl, hm⟩ := hI
    refine ⟨x, ?_, hm⟩
    unfold kX7_enteredEnds_L1
    rw [if_pos (by decide)]
def sgn (m : Int32) (v : Nat) : Int32 := if bt m (4 * v) = bt m (4 * v + 3) then 1 else -1
theorem q_sign {m : Int32} {v : Nat} (hv : v < 8) : kX7_sign (nI v) m = some (sgn m v) := by
  have e1 : (4 * nI v : Int32) = nI (4 * v) := pk_mul 4 v
  have e2 : (nI (4 * v) + 3 : Int32) = nI (4 * v + 3) := nI_add (4 * v) 3
  unfold kX7_sign sgn
  rw [e1, q_contains (by omega), bnd1_e, e2, q_contains (by omega), bnd1_e]
  cases bt m (4 * v) <;> cases bt m (4 * v + 3) <;> rfl
def sgs (m : Int32) : Nat → Int32
  | 0 => 0
  | n + 1 => sgs m n + sgn m n
theorem q_signSum {a : Nat → Int32} {c o : Nat} {f : Nat → Nat} {m : Int32} (hV : Vd c o f) (he : kX7_enteredEnds (nI c) a = some m) : kX7_signSum (nI c) a = some (sgs m c) := by
  have hc := hV.1
  unfold kX7_signSum
  rw [he, bnd1_e]
  refine it2_run (fun i => sgs m i) (fun i => nI i) c (fun K i hi => ?_) (fun K => ?_) rfl rfl (by omega)
  · unfold kX7_signSum_L1
    rw [if_neg (nI_ge hi (by omega)), q_sign (by omega), bnd1_e, nI_1]
    rfl
  · unfold kX7_signSum_L1
    rw [if_pos (nI_le (Nat.le_refl _) (by omega))]
/-! the reference's -/
def ixE (y : Nat) : Nat := y / 4 * 2 + y % 2
theorem ixE_eq {x y : Nat} (h : ixE x = ixE y) : x = y ∨ x = tn 2 y := by unfold ixE at h; unfold tn; omega
def EnR (c : Nat) (S : Nat → Prop) (entry : Nat → Int32) : Prop := ∀ y, y < 4 * c → S y → entry (ixE y) = nI (y % 4)
def PaR (c : Nat) (f : Nat → Nat) (S : Nat → Prop) (passed : Nat → Int32) : Prop := ∀ a, a ≤ 16 → (passed a = 0 ∨ passed a = 1) ∧ (passed a = 1 ↔ ∃ x, x < 4 * c ∧ f x = a ∧ S x)
/-! alternating -/
theorem m1I {n : Nat} (h : n < 2 ^ 31) : (nI n &&& 1 : Int32) = nI (n % 2) := fa_mask n 1
theorem q_alt {a : Nat → Int32} {c o : Nat} {f : Nat → Nat} (hA : Rp a f) (hV : Vd c o f) : (∀ e, e < 4 * c → (e + ot c f e) % 2 = 1) ∧ kX5_alternates (nI c) a = some 1 ∨ (∃ e, e < 4 * c ∧ (e + ot c f e) % 2 ≠ 1) ∧ kX5_alternates (nI c) a = some 0 := by
  have hc := hV.1
  have run : ∀ (K : Int32 → Option Int32) i, i < 4 * c → kX5_alternates_L1 (nI (4 * c)) (nI c) a K (nI i) = (if (i + ot c f i) % 2 = 1 then K (nI (i + 1)) else some 0) := fun K i hi => by
    have ho := ot_is hV hi
    have t1 := ho.1
    unfold kX5_alternates_L1
    rw [if_neg (nI_ge hi (by omega)), q_oe hA hc hi ho, bnd1_e, m1I (by omega), m1I (by omega), nI_1]
    by_cases q : (i + ot c f i) % 2 = 1
    · rw [if_pos q, if_neg (fun z => by have := (nI_eq (by omega) (by omega)).mp z; omega)]
    · rw [if_neg q, if_pos (by rw [show i % 2 = ot c f i % 2 by omega])]
  unfold kX5_alternates
  rw [q_endCount, bnd1_e]
  by_cases hex : ∃ e, e < 4 * c ∧ (e + ot c f e) % 2 ≠ 1
  · right
    refine ⟨hex, ?_⟩
    obtain ⟨p, ⟨p1, g2⟩, p3⟩ := pk_least _ hex
    refine it1_run (fun i => nI i) p (fun K i hi => ?_) (fun K => ?_) rfl (by omega)
    · rw [run K i (by omega), if_pos (Classical.byContradiction (fun z => p3 i hi ⟨by omega, z⟩))]
    · rw [run K p p1, if_neg g2]
  · left
    have hall : ∀ e, e < 4 * c → (e + ot c f e) % 2 = 1 := fun e he => Classical.byContradiction (fun z => hex ⟨e, he, z⟩)
    refine ⟨hall, ?_⟩
    refine it1_run (fun i => nI i) (4 * c) (fun K i hi => ?_) (fun K => ?_) rfl (by omega)
    · rw [run K i hi, if_pos (hall i hi)]
    · unfold kX5_alternates_L1
      rw [if_pos (nI_le (Nat.le_refl _) (by omega))]
