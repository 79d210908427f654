/-! ===== orbits of a permutation of the ends ===== -/
def itr (p : Nat → Nat) : Nat → Nat → Nat
  | 0, s => s
  | n + 1, s => p (itr p n s)
def Orb (p : Nat → Nat) (s x : Nat) : Prop := ∃ n, itr p n s = x
def Perm (E : Nat) (p pi : Nat → Nat) : Prop := ∀ x, x < E → p x < E ∧ pi x < E ∧ pi (p x) = x ∧ p (pi x) = x
theorem itr_lt {E : Nat} {p pi : Nat → Nat} (h : Perm E p pi) {s : Nat} (hs : s < E) : ∀ n, itr p n s < E
  | 0 => hs
  | n + 1 => (h _ (itr_lt h hs n)).1
theorem itr_add (p : Nat → Nat) (m s : Nat) : ∀ n, itr p (n + m) s = itr p n (itr p m s)
  | 0 => by rw [Nat.zero_add]; rfl
  | n + 1 => by rw [show n + 1 + m = n + m + 1 by omega]; show p _ = p _; rw [itr_add p m s n]
theorem itr_back {E : Nat} {p pi : Nat → Nat} (h : Perm E p pi) {s : Nat} (hs : s < E) : ∀ n m, itr p (n + m) s = itr p m s → itr p n s = s
  | n, 0, e => by rw [Nat.add_zero] at e; exact e
  | n, m + 1, e => by
    have e : p (itr p (n + m) s) = p (itr p m s) := e
    have := congrArg pi e
    rw [(h _ (itr_lt h hs _)).2.2.1, (h _ (itr_lt h hs _)).2.2.1] at this
    exact itr_back h hs n m this
/-- it comes round -/
theorem orb_per {E : Nat} {p pi : Nat → Nat} (h : Perm E p pi) {s : Nat} (hs : s < E) : ∃ k, 1 ≤ k ∧ k ≤ E ∧ itr p k s = s := by
  obtain ⟨i, j, h1, h2, h3⟩ := fb_twice (m := E) (n := E + 1) (f := fun i => itr p i s) (fun i _ => itr_lt h hs i) (by omega)
  refine ⟨j - i, by omega, by omega, itr_back h hs (j - i) i ?_⟩
  rw [show j - i + i = j by omega]
  exact h3.symm
theorem orb_least {E : Nat} {p pi : Nat → Nat} (h : Perm E p pi) {s : Nat} (hs : s < E) : ∃ k, 1 ≤ k ∧ k ≤ E ∧ itr p k s = s ∧ ∀ j, 1 ≤ j → j < k → itr p j s ≠ s := by
  obtain ⟨k, h1, h2, h3⟩ := orb_per h hs
  obtain ⟨k, g1, g2⟩ := pk_least (fun k => 1 ≤ k ∧ itr p k s = s) ⟨k, h1, h3⟩
  have hk : k ≤ E := by
    rcases Nat.lt_or_ge E k with q | q
    · rename_i k0
      exact absurd ⟨h1, h3⟩ (g2 k0 (by omega))
    · exact q
  exact ⟨k, g1.1, hk, g1.2, fun j hj hk e => g2 j hk ⟨hj, e⟩⟩
theorem orb_below {p : Nat → Nat} {s k : Nat} (hk : 1 ≤ k) (e : itr p k s = s) : ∀ n, ∃ j, j < k ∧ itr p j s = itr p n s
  | 0 => ⟨0, by omega, rfl⟩
  | n + 1 => by
    obtain ⟨j, h1, h2⟩ := orb_below hk e n
    by_cases q : j + 1 = k
    · refine ⟨0, by omega, ?_⟩
      show s = p (itr p n s)
      rw [← h2]
      show s = itr p (j + 1) s
      rw [q, e]
    · exact ⟨j + 1, by omega, by show p _ = p _; rw [h2]⟩
theorem orb_iff {p : Nat → Nat} {s k x : Nat} (hk : 1 ≤ k) (e : itr p k s = s) : Orb p s x ↔ ∃ j, j < k ∧ itr p j s = x := by
  constructor
  · rintro ⟨n, h⟩
    obtain ⟨j, h1, h2⟩ := orb_below hk e n
    exact ⟨j, h1, h2.trans h⟩
  · rintro ⟨j, _, h⟩
    exact ⟨j, h⟩
theorem orb_inj {E : Nat} {p pi : Nat → Nat} (h : Perm E p pi) {s k : Nat} (hs : s < E) (hl : ∀ j, 1 ≤ j → j < k → itr p j s ≠ s) : ∀ i j, i < j → j < k → itr p i s ≠ itr p j s := by
  intro i j h1 h2 e
  refine hl (j - i) (by omega) (by omega) (itr_back h hs (j - i) i ?_)
  rw [show j - i + i = j by omega]
  exact e.symm
theorem orb_back {E : Nat} {p pi : Nat → Nat} (h : Perm E p pi) {s x : Nat} (hs : s < E) (ho : Orb p s x) : Orb p x s := by
  obtain ⟨n, rfl⟩ := ho
  obtain ⟨k, h1, h2, h3⟩ := orb_per h hs
  have key : ∀ m, itr p (m * k) s = s := by
    intro m
    induction m with
    | zero => rw [Nat.zero_mul]; rfl
    | succ m ih => rw [Nat.succ_mul, itr_add, h3, ih]
  have hle : n ≤ n * k := Nat.le_mul_of_pos_right n (by omega)
  refine ⟨n * k - n, ?_⟩
  rw [← itr_add, show n * k - n + n = n * k by omega, key]
theorem Orb.trans {p : Nat → Nat} {s x y : Nat} (h1 : Orb p s x) (h2 : Orb p x y) : Orb p s y := by
  obtain ⟨n, rfl⟩ := h1
  obtain ⟨m, rfl⟩ := h2
  exact ⟨m + n, itr_add p n s m⟩
/-- what has been met before the end i is looked at, if each end that isn't met yet is followed round -/
def sS (p : Nat → Nat) : Nat → Nat → Prop
  | 0, _ => False
  | i + 1, x => sS p i x ∨ (¬ sS p i i ∧ Orb p i x)
theorem sS_iff {E : Nat} {p pi : Nat → Nat} (h : Perm E p pi) : ∀ i, i ≤ E → ∀ x, sS p i x ↔ ∃ y, y < i ∧ Orb p y x
  | 0, _, x => ⟨fun h => h.elim, fun ⟨_, h, _⟩ => absurd h (Nat.not_lt_zero _)⟩
  | i + 1, hi, x => by
    show (sS p i x ∨ (¬ sS p i i ∧ Orb p i x)) ↔ _
    rw [sS_iff h i (by omega) x, sS_iff h i (by omega) i]
    constructor
    · rintro (⟨y, h1, h2⟩ | ⟨_, h2⟩)
      · exact ⟨y, by omega, h2⟩
      · exact ⟨i, by omega, h2⟩
    · rintro ⟨y, h1, h2⟩
      by_cases q : y = i
      · subst q
        by_cases z : ∃ w, w < y ∧ Orb p w y
        · obtain ⟨w, z1, z2⟩ := z
          exact Or.inl ⟨w, z1, z2.trans h2⟩
        · exact Or.inr ⟨z, h2⟩
      · exact Or.inl ⟨y, by omega, h2⟩
/-- it is closed -/
theorem sS_step {E : Nat} {p pi : Nat → Nat} (h : Perm E p pi) {i : Nat} (hi : i ≤ E) {x y : Nat} (hx : x < E) (ho : Orb p x y) : sS p i x ↔ sS p i y := by
  rw [sS_iff h i hi, sS_iff h i hi]
  constructor
  · rintro ⟨w, h1, h2⟩; exact ⟨w, h1, h2.trans ho⟩
  · rintro ⟨w, h1, h2⟩; exact ⟨w, h1, h2.trans (orb_back h hx ho)⟩
noncomputable def cF (p : Nat → Nat) : Nat → Nat
  | 0 => 0
  | i + 1 => cF p i + (if Classical.propDecidable (sS p i i) |>.decide then 0 else 1)
theorem cF_yes {p : Nat → Nat} {i : Nat} (h : sS p i i) : cF p (i + 1) = cF p i := by
  show cF p i + (if (Classical.propDecidable (sS p i i)).decide = true then 0 else 1) = _
  rw [if_pos (by cases q : Classical.propDecidable (sS p i i) with | isTrue _ => rfl | isFalse z => exact absurd h z)]
  rfl
theorem cF_no {p : Nat → Nat} {i : Nat} (h : ¬ sS p i i) : cF p (i + 1) = cF p i + 1 := by
  show cF p i + (if (Classical.propDecidable (sS p i i)).decide = true then 0 else 1) = _
  rw [if_neg (by cases q : Classical.propDecidable (sS p i i) with | isTrue z => exact absurd z h | isFalse z => exact Bool.false_ne_true)]
theorem cF_le (p : Nat → Nat) : ∀ i, cF p i ≤ i
  | 0 => Nat.le_refl _
  | i + 1 => by
    have := cF_le p i
    by_cases q : sS p i i
    · rw [cF_yes q]; omega
    · rw [cF_no q]; omega
