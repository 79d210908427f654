/-! ===== labels: classes by their least number ===== -/
def lbU (lab : Nat → Nat) (a b : Nat) : Nat → Nat := fun n => if lab n = lab a ∨ lab n = lab b then min (lab a) (lab b) else lab n
/-- lab tells the classes that the pairs L make: each by its least number -/
def LbIs (L : Nat → Nat → Prop) (lab : Nat → Nat) : Prop := (∀ n, lab n ≤ n) ∧ (∀ n, lab (lab n) = lab n) ∧ (∀ a b, L a b → lab a = lab b) ∧ ∀ (h : Nat → Prop), (∀ a b, L a b → (h a ↔ h b)) → ∀ n, h (lab n) ↔ h n
theorem LbIs.id : LbIs (fun _ _ => False) (fun n => n) := ⟨fun n => Nat.le_refl n, fun _ => rfl, fun _ _ h => h.elim, fun _ _ _ => Iff.rfl⟩
theorem LbIs.step {L : Nat → Nat → Prop} {lab : Nat → Nat} (H : LbIs L lab) (a b : Nat) : LbIs (fun x y => L x y ∨ (x = a ∧ y = b)) (lbU lab a b) := by
  obtain ⟨h1, h2, h3, h4⟩ := H
  have hm : lab (min (lab a) (lab b)) = min (lab a) (lab b) := by
    rcases Nat.le_total (lab a) (lab b) with q | q
    · rw [Nat.min_eq_left q]; exact h2 a
    · rw [Nat.min_eq_right q]; exact h2 b
  have hmm : min (lab a) (lab b) = lab a ∨ min (lab a) (lab b) = lab b := by omega
  refine ⟨fun n => ?_, fun n => ?_, fun x y hxy => ?_, fun h hL n => ?_⟩
  · by_cases q : lab n = lab a ∨ lab n = lab b
    · have e : lbU lab a b n = min (lab a) (lab b) := if_pos q
      have := h1 n
      rw [e]; omega
    · have e : lbU lab a b n = lab n := if_neg q
      rw [e]; exact h1 n
  · by_cases q : lab n = lab a ∨ lab n = lab b
    · have e : lbU lab a b n = min (lab a) (lab b) := if_pos q
      rw [e]
      show (if lab (min (lab a) (lab b)) = lab a ∨ lab (min (lab a) (lab b)) = lab b then _ else _) = _
      rw [hm, if_pos hmm]
    · have e : lbU lab a b n = lab n := if_neg q
      rw [e]
      show (if lab (lab n) = lab a ∨ lab (lab n) = lab b then _ else _) = _
      rw [h2 n, if_neg q]
  · rcases hxy with hxy | ⟨rfl, rfl⟩
    · have := h3 x y hxy
      unfold lbU
      rw [this]
    · unfold lbU
      rw [if_pos (Or.inl rfl), if_pos (Or.inr rfl)]
  · have h4' := h4 h (fun a b q => hL a b (Or.inl q))
    have hab := hL a b (Or.inr ⟨rfl, rfl⟩)
    by_cases q : lab n = lab a ∨ lab n = lab b
    · have e : lbU lab a b n = min (lab a) (lab b) := if_pos q
      rw [e]
      have ea := h4' a
      have eb := h4' b
      have en := h4' n
      rcases q with q | q
      · rw [q] at en
        rcases hmm with m | m
        · rw [m]; exact en
        · rw [m]; exact eb.trans (hab.symm.trans (ea.symm.trans en))
      · rw [q] at en
        rcases hmm with m | m
        · rw [m]; exact ea.trans (hab.trans (eb.symm.trans en))
        · rw [m]; exact en
    · have e : lbU lab a b n = lab n := if_neg q
      rw [e]; exact h4' n
theorem LbIs.mono {L L2 : Nat → Nat → Prop} {lab : Nat → Nat} (H : LbIs L lab) (h : ∀ a b, L a b ↔ L2 a b) : LbIs L2 lab := by
  obtain ⟨h1, h2, h3, h4⟩ := H
  exact ⟨h1, h2, fun a b q => h3 a b ((h a b).mpr q), fun p hp => h4 p (fun a b q => hp a b ((h a b).mp q))⟩
/-! ===== what occurs; classes counted two ways ===== -/
def occB (R : Nat → Nat) (n : Nat) : Nat → Bool
  | 0 => false
  | E + 1 => occB R n E || (R E == n)
theorem occB_iff {R : Nat → Nat} {n : Nat} : ∀ {E : Nat}, occB R n E = true ↔ ∃ e, e < E ∧ R e = n
  | 0 => ⟨fun h => (by cases h), fun ⟨_, h, _⟩ => absurd h (Nat.not_lt_zero _)⟩
  | E + 1 => by
    show (occB R n E || (R E == n)) = true ↔ _
    rw [Bool.or_eq_true, occB_iff, beq_iff_eq]
    constructor
    · rintro (⟨e, h1, h2⟩ | h)
      · exact ⟨e, by omega, h2⟩
      · exact ⟨E, by omega, h⟩
    · rintro ⟨e, h1, h2⟩
      by_cases q : e = E
      · subst q; exact Or.inr h2
      · exact Or.inl ⟨e, by omega, h2⟩
theorem cnt_first (R : Nat → Nat) (M : Nat) : ∀ E, (∀ e, e < E → R e < M) → fb_ct (fun e => !occB R (R e) e) E = fb_ct (fun n => occB R n E) M
  | 0, _ => (fb_ct_zero.mpr (fun _ _ => rfl)).symm
  | E + 1, h => by
    have ih := cnt_first R M E (fun e he => h e (by omega))
    rw [fb_ct_succ, ih]
    have hM := h E (by omega)
    have u := fb_ct_upd (fun n => occB R n E) true (i := R E) (n := M) hM
    have e : fb_ct (fun n => occB R n (E + 1)) M = fb_ct (fun k => if k = R E then true else occB R k E) M := by
      refine fb_ct_cong (fun k _ => ?_)
      show (occB R k E || (R E == k)) = _
      by_cases q : k = R E
      · subst q; simp
      · have : (R E == k) = false := by simp; exact fun z => q z.symm
        rw [this, if_neg q, Bool.or_false]
    rw [e]
    cases q : occB R (R E) E
    · simp only [q] at u; simp; simp at u; omega
    · simp only [q] at u; simp; simp at u; omega
/-- the classes of what occurs, by their least numbers, are the values of the label -/
theorem cnt_classes {L : Nat → Nat → Prop} {lab f : Nat → Nat} {E : Nat} (H : LbIs L lab) (hocc : ∀ a b, L a b → (∃ e, e < E ∧ f e = a) ∧ ∃ e, e < E ∧ f e = b) (M : Nat) :
    fb_ct (fun n => occB f n E && (lab n == n)) M = fb_ct (fun n => occB (fun e => lab (f e)) n E) M := by
  obtain ⟨h1, h2, h3, h4⟩ := H
  refine fb_ct_cong (fun n _ => ?_)
  rw [Bool.eq_iff_iff, Bool.and_eq_true, occB_iff, occB_iff, beq_iff_eq]
  constructor
  · rintro ⟨⟨e, he, rfl⟩, q⟩
    exact ⟨e, he, q⟩
  · rintro ⟨e, he, rfl⟩
    refine ⟨?_, h2 _⟩
    exact (h4 (fun a => ∃ e, e < E ∧ f e = a) (fun a b q => ⟨fun _ => (hocc a b q).2, fun _ => (hocc a b q).1⟩) (f e)).mpr ⟨e, he, rfl⟩
/-! ===== walks that join ends two by two: s the partner at a crossing, t the other end of the arc ===== -/
/-- an involution of the ends below E without a fixed one -/
def Inv2 (E : Nat) (s : Nat → Nat) : Prop := ∀ x, x < E → s x < E ∧ s (s x) = x ∧ s x ≠ x
/-- after k steps: the set S, the end cur that is next -/
def WI (E : Nat) (s t : Nat → Nat) (S0 : Nat → Bool) (start : Nat) (R : Nat → Nat) (k : Nat) (S : Nat → Bool) (cur : Nat) : Prop :=
  cur < E ∧ (∀ x, x < E → S x = S (s x)) ∧ (∀ x, x < E → S x = true → x ≠ start → S (t x) = true ∨ x = t cur) ∧
  ((k = 0 ∧ cur = start ∧ ∀ x, x < E → S x = S0 x) ∨ (S (t cur) = true ∧ S start = true)) ∧ (S cur = true → cur = start) ∧ (∀ x, x < E → S0 x = true → S x = true) ∧
  (∀ x, x < E → S x = true → S0 x = true ∨ R x = R start) ∧ R cur = R start ∧ 2 * k ≤ fb_ct S E
/-- closed: what a finished walk leaves -/
def WC (E : Nat) (s t : Nat → Nat) (S0 : Nat → Bool) (start : Nat) (R : Nat → Nat) (S : Nat → Bool) : Prop :=
  (∀ x, x < E → S x = S (s x)) ∧ (∀ x, x < E → S x = S (t x)) ∧ S start = true ∧ (∀ x, x < E → S0 x = true → S x = true) ∧ ∀ x, x < E → S x = true → S0 x = true ∨ R x = R start
theorem WI.start {E : Nat} {s t : Nat → Nat} {S0 : Nat → Bool} {start : Nat} {R : Nat → Nat} (h0 : start < E) (hs0 : ∀ x, x < E → S0 x = S0 (s x)) (ht0 : ∀ x, x < E → S0 x = S0 (t x)) (hn : S0 start = false) : WI E s t S0 start R 0 S0 start :=
  ⟨h0, hs0, fun x hx h _ => Or.inl (by rw [← ht0 x hx]; exact h), Or.inl ⟨rfl, rfl, fun _ _ => rfl⟩, fun h => absurd (hn.symm.trans h) (by decide), fun _ _ h => h, fun _ _ h => Or.inl h, rfl, Nat.zero_le _⟩
theorem WI.step {E : Nat} {s t : Nat → Nat} {S0 : Nat → Bool} {start : Nat} {R : Nat → Nat} {k : Nat} {S S' : Nat → Bool} {cur : Nat} (hs : Inv2 E s) (ht : Inv2 E t) (hRs : ∀ x, x < E → R (s x) = R x) (hRt : ∀ x, x < E → R (t x) = R x) (h0 : start < E)
    (W : WI E s t S0 start R k S cur) (hc : S cur = false) (hS : ∀ x, x < E → S' x = (S x || (x == cur || x == s cur))) : WI E s t S0 start R (k + 1) S' (t (s cur)) := by
  obtain ⟨w0, w1, w2, w3, w4, w5, w6, w7, w8⟩ := W
  obtain ⟨a1, a2, a3⟩ := hs cur w0
  obtain ⟨b1, b2, b3⟩ := ht _ a1
  have up : ∀ x, x < E → S x = true → S' x = true := fun x hx h => by rw [hS x hx, h]; rfl
  have hcur : S' cur = true := by rw [hS cur w0]; simp
  have hscur : S' (s cur) = true := by rw [hS _ a1]; simp
  have hsc : S (s cur) = false := by rw [← w1 cur w0]; exact hc
  have inS' : ∀ x, x < E → S' x = true → S x = true ∨ x = cur ∨ x = s cur := fun x hx h => by
    rw [hS x hx] at h
    simpa using h
  refine ⟨b1, fun x hx => ?_, fun x hx h hne => ?_, Or.inr ⟨by rw [b2]; exact hscur, ?_⟩, fun h => ?_, fun x hx h => up x hx (w5 x hx h), fun x hx h => ?_, ?_, ?_⟩
  · obtain ⟨c1, c2, c3⟩ := hs x hx
    rw [hS x hx, hS _ c1, w1 x hx, Bool.eq_iff_iff]
    have e1 : (s x = cur) ↔ (x = s cur) := ⟨fun e => by rw [← e, c2], fun e => by rw [e, a2]⟩
    have e2 : (s x = s cur) ↔ (x = cur) := ⟨fun e => by rw [← c2, e, a2], fun e => by rw [e]⟩
    simp [e1, e2, or_comm]
  · rw [b2]
    rcases inS' x hx h with h | h | h
    · rcases w2 x hx h hne with q | q
      · exact Or.inl (up _ (ht x hx).1 q)
      · left
        have : t x = cur := by rw [q]; exact (ht cur w0).2.1
        rw [this]; exact hcur
    · subst h
      rcases w3 with ⟨_, q, _⟩ | ⟨q, _⟩
      · exact absurd q hne
      · exact Or.inl (up _ (ht _ hx).1 q)
    · exact Or.inr h
  · rcases w3 with ⟨_, q, _⟩ | ⟨_, q⟩
    · rw [← q]; exact hcur
    · exact up _ h0 q
  · refine Classical.byContradiction (fun hne => ?_)
    rcases inS' _ b1 h with q | q | q
    · rcases w2 _ b1 q hne with r | r
      · rw [b2, hsc] at r; cases r
      · have : s cur = cur := by rw [← b2, r]; exact (ht cur w0).2.1
        exact a3 this
    · rcases w3 with ⟨_, r, _⟩ | ⟨r, _⟩
      · exact hne (q.trans r)
      · have : t cur = s cur := by
          rw [q] at b2
          exact b2
        rw [this, hsc] at r; cases r
    · exact b3 q
  · rcases inS' x hx h with q | q | q
    · exact w6 x hx q
    · right; rw [q]; exact w7
    · right; rw [q, hRs cur w0]; exact w7
  · rw [hRt _ a1, hRs cur w0]; exact w7
  · have u1 := fb_ct_upd S true (i := cur) (n := E) w0
    have u2 := fb_ct_upd (fun j => if j = cur then true else S j) true (i := s cur) (n := E) a1
    have e : fb_ct S' E = fb_ct (fun j => if j = s cur then true else (fun j => if j = cur then true else S j) j) E := by
      refine fb_ct_cong (fun x hx => ?_)
      rw [hS x hx]
      by_cases q1 : x = s cur
      · simp [q1]
      · by_cases q2 : x = cur
        · simp [q2]
        · simp [q1, q2]
    rw [e]
    simp only [hc] at u1
    simp only [if_neg a3, hsc] at u2
    simp at u1 u2
    simp
    omega
theorem WI.stop {E : Nat} {s t : Nat → Nat} {S0 : Nat → Bool} {start : Nat} {R : Nat → Nat} {k : Nat} {S : Nat → Bool} {cur : Nat} (ht : Inv2 E t) (h0 : start < E) (hn : S0 start = false)
    (W : WI E s t S0 start R k S cur) (hc : S cur = true) : WC E s t S0 start R S := by
  obtain ⟨w0, w1, w2, w3, w4, w5, w6, w7, w8⟩ := W
  have e := w4 hc
  have hst : S start = true := by rw [← e]; exact hc
  have hcl : ∀ x, x < E → S x = true → S (t x) = true := by
    intro x hx h
    by_cases q : x = start
    · rcases w3 with ⟨_, _, r⟩ | ⟨r, _⟩
      · rw [r start h0, hn] at hst; cases hst
      · rw [q, ← e]; exact r
    · rcases w2 x hx h q with r | r
      · exact r
      · rw [r, (ht cur w0).2.1]; exact hc
  refine ⟨w1, fun x hx => ?_, hst, w5, w6⟩
  rw [Bool.eq_iff_iff]
  exact ⟨hcl x hx, fun h => by have := hcl _ (ht x hx).1 h; rwa [(ht x hx).2.1] at this⟩
theorem WI.full {E : Nat} {s t : Nat → Nat} {S0 : Nat → Bool} {start : Nat} {R : Nat → Nat} {k : Nat} {S : Nat → Bool} {cur : Nat} (ht : Inv2 E t) (h0 : start < E)
    (W : WI E s t S0 start R k S cur) (hk : E ≤ 2 * k) : WC E s t S0 start R S := by
  obtain ⟨w0, w1, w2, w3, w4, w5, w6, w7, w8⟩ := W
  have hall := fb_ct_all.mp (Nat.le_antisymm (fb_ct_le S E) (Nat.le_trans hk w8))
  exact ⟨w1, fun x hx => by rw [hall x hx, hall _ (ht x hx).1], hall _ h0, w5, w6⟩
/-- a finished walk from start holds just what was there and the class of start -/
theorem WC.is {E : Nat} {s t : Nat → Nat} {S0 : Nat → Bool} {start : Nat} {L : Nat → Nat → Prop} {lab f : Nat → Nat} {S : Nat → Bool} (ht : Inv2 E t) (h0 : start < E) (H : LbIs L lab)
    (hL : ∀ a b, L a b → ∃ x, x < E ∧ ((f x = a ∧ f (s x) = b) ∨ (f x = b ∧ f (s x) = a))) (hs : Inv2 E s) (hf : ∀ x y, x < E → y < E → f x = f y → y = x ∨ y = t x)
    (W : WC E s t S0 start (fun x => lab (f x)) S) : ∀ x, x < E → (S x = true ↔ S0 x = true ∨ lab (f x) = lab (f start)) := by
  obtain ⟨w1, w2, w3, w4, w5⟩ := W
  have key : ∀ x, x < E → (S x = true ↔ ∃ y, y < E ∧ f y = f x ∧ S y = true) := fun x hx => by
    constructor
    · intro h; exact ⟨x, hx, rfl, h⟩
    · rintro ⟨y, hy, e, h⟩
      rcases hf y x hy hx e with q | q
      · rw [q]; exact h
      · rw [q, ← w2 y hy]; exact h
  have hh := H.2.2.2 (fun a => ∃ y, y < E ∧ f y = a ∧ S y = true) (fun a b q => by
    obtain ⟨x, hx, q⟩ := hL a b q
    have k1 := key x hx
    have k2 := key (s x) (hs x hx).1
    rw [← w1 x hx] at k2
    rcases q with ⟨e1, e2⟩ | ⟨e1, e2⟩
    · rw [e1] at k1; rw [e2] at k2; exact k1.symm.trans k2
    · rw [e1] at k1; rw [e2] at k2; exact k2.symm.trans k1)
  intro x hx
  constructor
  · exact w5 x hx
  · rintro (h | h)
    · exact w4 x hx h
    · refine (key x hx).mpr ((hh (f x)).mp ?_)
      rw [h]
      exact (hh (f start)).mpr ((key start h0).mp w3)
theorem WI.fullCur {E : Nat} {s t : Nat → Nat} {S0 : Nat → Bool} {start : Nat} {R : Nat → Nat} {k : Nat} {S : Nat → Bool} {cur : Nat}
    (W : WI E s t S0 start R k S cur) (hk : E ≤ 2 * k) : cur = start := by
  obtain ⟨w0, w1, w2, w3, w4, w5, w6, w7, w8⟩ := W
  exact w4 (fb_ct_all.mp (Nat.le_antisymm (fb_ct_le S E) (Nat.le_trans hk w8)) cur w0)
