/-! ===== classes that pairs make, and how many ===== -/
/-- a and b lie in one class of what the pairs L make -/
def Con (L : Nat → Nat → Prop) (a b : Nat) : Prop := ∀ h : Nat → Prop, (∀ x y, L x y → (h x ↔ h y)) → (h a ↔ h b)
theorem Con.rf {L : Nat → Nat → Prop} {a : Nat} : Con L a a := fun _ _ => Iff.rfl
theorem Con.sy {L : Nat → Nat → Prop} {a b : Nat} (h : Con L a b) : Con L b a := fun p hp => (h p hp).symm
theorem Con.tr {L : Nat → Nat → Prop} {a b c : Nat} (h : Con L a b) (h2 : Con L b c) : Con L a c := fun p hp => (h p hp).trans (h2 p hp)
theorem Con.of {L : Nat → Nat → Prop} {a b : Nat} (h : L a b) : Con L a b := fun _ hp => hp a b h
theorem Con.mono {L L2 : Nat → Nat → Prop} {a b : Nat} (h : ∀ x y, L x y → Con L2 x y) (c : Con L a b) : Con L2 a b := fun p hp => c p (fun x y q => h x y q p hp)
theorem Con.map {L L2 : Nat → Nat → Prop} {a b : Nat} (g : Nat → Nat) (h : ∀ x y, L x y → Con L2 (g x) (g y)) (c : Con L a b) : Con L2 (g a) (g b) := fun p hp => c (fun z => p (g z)) (fun x y q => h x y q p hp)
theorem Con.eq {L : Nat → Nat → Prop} {a b : Nat} (h : a = b) : Con L a b := by subst h; exact Con.rf
/-- one more pair -/
def addE (L : Nat → Nat → Prop) (a b : Nat) : Nat → Nat → Prop := fun x y => L x y ∨ (x = a ∧ y = b)
theorem con_up {L : Nat → Nat → Prop} {a b x y : Nat} (h : Con L x y) : Con (addE L a b) x y := h.mono (fun _ _ q => Con.of (Or.inl q))
theorem con_new {L : Nat → Nat → Prop} {a b : Nat} : Con (addE L a b) a b := Con.of (Or.inr ⟨rfl, rfl⟩)
theorem con_add {L : Nat → Nat → Prop} {a b x y : Nat} : Con (addE L a b) x y ↔ Con L x y ∨ (Con L x a ∧ Con L b y) ∨ (Con L x b ∧ Con L a y) := by
  constructor
  · intro c
    have := c (fun z => Con L x z ∨ (Con L x a ∧ Con L b z) ∨ (Con L x b ∧ Con L a z)) (fun u w q => by
      rcases q with q | ⟨rfl, rfl⟩
      · have q := Con.of q
        constructor
        · rintro (h | ⟨h, h2⟩ | ⟨h, h2⟩)
          · exact Or.inl (h.tr q)
          · exact Or.inr (Or.inl ⟨h, h2.tr q⟩)
          · exact Or.inr (Or.inr ⟨h, h2.tr q⟩)
        · rintro (h | ⟨h, h2⟩ | ⟨h, h2⟩)
          · exact Or.inl (h.tr q.sy)
          · exact Or.inr (Or.inl ⟨h, h2.tr q.sy⟩)
          · exact Or.inr (Or.inr ⟨h, h2.tr q.sy⟩)
      · constructor
        · rintro (h | ⟨h, h2⟩ | ⟨h, h2⟩)
          · exact Or.inr (Or.inl ⟨h, Con.rf⟩)
          · exact Or.inr (Or.inl ⟨h, Con.rf⟩)
          · exact Or.inl h
        · rintro (h | ⟨h, h2⟩ | ⟨h, h2⟩)
          · exact Or.inr (Or.inr ⟨h, Con.rf⟩)
          · exact Or.inl h
          · exact Or.inr (Or.inr ⟨h, Con.rf⟩))
    exact this.mp (Or.inl Con.rf)
  · rintro (h | ⟨h, h2⟩ | ⟨h, h2⟩)
    · exact con_up h
    · exact (con_up h).tr (con_new.tr (con_up h2))
    · exact (con_up h).tr (con_new.sy.tr (con_up h2))
theorem con_add_in {L : Nat → Nat → Prop} {a b : Nat} (h : Con L a b) {x y : Nat} : Con (addE L a b) x y ↔ Con L x y :=
  ⟨fun c => c.mono (fun u w q => by
    rcases q with q | ⟨rfl, rfl⟩
    · exact Con.of q
    · exact h), con_up⟩
/-! counting by a map that keeps things apart -/
theorem ct_inj {p : Nat → Bool} {g : Nat → Nat} : ∀ {M N : Nat} {q : Nat → Bool}, (∀ x, x < M → p x = true → g x < N ∧ q (g x) = true) → (∀ x y, x < M → y < M → p x = true → p y = true → g x = g y → x = y) → fb_ct p M ≤ fb_ct q N
  | 0, _, _, _, _ => Nat.zero_le _
  | M + 1, N, q, h, hi => by
    rw [fb_ct_succ]
    cases hp : p M with
    | false =>
      have := ct_inj (p := p) (g := g) (M := M) (N := N) (q := q) (fun x hx => h x (by omega)) (fun x y hx hy => hi x y (by omega) (by omega))
      simpa using this
    | true =>
      obtain ⟨h1, h2⟩ := h M (by omega) hp
      have ih := ct_inj (p := p) (g := g) (M := M) (N := N) (q := fun k => if k = g M then false else q k) (fun x hx hpx => by
        obtain ⟨a, b⟩ := h x (by omega) hpx
        refine ⟨a, ?_⟩
        show (if g x = g M then false else q (g x)) = true
        rw [if_neg (fun e => by have := hi x M (by omega) (by omega) hpx hp e; omega)]
        exact b) (fun x y hx hy => hi x y (by omega) (by omega))
      have u := fb_ct_upd q false h1
      rw [h2] at u
      replace u : fb_ct (fun k => if k = g M then false else q k) N + 1 = fb_ct q N + 0 := u
      show fb_ct p M + 1 ≤ fb_ct q N
      omega
theorem ct_inj_ex {p q : Nat → Bool} {M N : Nat} (r : Nat → Nat → Prop) (h : ∀ x, x < M → p x = true → ∃ y, y < N ∧ q y = true ∧ r x y) (hi : ∀ x x2 y, x < M → x2 < M → p x = true → p x2 = true → r x y → r x2 y → x = x2) : fb_ct p M ≤ fb_ct q N := by
  have hc : ∃ g : Nat → Nat, ∀ x, x < M → p x = true → g x < N ∧ q (g x) = true ∧ r x (g x) :=
    ⟨fun x => Classical.epsilon (fun y => y < N ∧ q y = true ∧ r x y), fun x hx hp => Classical.epsilon_spec (h x hx hp)⟩
  obtain ⟨g, hg⟩ := hc
  refine ct_inj (g := g) (fun x hx hp => ⟨(hg x hx hp).1, (hg x hx hp).2.1⟩) (fun x y hx hy px py e => ?_)
  have r2 := (hg y hy py).2.2
  rw [← e] at r2
  exact hi x y (g x) hx hy px py (hg x hx px).2.2 r2
theorem least_of (P : Nat → Prop) {n : Nat} (h : P n) : ∃ k, k ≤ n ∧ P k ∧ ∀ j, P j → k ≤ j := by
  obtain ⟨k, h1, h2⟩ := pk_least P ⟨n, h⟩
  refine ⟨k, Classical.byContradiction (fun q => h2 n (by omega) h), h1, fun j hj => Classical.byContradiction (fun q => h2 j (by omega) hj)⟩
noncomputable def dcd (P : Prop) : Bool := @decide P (Classical.propDecidable P)
theorem dcd_iff {P : Prop} : dcd P = true ↔ P := @decide_eq_true_iff P (Classical.propDecidable P)
/-- n is the least of its class within V -/
def rep (V : Nat → Bool) (L : Nat → Nat → Prop) (n : Nat) : Prop := V n = true ∧ ∀ m, V m = true → Con L n m → n ≤ m
/-- how many classes of L meet V, below M -/
noncomputable def cc (V : Nat → Bool) (L : Nat → Nat → Prop) (M : Nat) : Nat := fb_ct (fun n => dcd (rep V L n)) M
theorem rep_only {V : Nat → Bool} {L : Nat → Nat → Prop} {n m : Nat} (h1 : rep V L n) (h2 : rep V L m) (c : Con L n m) : n = m :=
  Nat.le_antisymm (h1.2 m h2.1 c) (h2.2 n h1.1 c.sy)
theorem rep_ex {V : Nat → Bool} {L : Nat → Nat → Prop} {n : Nat} (h : V n = true) : ∃ k, k ≤ n ∧ rep V L k ∧ Con L k n := by
  obtain ⟨k, h1, ⟨h2, h3⟩, h4⟩ := least_of (fun k => V k = true ∧ Con L k n) (n := n) ⟨h, Con.rf⟩
  exact ⟨k, h1, ⟨h2, fun m hm c => h4 m ⟨hm, c.sy.tr h3⟩⟩, h3⟩
theorem cc_le {V V2 : Nat → Bool} {L L2 : Nat → Nat → Prop} {M M2 : Nat} (g : Nat → Nat) (hV : ∀ x, x < M → V x = true → g x < M2 ∧ V2 (g x) = true)
    (hc : ∀ x y, x < M → y < M → V x = true → V y = true → Con L2 (g x) (g y) → Con L x y) : cc V L M ≤ cc V2 L2 M2 := by
  refine ct_inj_ex (fun x y => Con L2 y (g x)) (fun x hx hp => ?_) (fun x x2 y hx hx2 hp hp2 r1 r2 => ?_)
  · obtain ⟨a, b⟩ := hV x hx (dcd_iff.mp hp).1
    obtain ⟨k, k1, k2, k3⟩ := rep_ex (L := L2) b
    exact ⟨k, by omega, dcd_iff.mpr k2, k3⟩
  · have p1 := dcd_iff.mp hp
    have p2 := dcd_iff.mp hp2
    exact rep_only p1 p2 (hc x x2 hx hx2 p1.1 p2.1 (r1.sy.tr r2))
theorem cc_cong {V V2 : Nat → Bool} {L L2 : Nat → Nat → Prop} {M : Nat} (hV : ∀ x, x < M → V x = V2 x) (hc : ∀ x y, x < M → y < M → V x = true → V y = true → (Con L x y ↔ Con L2 x y)) : cc V L M = cc V2 L2 M :=
  Nat.le_antisymm (cc_le (fun x => x) (fun x hx h => ⟨hx, by rw [← hV x hx]; exact h⟩) (fun x y hx hy h1 h2 => (hc x y hx hy h1 h2).mpr))
    (cc_le (fun x => x) (fun x hx h => ⟨hx, by rw [hV x hx]; exact h⟩) (fun x y hx hy h1 h2 => (hc x y hx hy (by rw [hV x hx]; exact h1) (by rw [hV y hy]; exact h2)).mp))
theorem cc_pairs {V : Nat → Bool} {L L2 : Nat → Nat → Prop} {M : Nat} (h1 : ∀ x y, L x y → Con L2 x y) (h2 : ∀ x y, L2 x y → Con L x y) : cc V L M = cc V L2 M :=
  cc_cong (fun _ _ => rfl) (fun _ _ _ _ _ _ => ⟨Con.mono h1, Con.mono h2⟩)
theorem cc_same {V : Nat → Bool} {L : Nat → Nat → Prop} {M a b : Nat} (h : Con L a b) : cc V (addE L a b) M = cc V L M :=
  cc_cong (fun _ _ => rfl) (fun _ _ _ _ _ _ => con_add_in h)
theorem cc_one_out {p q : Nat → Bool} {M w : Nat} (hw : w < M) (hp : p w = true) (h : ∀ x, x < M → (q x = true ↔ (p x = true ∧ x ≠ w))) : fb_ct p M = fb_ct q M + 1 := by
  have u := fb_ct_upd p false hw
  rw [hp] at u
  have e : fb_ct q M = fb_ct (fun k => if k = w then false else p k) M := fb_ct_cong (fun x hx => by
    rw [Bool.eq_iff_iff, h x hx]
    by_cases z : x = w
    · simp [z]
    · simp [z])
  rw [e]
  replace u : fb_ct (fun k => if k = w then false else p k) M + 1 = fb_ct p M + 0 := u
  omega
theorem cc_merge {V : Nat → Bool} {L : Nat → Nat → Prop} {M a b : Nat} (hM : ∀ x, V x = true → x < M) (ha : V a = true) (hb : V b = true) (h : ¬ Con L a b) : cc V L M = cc V (addE L a b) M + 1 := by
  obtain ⟨ra, _, a1, a2⟩ := rep_ex (L := L) ha
  obtain ⟨rb, _, b1, b2⟩ := rep_ex (L := L) hb
  have hab : Con (addE L a b) ra rb := (con_up a2).tr (con_new.tr (con_up b2.sy))
  have key : ∀ u w : Nat, rep V L u → rep V L w → u < w → Con (addE L a b) u w → (∀ n m, Con (addE L a b) n m → Con L n m ∨ (Con L n u ∧ Con L w m) ∨ (Con L n w ∧ Con L u m)) → cc V L M = cc V (addE L a b) M + 1 := by
    intro u w hu hw huw hc hs
    refine cc_one_out (w := w) (hM w hw.1) (dcd_iff.mpr hw) (fun x hx => ?_)
    rw [dcd_iff, dcd_iff]
    constructor
    · intro r
      refine ⟨⟨r.1, fun m hm c => r.2 m hm (con_up c)⟩, fun e => ?_⟩
      subst e
      have := r.2 u hu.1 hc.sy
      omega
    · rintro ⟨r, ne⟩
      refine ⟨r.1, fun m hm c => ?_⟩
      rcases hs x m c with c | ⟨c1, c2⟩ | ⟨c1, c2⟩
      · exact r.2 m hm c
      · have e := rep_only r hu c1
        have := hw.2 m hm c2
        omega
      · exact absurd (rep_only r hw c1) ne
  have hs : ∀ n m, Con (addE L a b) n m → Con L n m ∨ (Con L n ra ∧ Con L rb m) ∨ (Con L n rb ∧ Con L ra m) := fun n m c => by
    rcases con_add.mp c with c | ⟨c1, c2⟩ | ⟨c1, c2⟩
    · exact Or.inl c
    · exact Or.inr (Or.inl ⟨c1.tr a2.sy, b2.tr c2⟩)
    · exact Or.inr (Or.inr ⟨c1.tr b2.sy, a2.tr c2⟩)
  rcases Nat.lt_trichotomy ra rb with q | q | q
  · exact key ra rb a1 b1 q hab hs
  · exact absurd (a2.sy.tr ((Con.eq q).tr b2)) h
  · exact key rb ra b1 a1 q hab.sy (fun n m c => by
      rcases hs n m c with c | ⟨c1, c2⟩ | ⟨c1, c2⟩
      · exact Or.inl c
      · exact Or.inr (Or.inr ⟨c1, c2⟩)
      · exact Or.inr (Or.inl ⟨c1, c2⟩))
/-- a class of its own goes -/
theorem cc_gone {V V2 : Nat → Bool} {L : Nat → Nat → Prop} {M a : Nat} (ha : V a = true) (haM : a < M) (h : ∀ x, x < M → (V2 x = true ↔ (V x = true ∧ ¬ Con L a x))) : cc V L M = cc V2 L M + 1 := by
  obtain ⟨r, r0, r1, r2⟩ := rep_ex (L := L) ha
  refine cc_one_out (w := r) (by omega) (dcd_iff.mpr r1) (fun x hx => ?_)
  rw [dcd_iff, dcd_iff]
  constructor
  · rintro ⟨q1, q2⟩
    obtain ⟨v1, v2⟩ := (h x hx).mp q1
    refine ⟨⟨v1, fun m hm c => ?_⟩, fun e => v2 (e ▸ r2.sy)⟩
    rcases Nat.lt_or_ge m M with z | z
    · exact q2 m ((h m z).mpr ⟨hm, fun c2 => v2 (c2.tr c.sy)⟩) c
    · omega
  · rintro ⟨q1, ne⟩
    refine ⟨(h x hx).mpr ⟨q1.1, fun c => ne (rep_only q1 r1 (c.sy.tr r2.sy))⟩, fun m hm c => ?_⟩
    rcases Nat.lt_or_ge m M with z | z
    · exact q1.2 m ((h m z).mp hm).1 c
    · omega
theorem cc_none {V : Nat → Bool} {L : Nat → Nat → Prop} {M : Nat} (h : ∀ x, x < M → V x = false) : cc V L M = 0 :=
  fb_ct_zero.mpr (fun x hx => Bool.eq_false_iff.mpr (fun q => by have := (dcd_iff.mp q).1; rw [h x hx] at this; cases this))
theorem cc_pos {V : Nat → Bool} {L : Nat → Nat → Prop} {M a : Nat} (ha : a < M) (h : V a = true) : 1 ≤ cc V L M := by
  obtain ⟨k, k1, k2, _⟩ := rep_ex (L := L) h
  exact fb_ct_pos.mpr ⟨k, by omega, dcd_iff.mpr k2⟩
/-- with just one class all are in it -/
theorem cc_all {V : Nat → Bool} {L : Nat → Nat → Prop} {M : Nat} (h : cc V L M = 1) {a b : Nat} (ha : a < M) (hb : b < M) (va : V a = true) (vb : V b = true) : Con L a b := by
  obtain ⟨x, x1, x2, x3⟩ := rep_ex (L := L) va
  obtain ⟨y, y1, y2, y3⟩ := rep_ex (L := L) vb
  have e : x = y := Classical.byContradiction (fun ne => by
    have := cc_one_out (p := fun n => dcd (rep V L n)) (q := fun n => dcd (rep V L n) && !(n == x)) (M := M) (w := x) (by omega) (dcd_iff.mpr x2) (fun z _ => by simp)
    have h2 : 0 < fb_ct (fun n => dcd (rep V L n) && !(n == x)) M := fb_ct_pos.mpr ⟨y, by omega, by
      show (dcd (rep V L y) && !(y == x)) = true
      rw [dcd_iff.mpr y2]; simp; exact fun z => ne z.symm⟩
    have h3 : fb_ct (fun n => dcd (rep V L n)) M = 1 := h
    omega)
  exact x3.sy.tr ((Con.eq e).tr y3)
/-! the labels of part 40 tell these classes -/
theorem LbIs.con {L : Nat → Nat → Prop} {lab : Nat → Nat} (H : LbIs L lab) {a b : Nat} : lab a = lab b ↔ Con L a b := by
  obtain ⟨h1, h2, h3, h4⟩ := H
  constructor
  · intro e p hp
    have ea := h4 p hp a
    have eb := h4 p hp b
    rw [e] at ea
    exact ea.symm.trans eb
  · intro c
    exact (c (fun x => lab a = lab x) (fun x y q => by rw [h3 x y q])).mp rfl
