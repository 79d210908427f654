/-! ===== cycles of a permutation; two of its places exchanged ===== -/
def Vlt (E : Nat) : Nat → Bool := fun x => decide (x < E)
theorem Vlt_iff {E x : Nat} : Vlt E x = true ↔ x < E := decide_eq_true_iff
def pR (E : Nat) (p : Nat → Nat) : Nat → Nat → Prop := fun x y => x < E ∧ y = p x
def sw (a b x : Nat) : Nat := if x = a then b else if x = b then a else x
theorem sw_a (a b : Nat) : sw a b a = b := if_pos rfl
theorem sw_b (a b : Nat) : sw a b b = a := by
  unfold sw
  by_cases h : b = a
  · rw [if_pos h, h]
  · rw [if_neg h, if_pos rfl]
theorem sw_o {a b x : Nat} (h1 : x ≠ a) (h2 : x ≠ b) : sw a b x = x := by unfold sw; rw [if_neg h1, if_neg h2]
theorem sw_sw (a b x : Nat) : sw a b (sw a b x) = x := by
  by_cases h1 : x = a
  · rw [h1, sw_a, sw_b]
  · by_cases h2 : x = b
    · rw [h2, sw_b, sw_a]
    · rw [sw_o h1 h2, sw_o h1 h2]
theorem sw_lt {E a b x : Nat} (ha : a < E) (hb : b < E) (hx : x < E) : sw a b x < E := by
  by_cases h1 : x = a
  · rw [h1, sw_a]; exact hb
  · by_cases h2 : x = b
    · rw [h2, sw_b]; exact ha
    · rw [sw_o h1 h2]; exact hx
theorem perm_sw {E : Nat} {p pi : Nat → Nat} (h : Perm E p pi) {a b : Nat} (ha : a < E) (hb : b < E) : Perm E (fun x => p (sw a b x)) (fun x => sw a b (pi x)) := fun x hx => by
  have h1 := h _ (sw_lt ha hb hx)
  have h2 := h x hx
  exact ⟨h1.1, sw_lt ha hb h2.2.1, by show sw a b (pi (p (sw a b x))) = x; rw [h1.2.2.1, sw_sw], by show p (sw a b (sw a b (pi x))) = x; rw [sw_sw]; exact h2.2.2.2⟩
theorem con_itr {E : Nat} {p pi : Nat → Nat} (h : Perm E p pi) {s : Nat} (hs : s < E) : ∀ n, Con (pR E p) s (itr p n s)
  | 0 => Con.rf
  | n + 1 => (con_itr h hs n).tr (Con.of ⟨itr_lt h hs n, rfl⟩)
theorem con_orb {E : Nat} {p pi : Nat → Nat} (h : Perm E p pi) {a b : Nat} (ha : a < E) : Con (pR E p) a b ↔ Orb p a b := by
  constructor
  · intro c
    refine (c (fun z => Orb p a z) (fun x y q => ?_)).mp ⟨0, rfl⟩
    obtain ⟨hx, rfl⟩ := q
    have o1 : Orb p x (p x) := ⟨1, rfl⟩
    exact ⟨fun o => o.trans o1, fun o => o.trans (orb_back h hx o1)⟩
  · rintro ⟨n, rfl⟩
    exact con_itr h ha n
theorem sw_join {E : Nat} {p pi : Nat → Nat} (h : Perm E p pi) {a b : Nat} (ha : a < E) (hb : b < E) (hab : a ≠ b) (hn : ¬ Con (pR E p) a b) {x y : Nat} : Con (pR E (fun x => p (sw a b x))) x y ↔ Con (addE (pR E p) a b) x y := by
  have ho : ¬ Orb p a b := fun o => hn ((con_orb h ha).mpr o)
  obtain ⟨k, k1, k2, k3, k4⟩ := orb_least h ha
  have key : ∀ j, 1 ≤ j → j ≤ k → itr (fun x => p (sw a b x)) j b = itr p j a := by
    intro j
    induction j with
    | zero => intro z; omega
    | succ j ih =>
      intro _ hj
      show p (sw a b (itr (fun x => p (sw a b x)) j b)) = p (itr p j a)
      by_cases z : j = 0
      · subst z
        show p (sw a b b) = p a
        rw [sw_b]
      · rw [ih (by omega) (by omega), sw_o (k4 j (by omega) (by omega)) (fun e => ho ⟨j, e⟩)]
  have cba : Con (pR E (fun x => p (sw a b x))) b a := by
    have := con_itr (perm_sw h ha hb) hb k
    rw [key k k1 (Nat.le_refl _), k3] at this
    exact this
  have step : ∀ z, z < E → Con (pR E (fun x => p (sw a b x))) z (p (sw a b z)) := fun z hz => Con.of ⟨hz, rfl⟩
  constructor
  · refine Con.mono (fun u w q => ?_)
    obtain ⟨hu, rfl⟩ := q
    by_cases e1 : u = a
    · subst e1
      show Con _ u (p (sw u b u))
      rw [sw_a]
      exact con_new.tr (con_up (Con.of ⟨hb, rfl⟩))
    · by_cases e2 : u = b
      · subst e2
        show Con _ u (p (sw a u u))
        rw [sw_b]
        exact con_new.sy.tr (con_up (Con.of ⟨ha, rfl⟩))
      · show Con _ u (p (sw a b u))
        rw [sw_o e1 e2]
        exact con_up (Con.of ⟨hu, rfl⟩)
  · refine Con.mono (fun u w q => ?_)
    rcases q with ⟨hu, rfl⟩ | ⟨rfl, rfl⟩
    · by_cases e1 : u = a
      · subst e1
        have := step b hb
        rw [sw_b] at this
        exact cba.sy.tr this
      · by_cases e2 : u = b
        · subst e2
          have := step a ha
          rw [sw_a] at this
          exact cba.tr this
        · have := step u hu
          rw [sw_o e1 e2] at this
          exact this
    · exact cba.sy
theorem sw_sep {E : Nat} {p pi : Nat → Nat} (h : Perm E p pi) {a b : Nat} (ha : a < E) (hb : b < E) (hab : a ≠ b) (hn : Con (pR E p) a b) : ¬ Con (pR E (fun x => p (sw a b x))) a b := by
  obtain ⟨n, hn⟩ := (con_orb h ha).mp hn
  obtain ⟨k, ⟨k1, k2⟩, k3⟩ := pk_least (fun k => 1 ≤ k ∧ itr p k a = b) ⟨n, by
    rcases Nat.eq_zero_or_pos n with z | z
    · subst z; exact absurd hn hab
    · exact z, hn⟩
  -- a doesn't come among the first k
  have na : ∀ i, 1 ≤ i → i ≤ k → itr p i a ≠ a := by
    intro i i1 i2 e
    have hik : i ≠ k := fun z => by rw [z, k2] at e; exact hab e.symm
    have e2 : itr p (k - i) a = b := by
      have := itr_add p i a (k - i)
      rw [show k - i + i = k by omega, k2, e] at this
      exact this.symm
    exact k3 (k - i) (by omega) ⟨by omega, e2⟩
  have nb : ∀ i, 1 ≤ i → i < k → itr p i a ≠ b := fun i i1 i2 e => k3 i i2 ⟨i1, e⟩
  have hs := perm_sw h ha hb
  have inj : ∀ x y, x < E → y < E → p (sw a b x) = p (sw a b y) → x = y := fun x y hx hy e => by
    have ex := (hs x hx).2.2.1
    have ey := (hs y hy).2.2.1
    simp only at ex ey
    rw [e] at ex
    exact ex.symm.trans ey
  intro c
  have := c (fun z => ∃ i, 1 ≤ i ∧ i ≤ k ∧ itr p i a = z) (fun x y q => by
    obtain ⟨hx, rfl⟩ := q
    constructor
    · rintro ⟨i, i1, i2, rfl⟩
      by_cases z : i = k
      · refine ⟨1, by omega, by omega, ?_⟩
        show itr p 1 a = p (sw a b (itr p i a))
        rw [z, k2, sw_b]
        rfl
      · refine ⟨i + 1, by omega, by omega, ?_⟩
        show itr p (i + 1) a = p (sw a b (itr p i a))
        rw [sw_o (na i i1 i2) (nb i i1 (by omega))]
        rfl
    · rintro ⟨i, i1, i2, e⟩
      have e : itr p i a = p (sw a b x) := e
      by_cases z : i = 1
      · subst z
        refine ⟨k, k1, Nat.le_refl _, ?_⟩
        rw [k2]
        refine inj b x hb hx ?_
        rw [sw_b]
        exact e
      · refine ⟨i - 1, by omega, by omega, ?_⟩
        refine inj _ x (itr_lt h ha _) hx ?_
        rw [sw_o (na _ (by omega) (by omega)) (nb _ (by omega) (by omega)), ← e]
        obtain ⟨j, rfl⟩ : ∃ j, i = j + 1 := ⟨i - 1, by omega⟩
        rfl)
  obtain ⟨i, i1, i2, e⟩ := this.mpr ⟨k, k1, Nat.le_refl _, k2⟩
  exact na i i1 i2 e
theorem cyc_join {V : Nat → Bool} {E : Nat} {p pi : Nat → Nat} (h : Perm E p pi) (hV : ∀ x, V x = true → x < E) {a b : Nat} (ha : V a = true) (hb : V b = true) (hab : a ≠ b) (hn : ¬ Con (pR E p) a b) : cc V (pR E p) E = cc V (pR E (fun x => p (sw a b x))) E + 1 := by
  rw [cc_merge hV ha hb hn]
  congr 1
  exact cc_cong (fun _ _ => rfl) (fun x y _ _ _ _ => (sw_join h (hV a ha) (hV b hb) hab hn).symm)
theorem cyc_split {V : Nat → Bool} {E : Nat} {p pi : Nat → Nat} (h : Perm E p pi) (hV : ∀ x, V x = true → x < E) {a b : Nat} (ha : V a = true) (hb : V b = true) (hab : a ≠ b) (hn : Con (pR E p) a b) : cc V (pR E (fun x => p (sw a b x))) E = cc V (pR E p) E + 1 := by
  have hsep := sw_sep h (hV a ha) (hV b hb) hab hn
  have := cyc_join (perm_sw h (hV a ha) (hV b hb)) hV ha hb hab hsep
  rw [this]
  congr 1
  refine cc_pairs (fun x y q => ?_) (fun x y q => ?_)
  · obtain ⟨hx, rfl⟩ := q
    refine Con.of ⟨hx, ?_⟩
    show p (sw a b (sw a b x)) = p x
    rw [sw_sw]
  · obtain ⟨hx, rfl⟩ := q
    refine Con.of ⟨hx, ?_⟩
    show p x = p (sw a b (sw a b x))
    rw [sw_sw]
theorem pR_cong {E : Nat} {p q : Nat → Nat} (h : ∀ x, x < E → p x = q x) {V : Nat → Bool} {M : Nat} : cc V (pR E p) M = cc V (pR E q) M :=
  cc_pairs (fun x y z => Con.of ⟨z.1, z.2.trans (h x z.1)⟩) (fun x y z => Con.of ⟨z.1, z.2.trans (h x z.1).symm⟩)
/-- part 43o's count is this one -/
theorem cF_cc {E : Nat} {p pi : Nat → Nat} (h : Perm E p pi) : cF p E = cc (Vlt E) (pR E p) E := by
  have key : ∀ i, i ≤ E → cF p i = fb_ct (fun n => dcd (rep (Vlt E) (pR E p) n)) i := by
    intro i
    induction i with
    | zero => intro _; rfl
    | succ i ih =>
      intro hi
      rw [fb_ct_succ, ← ih (by omega)]
      have e : sS p i i ↔ ¬ rep (Vlt E) (pR E p) i := by
        rw [sS_iff h i (by omega)]
        constructor
        · rintro ⟨y, y1, y2⟩ r
          have := r.2 y (Vlt_iff.mpr (by omega)) ((con_orb h (show y < E by omega)).mpr y2).sy
          omega
        · intro r
          obtain ⟨k, k1, k2, k3⟩ := rep_ex (L := pR E p) (Vlt_iff.mpr (show i < E by omega))
          have hk : k ≠ i := fun z => r (z ▸ k2)
          exact ⟨k, by omega, (con_orb h (show k < E by omega)).mp k3⟩
      by_cases q : rep (Vlt E) (pR E p) i
      · rw [cF_no (fun z => (e.mp z) q), if_pos (dcd_iff.mpr q)]
      · rw [cF_yes (e.mpr q), if_neg (fun z => q (dcd_iff.mp z))]
        rfl
  exact key E (Nat.le_refl _)
