/-! ===== genus 0: the ends are coloured by two colours that change along arcs and around crossings (by the two-sheeted cover) ===== -/
/-- two copies -/
def dupR (N : Nat) (L : Nat → Nat → Prop) : Nat → Nat → Prop := fun a b => (a < N ∧ b < N ∧ L a b) ∨ (N ≤ a ∧ N ≤ b ∧ L (a - N) (b - N))
theorem dup_side {N : Nat} {L : Nat → Nat → Prop} {a b : Nat} (h : Con (dupR N L) a b) : a < N ↔ b < N := h (fun z => z < N) (fun x y q => by
  rcases q with ⟨h1, h2, _⟩ | ⟨h1, h2, _⟩ <;> omega)
theorem dup_low {N : Nat} {L : Nat → Nat → Prop} {a b : Nat} (hL : ∀ x y, L x y → x < N ∧ y < N) (ha : a < N) (hb : b < N) : Con (dupR N L) a b ↔ Con L a b := by
  constructor
  · intro h
    have := h.map (L2 := L) (fun z => if z < N then z else z - N) (fun x y q => by
      rcases q with ⟨h1, h2, h3⟩ | ⟨h1, h2, h3⟩
      · rw [if_pos h1, if_pos h2]; exact Con.of h3
      · rw [if_neg (by omega), if_neg (by omega)]; exact Con.of h3)
    rw [if_pos ha, if_pos hb] at this
    exact this
  · exact Con.mono (fun x y q => Con.of (Or.inl ⟨(hL x y q).1, (hL x y q).2, q⟩))
theorem dup_high {N : Nat} {L : Nat → Nat → Prop} {a b : Nat} : Con (dupR N L) (a + N) (b + N) ↔ Con L a b := by
  constructor
  · intro h
    have hs := h (fun z => N ≤ z → Con L a (z - N)) (fun x y q => by
      rcases q with ⟨h1, h2, h3⟩ | ⟨h1, h2, h3⟩
      · exact ⟨fun _ w => by omega, fun _ w => by omega⟩
      · exact ⟨fun w _ => (w h1).tr (Con.of h3), fun w _ => (w h2).tr (Con.of h3).sy⟩)
    have := hs.mp (fun _ => Con.eq (by omega)) (by omega)
    exact this.tr (Con.eq (by omega))
  · intro h
    have := h.map (L2 := dupR N L) (fun z => z + N) (fun x y q => Con.of (Or.inr ⟨by omega, by omega, by rw [Nat.add_sub_cancel, Nat.add_sub_cancel]; exact q⟩))
    exact this
theorem dup_cc {N : Nat} {L : Nat → Nat → Prop} (hL : ∀ x y, L x y → x < N ∧ y < N) : cc (Vlt (N + N)) (dupR N L) (N + N) = cc (Vlt N) L N + cc (Vlt N) L N := by
  unfold cc
  rw [fb_ct_split]
  have e1 : fb_ct (fun n => dcd (rep (Vlt (N + N)) (dupR N L) n)) N = fb_ct (fun n => dcd (rep (Vlt N) L n)) N := fb_ct_cong (fun x hx => by
    rw [Bool.eq_iff_iff, dcd_iff, dcd_iff]
    constructor
    · rintro ⟨h1, h2⟩
      refine ⟨Vlt_iff.mpr hx, fun m hm c => h2 m (Vlt_iff.mpr ?_) ((dup_low hL hx (Vlt_iff.mp hm)).mpr c)⟩
      have := Vlt_iff.mp hm
      omega
    · rintro ⟨h1, h2⟩
      refine ⟨Vlt_iff.mpr (by omega), fun m hm c => ?_⟩
      have hmN := (dup_side c).mp hx
      exact h2 m (Vlt_iff.mpr hmN) ((dup_low hL hx hmN).mp c))
  have e2 : fb_ct (fun k => (fun n => dcd (rep (Vlt (N + N)) (dupR N L) n)) (N + k)) N = fb_ct (fun n => dcd (rep (Vlt N) L n)) N := fb_ct_cong (fun x hx => by
    show dcd (rep (Vlt (N + N)) (dupR N L) (N + x)) = _
    rw [Bool.eq_iff_iff, dcd_iff, dcd_iff, Nat.add_comm N x]
    constructor
    · rintro ⟨h1, h2⟩
      refine ⟨Vlt_iff.mpr hx, fun m hm c => ?_⟩
      have := Vlt_iff.mp hm
      have := h2 (m + N) (Vlt_iff.mpr (by omega)) (dup_high.mpr c)
      omega
    · rintro ⟨h1, h2⟩
      refine ⟨Vlt_iff.mpr (by omega), fun m hm c => ?_⟩
      have hs := dup_side c
      have hm := Vlt_iff.mp hm
      have e : m = m - N + N := by omega
      rw [e] at c
      have := h2 (m - N) (Vlt_iff.mpr (by omega)) (dup_high.mp c)
      omega)
  rw [e1, e2]
/-- whether an arc joins ends of one parity -/
def pi2 (t : Nat → Nat) (x : Nat) : Nat := (x % 2 + t x % 2 + 1) % 2
/-- the other end, in the cover with 2 * N ends -/
def t2 (N : Nat) (t : Nat → Nat) (e : Nat) : Nat := if e < N then (if pi2 t e = 0 then t e else t e + N) else (if pi2 t (e - N) = 0 then t (e - N) + N else t (e - N))
theorem pi2_lt (t : Nat → Nat) (x : Nat) : pi2 t x = 0 ∨ pi2 t x = 1 := by unfold pi2; omega
theorem pi2_t {N : Nat} {t : Nat → Nat} (ht : Inv2 N t) {x : Nat} (hx : x < N) : pi2 t (t x) = pi2 t x := by
  have := (ht x hx).2.1
  unfold pi2
  rw [this]
  omega
theorem t2_lo0 {N : Nat} {t : Nat → Nat} {x : Nat} (hx : x < N) (h : pi2 t x = 0) : t2 N t x = t x := by unfold t2; rw [if_pos hx, if_pos h]
theorem t2_lo1 {N : Nat} {t : Nat → Nat} {x : Nat} (hx : x < N) (h : pi2 t x = 1) : t2 N t x = t x + N := by unfold t2; rw [if_pos hx, if_neg (by omega)]
theorem t2_hi0 {N : Nat} {t : Nat → Nat} {x : Nat} (h : pi2 t x = 0) : t2 N t (x + N) = t x + N := by unfold t2; rw [if_neg (by omega), Nat.add_sub_cancel, if_pos h]
theorem t2_hi1 {N : Nat} {t : Nat → Nat} {x : Nat} (h : pi2 t x = 1) : t2 N t (x + N) = t x := by unfold t2; rw [if_neg (by omega), Nat.add_sub_cancel, if_neg (by omega)]
theorem lohi {N e : Nat} (h : e < N + N) : e < N ∨ ∃ x, x < N ∧ e = x + N := by
  by_cases z : e < N
  · exact Or.inl z
  · exact Or.inr ⟨e - N, by omega, by omega⟩
theorem t2_inv {N : Nat} {t : Nat → Nat} (ht : Inv2 N t) : Inv2 (N + N) (t2 N t) := fun e he => by
  rcases lohi he with hx | ⟨x, hx, rfl⟩
  · obtain ⟨a, b, d⟩ := ht e hx
    have pt := pi2_t ht hx
    rcases pi2_lt t e with p | p
    · rw [t2_lo0 hx p, t2_lo0 a (by rw [pt]; exact p), b]
      exact ⟨by omega, rfl, d⟩
    · rw [t2_lo1 hx p, t2_hi1 (by rw [pt]; exact p), b]
      exact ⟨by omega, rfl, by omega⟩
  · obtain ⟨a, b, d⟩ := ht x hx
    have pt := pi2_t ht hx
    rcases pi2_lt t x with p | p
    · rw [t2_hi0 p, t2_hi0 (by rw [pt]; exact p), b]
      exact ⟨by omega, rfl, by omega⟩
    · rw [t2_hi1 p, t2_lo1 a (by rw [pt]; exact p), b]
      exact ⟨by omega, rfl, by omega⟩
theorem tn_hi (c x : Nat) : tn 1 (x + 4 * c) = tn 1 x + 4 * c := by unfold tn; omega
theorem tn_par (x : Nat) : tn 1 x % 2 = (x + 1) % 2 := by unfold tn; omega
/-- the faces lift, each to two -/
def gT (N e : Nat) : Nat := if e < N then (if e % 2 = 0 then e else e + N) else (if (e - N) % 2 = 0 then e else e - N)
theorem gT_lo {N e : Nat} (h : e < N) : gT N e = if e % 2 = 0 then e else e + N := by unfold gT; rw [if_pos h]
theorem gT_hi {N x : Nat} : gT N (x + N) = if x % 2 = 0 then x + N else x := by unfold gT; rw [if_neg (by omega), Nat.add_sub_cancel]
theorem gT_lt {N e : Nat} (h : e < N + N) : gT N e < N + N := by
  rcases lohi h with hx | ⟨x, hx, rfl⟩
  · rw [gT_lo hx]; by_cases z : e % 2 = 0
    · rw [if_pos z]; omega
    · rw [if_neg z]; omega
  · rw [gT_hi]; by_cases z : x % 2 = 0
    · rw [if_pos z]; omega
    · rw [if_neg z]; omega
theorem gT_gT {N e : Nat} (h : e < N + N) : gT N (gT N e) = e := by
  rcases lohi h with hx | ⟨x, hx, rfl⟩
  · rw [gT_lo hx]; by_cases z : e % 2 = 0
    · rw [if_pos z, gT_lo hx, if_pos z]
    · rw [if_neg z, gT_hi, if_neg z]
  · rw [gT_hi]; by_cases z : x % 2 = 0
    · rw [if_pos z, gT_hi, if_pos z]
    · rw [if_neg z, gT_lo hx, if_neg z]
theorem faces2 {c : Nat} {t : Nat → Nat} (ht : Inv2 (4 * c) t) : 2 * cc (Vlt (4 * c)) (pR (4 * c) (fun x => tn 1 (t x))) (4 * c) ≤ cc (Vlt (4 * c + 4 * c)) (pR (4 * c + 4 * c) (fun x => tn 1 (t2 (4 * c) t x))) (4 * c + 4 * c) := by
  have hL : ∀ x y, pR (4 * c) (fun x => tn 1 (t x)) x y → x < 4 * c ∧ y < 4 * c := fun x y h => ⟨h.1, by rw [h.2]; exact tn_lt (ht x h.1).1⟩
  have d := dup_cc hL
  have le : cc (Vlt (4 * c + 4 * c)) (dupR (4 * c) (pR (4 * c) (fun x => tn 1 (t x)))) (4 * c + 4 * c) ≤ cc (Vlt (4 * c + 4 * c)) (pR (4 * c + 4 * c) (fun x => tn 1 (t2 (4 * c) t x))) (4 * c + 4 * c) := by
    refine cc_le (gT (4 * c)) (fun x hx _ => ⟨gT_lt hx, Vlt_iff.mpr (gT_lt hx)⟩) (fun x y hx hy _ _ q => ?_)
    have m := q.map (L2 := dupR (4 * c) (pR (4 * c) (fun x => tn 1 (t x)))) (gT (4 * c)) (fun u w z => by
      obtain ⟨hu, rfl⟩ := z
      show Con (dupR (4 * c) (pR (4 * c) (fun x => tn 1 (t x)))) (gT (4 * c) u) (gT (4 * c) (tn 1 (t2 (4 * c) t u)))
      rcases lohi hu with h | ⟨v, h, rfl⟩
      · have a := (ht u h).1
        have b : tn 1 (t u) < 4 * c := tn_lt a
        have b2 := tn_par (t u)
        rcases pi2_lt t u with p | p
        · rw [t2_lo0 h p, gT_lo h, gT_lo b]
          by_cases z : u % 2 = 0
          · rw [if_pos z, if_pos (by unfold pi2 at p; omega)]
            exact Con.of (Or.inl ⟨h, b, h, rfl⟩)
          · rw [if_neg z, if_neg (by unfold pi2 at p; omega)]
            exact dup_high.mpr (Con.of ⟨h, rfl⟩)
        · rw [t2_lo1 h p, gT_lo h, tn_hi, gT_hi]
          by_cases z : u % 2 = 0
          · rw [if_pos z, if_neg (by unfold pi2 at p; omega)]
            exact Con.of (Or.inl ⟨h, b, h, rfl⟩)
          · rw [if_neg z, if_pos (by unfold pi2 at p; omega)]
            exact dup_high.mpr (Con.of ⟨h, rfl⟩)
      · have a := (ht v h).1
        have b : tn 1 (t v) < 4 * c := tn_lt a
        have b2 := tn_par (t v)
        rcases pi2_lt t v with p | p
        · rw [t2_hi0 p, gT_hi, tn_hi, gT_hi]
          by_cases z : v % 2 = 0
          · rw [if_pos z, if_pos (by unfold pi2 at p; omega)]
            exact dup_high.mpr (Con.of ⟨h, rfl⟩)
          · rw [if_neg z, if_neg (by unfold pi2 at p; omega)]
            exact Con.of (Or.inl ⟨h, b, h, rfl⟩)
        · rw [t2_hi1 p, gT_hi, gT_lo b]
          by_cases z : v % 2 = 0
          · rw [if_pos z, if_neg (by unfold pi2 at p; omega)]
            exact dup_high.mpr (Con.of ⟨h, rfl⟩)
          · rw [if_neg z, if_pos (by unfold pi2 at p; omega)]
            exact Con.of (Or.inl ⟨h, b, h, rfl⟩))
    rw [gT_gT hx, gT_gT hy] at m
    exact m
  omega
/-- the parts of the cover lie over the parts; r is above or r + N is -/
theorem part_up {c : Nat} {t : Nat → Nat} (ht : Inv2 (4 * c) t) {r x : Nat} (hr : r < 4 * c) (h : Con (gR (4 * c) t) r x) : x < 4 * c ∧ (Con (gR (4 * c + 4 * c) (t2 (4 * c) t)) r x ∨ Con (gR (4 * c + 4 * c) (t2 (4 * c) t)) (r + 4 * c) x) ∧ (Con (gR (4 * c + 4 * c) (t2 (4 * c) t)) r (x + 4 * c) ∨ Con (gR (4 * c + 4 * c) (t2 (4 * c) t)) (r + 4 * c) (x + 4 * c)) := by
  refine (h (fun x => x < 4 * c ∧ (Con (gR (4 * c + 4 * c) (t2 (4 * c) t)) r x ∨ Con (gR (4 * c + 4 * c) (t2 (4 * c) t)) (r + 4 * c) x) ∧ (Con (gR (4 * c + 4 * c) (t2 (4 * c) t)) r (x + 4 * c) ∨ Con (gR (4 * c + 4 * c) (t2 (4 * c) t)) (r + 4 * c) (x + 4 * c))) (fun u w q => ?_)).mp ⟨hr, Or.inl Con.rf, Or.inr Con.rf⟩
  obtain ⟨hu, q⟩ := q
  have e1 : Con (gR (4 * c + 4 * c) (t2 (4 * c) t)) u (tn 1 u) := Con.of ⟨by omega, Or.inl rfl⟩
  have e2 : Con (gR (4 * c + 4 * c) (t2 (4 * c) t)) (u + 4 * c) (tn 1 u + 4 * c) := Con.of ⟨by omega, Or.inl (tn_hi c u).symm⟩
  have t1 : Con (gR (4 * c + 4 * c) (t2 (4 * c) t)) u (t2 (4 * c) t u) := Con.of ⟨by omega, Or.inr rfl⟩
  have t3 : Con (gR (4 * c + 4 * c) (t2 (4 * c) t)) (u + 4 * c) (t2 (4 * c) t (u + 4 * c)) := Con.of ⟨by omega, Or.inr rfl⟩
  have key : ∀ w, w < 4 * c → (Con (gR (4 * c + 4 * c) (t2 (4 * c) t)) u w ∧ Con (gR (4 * c + 4 * c) (t2 (4 * c) t)) (u + 4 * c) (w + 4 * c)) ∨ (Con (gR (4 * c + 4 * c) (t2 (4 * c) t)) u (w + 4 * c) ∧ Con (gR (4 * c + 4 * c) (t2 (4 * c) t)) (u + 4 * c) w) → ((u < 4 * c ∧ (Con (gR (4 * c + 4 * c) (t2 (4 * c) t)) r u ∨ Con (gR (4 * c + 4 * c) (t2 (4 * c) t)) (r + 4 * c) u) ∧ (Con (gR (4 * c + 4 * c) (t2 (4 * c) t)) r (u + 4 * c) ∨ Con (gR (4 * c + 4 * c) (t2 (4 * c) t)) (r + 4 * c) (u + 4 * c))) ↔ (w < 4 * c ∧ (Con (gR (4 * c + 4 * c) (t2 (4 * c) t)) r w ∨ Con (gR (4 * c + 4 * c) (t2 (4 * c) t)) (r + 4 * c) w) ∧ (Con (gR (4 * c + 4 * c) (t2 (4 * c) t)) r (w + 4 * c) ∨ Con (gR (4 * c + 4 * c) (t2 (4 * c) t)) (r + 4 * c) (w + 4 * c)))) := by
    intro w hw hc
    rcases hc with ⟨k1, k2⟩ | ⟨k1, k2⟩
    · constructor
      · rintro ⟨_, a, b⟩
        exact ⟨hw, a.imp (fun z => z.tr k1) (fun z => z.tr k1), b.imp (fun z => z.tr k2) (fun z => z.tr k2)⟩
      · rintro ⟨_, a, b⟩
        exact ⟨hu, a.imp (fun z => z.tr k1.sy) (fun z => z.tr k1.sy), b.imp (fun z => z.tr k2.sy) (fun z => z.tr k2.sy)⟩
    · constructor
      · rintro ⟨_, a, b⟩
        exact ⟨hw, b.imp (fun z => z.tr k2) (fun z => z.tr k2), a.imp (fun z => z.tr k1) (fun z => z.tr k1)⟩
      · rintro ⟨_, a, b⟩
        exact ⟨hu, b.imp (fun z => z.tr k1.sy) (fun z => z.tr k1.sy), a.imp (fun z => z.tr k2.sy) (fun z => z.tr k2.sy)⟩
  rcases q with rfl | rfl
  · exact key _ (tn_lt hu) (Or.inl ⟨e1, e2⟩)
  · have a := (ht u hu).1
    rcases pi2_lt t u with p | p
    · rw [t2_lo0 hu p] at t1
      rw [t2_hi0 p] at t3
      exact key _ a (Or.inl ⟨t1, t3⟩)
    · rw [t2_lo1 hu p] at t1
      rw [t2_hi1 p] at t3
      exact key _ a (Or.inr ⟨t1, t3⟩)
/-- the two sheets exchanged -/
def flp (N e : Nat) : Nat := if e < N then e + N else e - N
theorem flp_con {c : Nat} {t : Nat → Nat} (ht : Inv2 (4 * c) t) {a b : Nat} (h : Con (gR (4 * c + 4 * c) (t2 (4 * c) t)) a b) : Con (gR (4 * c + 4 * c) (t2 (4 * c) t)) (flp (4 * c) a) (flp (4 * c) b) := by
  refine h.map (flp (4 * c)) (fun u w q => ?_)
  obtain ⟨hu, q⟩ := q
  have lo : ∀ z, z < 4 * c → flp (4 * c) z = z + 4 * c := fun z hz => by unfold flp; rw [if_pos hz]
  have hi : ∀ z, flp (4 * c) (z + 4 * c) = z := fun z => by unfold flp; rw [if_neg (by omega)]; omega
  rcases lohi hu with h | ⟨v, h, rfl⟩
  · rcases q with rfl | rfl
    · rw [lo u h, lo _ (tn_lt h), ← tn_hi]
      exact Con.of ⟨by omega, Or.inl rfl⟩
    · have a := (ht u h).1
      rw [lo u h]
      rcases pi2_lt t u with p | p
      · rw [t2_lo0 h p, lo _ a, ← t2_hi0 p]; exact Con.of ⟨by omega, Or.inr rfl⟩
      · rw [t2_lo1 h p, hi]
        have := t2_hi1 (N := 4 * c) p
        exact Con.of ⟨by omega, Or.inr this.symm⟩
  · rcases q with rfl | rfl
    · rw [hi, tn_hi, hi]
      exact Con.of ⟨by omega, Or.inl rfl⟩
    · have a := (ht v h).1
      rw [hi]
      rcases pi2_lt t v with p | p
      · rw [t2_hi0 p, hi]
        exact Con.of ⟨by omega, Or.inr (t2_lo0 h p).symm⟩
      · rw [t2_hi1 p, lo _ a]
        exact Con.of ⟨by omega, Or.inr (t2_lo1 h p).symm⟩
theorem cover_few {c : Nat} {t : Nat → Nat} (ht : Inv2 (4 * c) t) {e0 : Nat} (he : e0 < 4 * c) (hc : Con (gR (4 * c + 4 * c) (t2 (4 * c) t)) e0 (e0 + 4 * c)) : cc (Vlt (4 * c + 4 * c)) (gR (4 * c + 4 * c) (t2 (4 * c) t)) (4 * c + 4 * c) + 1 ≤ 2 * cc (Vlt (4 * c)) (gR (4 * c) t) (4 * c) := by
  have lo : ∀ z, z < 4 * c → flp (4 * c) z = z + 4 * c := fun z hz => by unfold flp; rw [if_pos hz]
  have hi : ∀ z, flp (4 * c) (z + 4 * c) = z := fun z => by unfold flp; rw [if_neg (by omega)]; omega
  obtain ⟨r0, r1, r2, r3⟩ := rep_ex (L := gR (4 * c) t) (Vlt_iff.mpr he)
  have hr0 : r0 < 4 * c := by omega
  have r4 : Con (gR (4 * c + 4 * c) (t2 (4 * c) t)) r0 (r0 + 4 * c) := by
    rcases (part_up ht hr0 r3).2.1 with z | z
    · have w := flp_con ht z
      rw [lo _ hr0, lo _ he] at w
      exact z.tr (hc.tr w.sy)
    · have w := flp_con ht z
      rw [hi, lo _ he] at w
      exact w.tr (hc.sy.tr z.sy)
  have hL : ∀ x y, gR (4 * c) t x y → x < 4 * c ∧ y < 4 * c := fun x y h => ⟨h.1, by
    rcases h.2 with e | e
    · rw [e]; exact tn_lt h.1
    · rw [e]; exact (ht x h.1).1⟩
  have d := dup_cc hL
  have gone := cc_gone (V := Vlt (4 * c + 4 * c)) (V2 := fun z => Vlt (4 * c + 4 * c) z && !dcd (Con (dupR (4 * c) (gR (4 * c) t)) (r0 + 4 * c) z)) (L := dupR (4 * c) (gR (4 * c) t)) (M := 4 * c + 4 * c) (a := r0 + 4 * c) (Vlt_iff.mpr (by omega)) (by omega) (fun x hx => by
    rw [Bool.and_eq_true, Bool.not_eq_true', ← Bool.not_eq_true, dcd_iff])
  have hrp : ∃ rp : Nat → Nat, ∀ x, x < 4 * c → rp x < 4 * c ∧ rep (Vlt (4 * c)) (gR (4 * c) t) (rp x) ∧ Con (gR (4 * c) t) (rp x) x :=
    ⟨fun x => Classical.epsilon (fun k => k < 4 * c ∧ rep (Vlt (4 * c)) (gR (4 * c) t) k ∧ Con (gR (4 * c) t) k x), fun x hx => Classical.epsilon_spec (p := fun k => k < 4 * c ∧ rep (Vlt (4 * c)) (gR (4 * c) t) k ∧ Con (gR (4 * c) t) k x) (by
      obtain ⟨k, k1, k2, k3⟩ := rep_ex (L := gR (4 * c) t) (Vlt_iff.mpr hx)
      exact ⟨k, by omega, k2, k3⟩)⟩
  obtain ⟨rp, hrp⟩ := hrp
  -- the base end below e
  have bs : ∀ e, e < 4 * c + 4 * c → ∃ x, x < 4 * c ∧ (e = x ∨ e = x + 4 * c) := fun e he => by
    rcases lohi he with h | ⟨v, h, rfl⟩
    · exact ⟨e, h, Or.inl rfl⟩
    · exact ⟨v, h, Or.inr rfl⟩
  have over : ∀ e, e < 4 * c + 4 * c → Con (gR (4 * c + 4 * c) (t2 (4 * c) t)) (rp (if e < 4 * c then e else e - 4 * c)) e ∨ Con (gR (4 * c + 4 * c) (t2 (4 * c) t)) (rp (if e < 4 * c then e else e - 4 * c) + 4 * c) e := fun e he => by
    rcases lohi he with h | ⟨v, h, rfl⟩
    · rw [if_pos h]
      exact (part_up ht (hrp e h).1 (hrp e h).2.2).2.1
    · rw [if_neg (by omega), Nat.add_sub_cancel]
      exact (part_up ht (hrp v h).1 (hrp v h).2.2).2.2
  have inb : ∀ e, e < 4 * c + 4 * c → (if e < 4 * c then e else e - 4 * c) < 4 * c := fun e he => by
    by_cases z : e < 4 * c
    · rw [if_pos z]; exact z
    · rw [if_neg z]; omega
  have le := cc_le (V := Vlt (4 * c + 4 * c)) (L := gR (4 * c + 4 * c) (t2 (4 * c) t)) (M := 4 * c + 4 * c) (V2 := fun z => Vlt (4 * c + 4 * c) z && !dcd (Con (dupR (4 * c) (gR (4 * c) t)) (r0 + 4 * c) z)) (L2 := dupR (4 * c) (gR (4 * c) t)) (M2 := 4 * c + 4 * c)
    (fun e => if dcd (Con (gR (4 * c + 4 * c) (t2 (4 * c) t)) (rp (if e < 4 * c then e else e - 4 * c)) e) then rp (if e < 4 * c then e else e - 4 * c) else rp (if e < 4 * c then e else e - 4 * c) + 4 * c) (fun e he _ => by
      have h1 := hrp _ (inb e he)
      by_cases z : Con (gR (4 * c + 4 * c) (t2 (4 * c) t)) (rp (if e < 4 * c then e else e - 4 * c)) e
      · simp only [dcd_iff.mpr z, if_true]
        refine ⟨by omega, ?_⟩
        rw [Bool.and_eq_true, Bool.not_eq_true', ← Bool.not_eq_true, dcd_iff]
        refine ⟨Vlt_iff.mpr (by omega), fun w => ?_⟩
        have := dup_side w
        omega
      · have zf : dcd (Con (gR (4 * c + 4 * c) (t2 (4 * c) t)) (rp (if e < 4 * c then e else e - 4 * c)) e) = false := Bool.eq_false_iff.mpr (fun w => z (dcd_iff.mp w))
        simp only [zf]
        refine ⟨by simp; omega, ?_⟩
        simp only [Bool.false_eq_true, if_false]
        rw [Bool.and_eq_true, Bool.not_eq_true', ← Bool.not_eq_true, dcd_iff]
        refine ⟨Vlt_iff.mpr (by omega), fun w => z ?_⟩
        have w2 := dup_high.mp w
        have e2 := rep_only r2 h1.2.1 w2
        rw [← e2]
        rcases over e he with q | q
        · rw [← e2] at q; exact q
        · rw [← e2] at q; exact r4.tr q) (fun e e' he he' _ _ q => by
      have h1 := hrp _ (inb e he)
      have h2 := hrp _ (inb e' he')
      by_cases z : Con (gR (4 * c + 4 * c) (t2 (4 * c) t)) (rp (if e < 4 * c then e else e - 4 * c)) e
      · by_cases z' : Con (gR (4 * c + 4 * c) (t2 (4 * c) t)) (rp (if e' < 4 * c then e' else e' - 4 * c)) e'
        · simp only [dcd_iff.mpr z, dcd_iff.mpr z', if_true] at q
          have w := (dup_low hL h1.1 h2.1).mp q
          have e2 := rep_only h1.2.1 h2.2.1 w
          rw [← e2] at z'
          exact z.sy.tr z'
        · have zf : dcd (Con (gR (4 * c + 4 * c) (t2 (4 * c) t)) (rp (if e' < 4 * c then e' else e' - 4 * c)) e') = false := Bool.eq_false_iff.mpr (fun w => z' (dcd_iff.mp w))
          simp only [dcd_iff.mpr z, zf, if_true, Bool.false_eq_true, if_false] at q
          have := dup_side q
          omega
      · have zf : dcd (Con (gR (4 * c + 4 * c) (t2 (4 * c) t)) (rp (if e < 4 * c then e else e - 4 * c)) e) = false := Bool.eq_false_iff.mpr (fun w => z (dcd_iff.mp w))
        by_cases z' : Con (gR (4 * c + 4 * c) (t2 (4 * c) t)) (rp (if e' < 4 * c then e' else e' - 4 * c)) e'
        · simp only [zf, dcd_iff.mpr z', if_true, Bool.false_eq_true, if_false] at q
          have := dup_side q
          omega
        · have zf' : dcd (Con (gR (4 * c + 4 * c) (t2 (4 * c) t)) (rp (if e' < 4 * c then e' else e' - 4 * c)) e') = false := Bool.eq_false_iff.mpr (fun w => z' (dcd_iff.mp w))
          simp only [zf, zf', Bool.false_eq_true, if_false] at q
          have w := dup_high.mp q
          have e2 := rep_only h1.2.1 h2.2.1 w
          have o1 := (over e he).resolve_left z
          have o2 := (over e' he').resolve_left z'
          rw [← e2] at o2
          exact o1.sy.tr o2)
  omega
theorem planar_col {c : Nat} {t : Nat → Nat} (ht : Inv2 (4 * c) t) (h0 : c + 2 * cc (Vlt (4 * c)) (gR (4 * c) t) (4 * c) = cc (Vlt (4 * c)) (pR (4 * c) (fun x => tn 1 (t x))) (4 * c)) : ∃ col : Nat → Bool, ∀ x, x < 4 * c → col (tn 1 x) = !col x ∧ col (t x) = !col x := by
  have lo : ∀ z, z < 4 * c → flp (4 * c) z = z + 4 * c := fun z hz => by unfold flp; rw [if_pos hz]
  have hi : ∀ z, flp (4 * c) (z + 4 * c) = z := fun z => by unfold flp; rw [if_neg (by omega)]; omega
  have split : ∀ e, e < 4 * c → ¬ Con (gR (4 * c + 4 * c) (t2 (4 * c) t)) e (e + 4 * c) := fun e he hc => by
    have a := cover_few ht he hc
    have b := faces2 ht
    have i2 : Inv2 (4 * (2 * c)) (t2 (4 * c) t) := by
      have := t2_inv ht
      rw [show 4 * (2 * c) = 4 * c + 4 * c by omega]
      exact this
    obtain ⟨q, g⟩ := genus_main i2
    rw [show 4 * (2 * c) = 4 * c + 4 * c by omega] at g
    omega
  have hrp : ∃ rp : Nat → Nat, ∀ x, x < 4 * c → rp x < 4 * c ∧ rep (Vlt (4 * c)) (gR (4 * c) t) (rp x) ∧ Con (gR (4 * c) t) (rp x) x :=
    ⟨fun x => Classical.epsilon (fun k => k < 4 * c ∧ rep (Vlt (4 * c)) (gR (4 * c) t) k ∧ Con (gR (4 * c) t) k x), fun x hx => Classical.epsilon_spec (p := fun k => k < 4 * c ∧ rep (Vlt (4 * c)) (gR (4 * c) t) k ∧ Con (gR (4 * c) t) k x) (by
      obtain ⟨k, k1, k2, k3⟩ := rep_ex (L := gR (4 * c) t) (Vlt_iff.mpr hx)
      exact ⟨k, by omega, k2, k3⟩)⟩
  obtain ⟨rp, hrp⟩ := hrp
  have same : ∀ x y, x < 4 * c → y < 4 * c → Con (gR (4 * c) t) x y → rp x = rp y := fun x y hx hy q =>
    rep_only (hrp x hx).2.1 (hrp y hy).2.1 ((hrp x hx).2.2.tr (q.tr (hrp y hy).2.2.sy))
  -- the sheet of x
  have up : ∀ x, x < 4 * c → (Con (gR (4 * c + 4 * c) (t2 (4 * c) t)) (rp x) x ↔ ¬ Con (gR (4 * c + 4 * c) (t2 (4 * c) t)) (rp x) (x + 4 * c)) := fun x hx => by
    have p := part_up ht (hrp x hx).1 (hrp x hx).2.2
    constructor
    · intro a b
      exact split x hx (a.sy.tr b)
    · intro a
      rcases p.2.1 with z | z
      · exact z
      · have w := flp_con ht z
        rw [hi, lo _ hx] at w
        exact absurd w a
  refine ⟨fun x => (dcd (Con (gR (4 * c + 4 * c) (t2 (4 * c) t)) (rp x) x)) ^^ (x % 2 == 1), fun x hx => ⟨?_, ?_⟩⟩
  · have hy : tn 1 x < 4 * c := tn_lt hx
    have e := same x (tn 1 x) hx hy (Con.of ⟨hx, Or.inl rfl⟩)
    have e1 : Con (gR (4 * c + 4 * c) (t2 (4 * c) t)) x (tn 1 x) := Con.of ⟨by omega, Or.inl rfl⟩
    have e2 : dcd (Con (gR (4 * c + 4 * c) (t2 (4 * c) t)) (rp (tn 1 x)) (tn 1 x)) = dcd (Con (gR (4 * c + 4 * c) (t2 (4 * c) t)) (rp x) x) := by
      rw [Bool.eq_iff_iff, dcd_iff, dcd_iff, ← e]
      exact ⟨fun z => z.tr e1.sy, fun z => z.tr e1⟩
    have e3 : (tn 1 x % 2 == 1) = !(x % 2 == 1) := by
      rw [tn_par]
      rcases (show x % 2 = 0 ∨ x % 2 = 1 by omega) with z | z
      · rw [show (x + 1) % 2 = 1 by omega, z]; rfl
      · rw [show (x + 1) % 2 = 0 by omega, z]; rfl
    simp only [e2, e3]
    cases dcd (Con (gR (4 * c + 4 * c) (t2 (4 * c) t)) (rp x) x) <;> cases (x % 2 == 1) <;> rfl
  · have hy : t x < 4 * c := (ht x hx).1
    have e := same x (t x) hx hy (Con.of ⟨hx, Or.inr rfl⟩)
    have e1 : Con (gR (4 * c + 4 * c) (t2 (4 * c) t)) x (t2 (4 * c) t x) := Con.of ⟨by omega, Or.inr rfl⟩
    have e4 : Con (gR (4 * c + 4 * c) (t2 (4 * c) t)) (x + 4 * c) (t2 (4 * c) t (x + 4 * c)) := Con.of ⟨by omega, Or.inr rfl⟩
    rcases pi2_lt t x with p | p
    · rw [t2_lo0 hx p] at e1
      have e2 : dcd (Con (gR (4 * c + 4 * c) (t2 (4 * c) t)) (rp (t x)) (t x)) = dcd (Con (gR (4 * c + 4 * c) (t2 (4 * c) t)) (rp x) x) := by
        rw [Bool.eq_iff_iff, dcd_iff, dcd_iff, ← e]
        exact ⟨fun z => z.tr e1.sy, fun z => z.tr e1⟩
      have e3 : (t x % 2 == 1) = !(x % 2 == 1) := by
        unfold pi2 at p
        rcases (show x % 2 = 0 ∨ x % 2 = 1 by omega) with z | z
        · rw [show t x % 2 = 1 by omega, z]; rfl
        · rw [show t x % 2 = 0 by omega, z]; rfl
      simp only [e2, e3]
      cases dcd (Con (gR (4 * c + 4 * c) (t2 (4 * c) t)) (rp x) x) <;> cases (x % 2 == 1) <;> rfl
    · rw [t2_hi1 p] at e4
      have e2 : dcd (Con (gR (4 * c + 4 * c) (t2 (4 * c) t)) (rp (t x)) (t x)) = !dcd (Con (gR (4 * c + 4 * c) (t2 (4 * c) t)) (rp x) x) := by
        rw [Bool.eq_iff_iff, dcd_iff, Bool.not_eq_true', ← Bool.not_eq_true, dcd_iff, ← e, up x hx]
        exact ⟨fun z w => w (z.tr e4.sy), fun z => (Classical.byContradiction z).tr e4⟩
      have e3 : (t x % 2 == 1) = (x % 2 == 1) := by
        unfold pi2 at p
        rcases (show x % 2 = 0 ∨ x % 2 = 1 by omega) with z | z
        · rw [show t x % 2 = 0 by omega, z]
        · rw [show t x % 2 = 1 by omega, z]
      simp only [e2, e3]
      cases dcd (Con (gR (4 * c + 4 * c) (t2 (4 * c) t)) (rp x) x) <;> cases (x % 2 == 1) <;> rfl
