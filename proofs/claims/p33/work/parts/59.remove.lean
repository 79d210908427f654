def kkD (d : St) (v k : Nat) : St := (d.1 - 1, d.2.1 + jnO d.2.2 (en v (k + 2)) (en v (k + 3)), drp (jnF d.2.2 (en v (k + 2)) (en v (k + 3))) v)
theorem kk_VS {d : St} (hV : VS d) {v k : Nat} (hv : v < d.1) (hk : k < 4) (hE : kE d.2.2 v k) (ho : (kkD d v k).2.1 ≤ 4) : VS (kkD d v k) := by
  have m0 : Mt (fun e => e < 4 * d.1) d.2.2 := Vd.mt hV
  obtain ⟨hc, _, h0, h1, hO⟩ := hV
  have m1 := m0.del (p := en v k) (q := en v (k + 1)) (by unfold en; omega) (by unfold en; omega) (by unfold en; omega) hE
  have m2 := jn_mt m1 (p := en v (k + 2)) (q := en v (k + 3)) (by unfold en; omega) (by unfold en; omega) (by unfold en; omega)
  have m3 : Mt (fun e => e < 4 * d.1 ∧ (fun x => x ≠ v) (e / 4)) (jnF d.2.2 (en v (k + 2)) (en v (k + 3))) := m2.congr (fun x => by
    show ((x < 4 * d.1 ∧ x ≠ en v k ∧ x ≠ en v (k + 1)) ∧ x ≠ en v (k + 2) ∧ x ≠ en v (k + 3)) ↔ (x < 4 * d.1 ∧ x / 4 ≠ v)
    unfold en
    omega)
  have m4 := Mt.drop (P := fun x => x ≠ v) hv (fun z => z rfl) m3
  obtain ⟨b0, b1⟩ := jn_bd (f := d.2.2) (c := d.1) (p := en v (k + 2)) (q := en v (k + 3)) (by unfold en; omega) (by unfold en; omega) h0 h1
  obtain ⟨b2, b3⟩ := drp_bd hv b0 b1
  have np : ∀ e : Nat, (if e / 4 < v then e / 4 else e / 4 + 1) ≠ v := fun e => by
    by_cases w : e / 4 < v
    · rw [if_pos w]; omega
    · rw [if_neg w]; omega
  refine ⟨by show d.1 - 1 ≤ 8; omega, ho, b2, b3, fun e he => ?_⟩
  obtain ⟨t, s1, s2, s3, s4⟩ := m4 e ⟨he, np e⟩
  exact ⟨t, s1.1, s2, s3, fun x hx g => s4 x ⟨hx, np x⟩ g⟩
theorem jnO_le {f : Nat → Nat} {p q : Nat} : jnO f p q ≤ 1 := by
  unfold jnO
  by_cases w : f p = f q
  · rw [if_pos w]; omega
  · rw [if_neg w]; omega
theorem q_dissolveKink {d : St} {a : Nat → Int32} (hV : VS d) (hA : Rp a d.2.2) {v k : Nat} (hv : v < d.1) (hk : k < 4) : ∃ a', kX3_dissolveKink (nI v) (nI k) (nI d.1) (nI d.2.1) a = some (nI (kkD d v k).1, nI (kkD d v k).2.1, a') ∧ Rp a' (kkD d v k).2.2 := by
  obtain ⟨hc, _, h0, h1, hO⟩ := hV
  obtain ⟨b0, b1⟩ := jn_bd (f := d.2.2) (c := d.1) (p := en v (k + 2)) (q := en v (k + 3)) (by unfold en; omega) (by unfold en; omega) h0 h1
  obtain ⟨a1, g1, g2⟩ := q_joinJ hA (o := d.2.1) hc h0 (en_lt (k := k + 2) (show v < 8 by omega)) (en_lt (k := k + 3) (show v < 8 by omega))
  obtain ⟨a2, g3, g4⟩ := q_drop g2 hc b0 hv
  refine ⟨a2, ?_, g4⟩
  have e2 : (nI k + 2 : Int32) = nI (k + 2) := by rw [fa_lit 2, nI_add]
  have e3 : (nI k + 3 : Int32) = nI (k + 3) := by rw [fa_lit 3, nI_add]
  unfold kX3_dissolveKink
  rw [e2, e3, q_endOf (by omega), bnd1_e, q_endOf (by omega), bnd1_e, g1, bnd2_e, g3, bnd2_e]
  rfl
def bgF (f : Nat → Nat) (v w k : Nat) : Nat → Nat := jnF f (en v (k / 4 + 2)) (en w (k % 4 + 3))
def bgG (f : Nat → Nat) (v w k : Nat) : Nat → Nat := jnF (bgF f v w k) (en v (k / 4 + 3)) (en w (k % 4 + 2))
def bgO (f : Nat → Nat) (v w k : Nat) : Nat := jnO f (en v (k / 4 + 2)) (en w (k % 4 + 3))
def bgP (f : Nat → Nat) (v w k : Nat) : Nat := jnO (bgF f v w k) (en v (k / 4 + 3)) (en w (k % 4 + 2))
def bgD (d : St) (v w k : Nat) : St := (d.1 - 1 - 1, d.2.1 + bgO d.2.2 v w k + bgP d.2.2 v w k, drp (drp (bgG d.2.2 v w k) (max v w)) (min v w))
theorem bg_bd {d : St} (hV : VS d) {v w k : Nat} (hv : v < d.1) (hw : w < d.1) : ((∀ e, 4 * d.1 ≤ e → bgF d.2.2 v w k e = 0) ∧ ∀ e, e < 4 * d.1 → 1 ≤ bgF d.2.2 v w k e ∧ bgF d.2.2 v w k e ≤ 16) ∧ (∀ e, 4 * d.1 ≤ e → bgG d.2.2 v w k e = 0) ∧ ∀ e, e < 4 * d.1 → 1 ≤ bgG d.2.2 v w k e ∧ bgG d.2.2 v w k e ≤ 16 := by
  obtain ⟨hc, _, h0, h1, hO⟩ := hV
  have b := jn_bd (f := d.2.2) (c := d.1) (p := en v (k / 4 + 2)) (q := en w (k % 4 + 3)) (by unfold en; omega) (by unfold en; omega) h0 h1
  exact ⟨b, jn_bd (f := bgF d.2.2 v w k) (c := d.1) (p := en v (k / 4 + 3)) (q := en w (k % 4 + 2)) (by unfold en; omega) (by unfold en; omega) b.1 b.2⟩
theorem en4 (v x : Nat) {i : Nat} (h : i < 4) : (x ≠ en v i ∧ x ≠ en v (i + 1) ∧ x ≠ en v (i + 2) ∧ x ≠ en v (i + 3)) ↔ x / 4 ≠ v := by
  unfold en
  rcases (show i = 0 ∨ i = 1 ∨ i = 2 ∨ i = 3 by omega) with rfl | rfl | rfl | rfl <;> omega
theorem bg_VS {d : St} (hV : VS d) {v w k : Nat} (hv : v < d.1) (hw : w < d.1) (hvw : v ≠ w) (hk : k < 16) (hE : bE d.2.2 v w k) (ho : (bgD d v w k).2.1 ≤ 4) : VS (bgD d v w k) := by
  have m0 : Mt (fun e => e < 4 * d.1) d.2.2 := Vd.mt hV
  obtain ⟨_, b0, b1⟩ := bg_bd hV (k := k) hv hw
  obtain ⟨hc, _, h0, h1, hO⟩ := hV
  obtain ⟨i, hi⟩ : ∃ i, i = k / 4 := ⟨_, rfl⟩
  obtain ⟨j, hj⟩ : ∃ j, j = k % 4 := ⟨_, rfl⟩
  have i4 : i < 4 := by omega
  have j4 : j < 4 := by omega
  obtain ⟨_, hE1, hE2⟩ := hE
  have m1 := m0.del (p := en v (k / 4)) (q := en w (k % 4 + 1)) (by unfold en; omega) (by unfold en; omega) (by unfold en; omega) hE1
  have m2 := m1.del (p := en v (k / 4 + 1)) (q := en w (k % 4)) (by rw [← hi, ← hj]; unfold en; omega) (by rw [← hi, ← hj]; unfold en; omega) (by unfold en; omega) hE2
  have m3 := jn_mt m2 (p := en v (k / 4 + 2)) (q := en w (k % 4 + 3)) (by rw [← hi, ← hj]; unfold en; omega) (by rw [← hi, ← hj]; unfold en; omega) (by unfold en; omega)
  have m4 := jn_mt m3 (p := en v (k / 4 + 3)) (q := en w (k % 4 + 2)) (by rw [← hi, ← hj]; unfold en; omega) (by rw [← hi, ← hj]; unfold en; omega) (by unfold en; omega)
  have m5 : Mt (fun e => e < 4 * d.1 ∧ (fun x => x ≠ v ∧ x ≠ w) (e / 4)) (bgG d.2.2 v w k) := m4.congr (fun x => by
    show (((((x < 4 * d.1 ∧ x ≠ en v (k / 4) ∧ x ≠ en w (k % 4 + 1)) ∧ x ≠ en v (k / 4 + 1) ∧ x ≠ en w (k % 4)) ∧ x ≠ en v (k / 4 + 2) ∧ x ≠ en w (k % 4 + 3)) ∧ x ≠ en v (k / 4 + 3) ∧ x ≠ en w (k % 4 + 2))) ↔ (x < 4 * d.1 ∧ x / 4 ≠ v ∧ x / 4 ≠ w)
    have A := en4 v x i4
    have B := en4 w x j4
    rw [hi] at A
    rw [hj] at B
    exact ⟨fun ⟨⟨⟨⟨a, p0, q1⟩, p1, q0⟩, p2, q3⟩, p3, q2⟩ => ⟨a, A.mp ⟨p0, p1, p2, p3⟩, B.mp ⟨q0, q1, q2, q3⟩⟩, fun ⟨a, b, c⟩ => by
      obtain ⟨p0, p1, p2, p3⟩ := A.mpr b
      obtain ⟨q0, q1, q2, q3⟩ := B.mpr c
      exact ⟨⟨⟨⟨a, p0, q1⟩, p1, q0⟩, p2, q3⟩, p3, q2⟩⟩)
  have hmx : max v w < d.1 := by omega
  have m6 := Mt.drop (P := fun x => x ≠ v ∧ x ≠ w) hmx (fun z => by omega) m5
  obtain ⟨b2, b3⟩ := drp_bd hmx b0 b1
  have hmn : min v w < d.1 - 1 := by omega
  have m7 : Mt (fun e => e < 4 * (d.1 - 1) ∧ (fun x => x ≠ min v w) (e / 4)) (drp (bgG d.2.2 v w k) (max v w)) := m6.congr (fun x => by
    show (x < 4 * (d.1 - 1) ∧ ((if x / 4 < max v w then x / 4 else x / 4 + 1) ≠ v ∧ (if x / 4 < max v w then x / 4 else x / 4 + 1) ≠ w)) ↔ (x < 4 * (d.1 - 1) ∧ x / 4 ≠ min v w)
    by_cases z : x / 4 < max v w
    · rw [if_pos z]; omega
    · rw [if_neg z]; omega)
  have m8 := Mt.drop (P := fun x => x ≠ min v w) hmn (fun z => z rfl) m7
  obtain ⟨b4, b5⟩ := drp_bd hmn b2 b3
  have np : ∀ e : Nat, (if e / 4 < min v w then e / 4 else e / 4 + 1) ≠ min v w := fun e => by
    by_cases z : e / 4 < min v w
    · rw [if_pos z]; omega
    · rw [if_neg z]; omega
  refine ⟨by show d.1 - 1 - 1 ≤ 8; omega, ho, b4, b5, fun e he => ?_⟩
  obtain ⟨t, s1, s2, s3, s4⟩ := m8 e ⟨he, np e⟩
  exact ⟨t, s1.1, s2, s3, fun x hx g => s4 x ⟨hx, np x⟩ g⟩
theorem q_dissolveBigon {d : St} {a : Nat → Int32} (hV : VS d) (hA : Rp a d.2.2) {v w k : Nat} (hv : v < d.1) (hw : w < d.1) (hvw : v ≠ w) (hk : k < 16) : ∃ a', kX3_dissolveBigon (nI v) (nI w) (nI k) (nI d.1) (nI d.2.1) a = some (nI (bgD d v w k).1, nI (bgD d v w k).2.1, a') ∧ Rp a' (bgD d v w k).2.2 := by
  obtain ⟨⟨x0, x1⟩, b0, b1⟩ := bg_bd hV (k := k) hv hw
  obtain ⟨hc, _, h0, h1, hO⟩ := hV
  have hmx : max v w < d.1 := by omega
  have hmn : min v w < d.1 - 1 := by omega
  obtain ⟨b2, b3⟩ := drp_bd hmx b0 b1
  have v8 : v < 8 := by omega
  have w8 : w < 8 := by omega
  obtain ⟨a1, g1, g2⟩ := q_joinJ hA (o := d.2.1) hc h0 (en_lt (k := k / 4 + 2) v8) (en_lt (k := k % 4 + 3) w8)
  obtain ⟨a2, g3, g4⟩ := q_joinJ (f := bgF d.2.2 v w k) g2 (o := d.2.1 + bgO d.2.2 v w k) hc x0 (en_lt (k := k / 4 + 3) v8) (en_lt (k := k % 4 + 2) w8)
  obtain ⟨a3, g5, g6⟩ := q_drop (f := bgG d.2.2 v w k) g4 hc b0 hmx
  obtain ⟨a4, g7, g8⟩ := q_drop g6 (show d.1 - 1 ≤ 8 by omega) b2 hmn
  refine ⟨a4, ?_, g8⟩
  have e1 : (nI (k / 4) + 2 : Int32) = nI (k / 4 + 2) := by rw [fa_lit 2, nI_add]
  have e2 : (nI (k / 4) + 3 : Int32) = nI (k / 4 + 3) := by rw [fa_lit 3, nI_add]
  have e3 : (nI (k % 4) + 2 : Int32) = nI (k % 4 + 2) := by rw [fa_lit 2, nI_add]
  have e4 : (nI (k % 4) + 3 : Int32) = nI (k % 4 + 3) := by rw [fa_lit 3, nI_add]
  have g3' : kX2_join (nI (en v (k / 4 + 3))) (nI (en w (k % 4 + 2))) (nI d.1) (nI (d.2.1 + jnO d.2.2 (en v (k / 4 + 2)) (en w (k % 4 + 3)))) a1 = _ := g3
  unfold kX3_dissolveBigon
  rw [shr2 (by omega), and3 k (by omega), e1, e2, e3, e4, q_endOf (by omega), bnd1_e, q_endOf (by omega), bnd1_e, g1, bnd2_e, q_endOf (by omega), bnd1_e, q_endOf (by omega), bnd1_e, g3', bnd2_e, imax_nI (by omega) (by omega), imin_nI (by omega) (by omega), g5, bnd2_e, g7, bnd2_e]
  rfl
