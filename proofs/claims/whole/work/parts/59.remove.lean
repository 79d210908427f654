/-! ===== removals ===== -/
theorem SR.finish {ss np dc dr : Int32} {da cells filled : Nat → Int32} {pr : Int32} {coef : Nat → Int32} {saved : Int32} {now hist kept isk : Nat → Int32} (h : SR ss np dc dr da cells filled pr coef saved now hist kept isk)
    {D : St} {pa draft : Nat → Int32} (hV : D.2.1 ≤ 4 → VS D) (hb : D.2.1 < 1000) (hp : Rp pa D.2.2) (hdr : BlR draft 0 D) : ∃ r ss' np' dc' dr' da' cells' filled' pr' saved' now' hist', kX9_finishRemoval ss np dc dr da (nI D.1) (nI D.2.1) pa cells filled pr = some (r, ss', np', dc', dr', da', cells', filled', pr') ∧ kX10_finishDraft saved now hist draft = some (r, saved', now', hist') ∧ SR ss' np' dc' dr' da' cells' filled' pr' coef saved' now' hist' kept isk := by
  have d1 : draft (1 : Int32).toNatClampNeg = nI D.2.1 := by rw [cl1]; exact hdr.2.1
  have c1 : ∀ (α : Type) (k : Option α), ck 1 34 k = k := fun α k => by rw [fa_lit 1]; exact ck_nI (by omega) (by omega)
  unfold kX9_finishRemoval kX10_finishDraft
  rw [c1, d1]
  by_cases q : D.2.1 ≤ 4
  · have l4 : nI D.2.1 ≤ (4 : Int32) := by rw [fa_lit 4]; exact nI_le q (by omega)
    rw [if_pos l4, if_pos l4]
    obtain ⟨ss', np', da', cells', filled', saved', hist', e1, e2, e3, e4⟩ := h.become (hV q) hp
    obtain ⟨now', g1, g2⟩ := m_become (n := 34) (now := now) (k := 0) (by omega) (by omega) hdr
    have g1' : kX10_become 34 0 now draft = some now' := g1
    have M := BlR.mr.mp g2
    exact ⟨_, _, _, _, _, _, _, _, _, _, now', _, by rw [e1, bnd8_e], by rw [e2, bnd2_e, g1', bnd1_e, m_crossings M, bnd1_e], e4 now' g2⟩
  · have l4 : ¬ nI D.2.1 ≤ (4 : Int32) := by rw [fa_lit 4]; exact nI_ge (by omega) (by omega)
    rw [if_neg l4, if_neg l4]
    exact ⟨_, _, _, _, _, _, _, _, _, _, _, _, rfl, rfl, h⟩
theorem m_beginDraft {now draft : Nat → Int32} {d : St} (h : BlR now 0 d) : ∃ dr, kX10_beginDraft now draft = some dr ∧ BlR dr 0 d := by
  unfold kX10_beginDraft
  refine it2_inv (F := kX10_beginDraft_L1 now) (x1 := 0) (x2 := draft) (n := 400) (fun i x y => x = nI i ∧ ∀ j, j < i → y j = now j) (fun r => ∃ dr, r = some dr ∧ BlR dr 0 d) 34 (fun K i x y hi hI => ?_) (fun K x y hI => ?_) ⟨rfl, fun j hj => absurd hj (Nat.not_lt_zero _)⟩ (by omega)
  · obtain ⟨rfl, hy⟩ := hI
    unfold kX10_beginDraft_L1
    rw [if_neg (by rw [fa_lit 34]; exact nI_ge (by omega) (by omega)), ck_nI (by omega) (by omega), ck_nI (by omega) (by omega), nI_clamp (by omega), nI_1]
    refine ⟨_, _, rfl, rfl, fun j hj => ?_⟩
    by_cases w : j = i
    · subst w; rw [pk_us]
    · rw [pk_un w]; exact hy j (by omega)
  · obtain ⟨rfl, hy⟩ := hI
    refine ⟨y, ?_, h.congr (fun j hj => by rw [Nat.zero_add]; exact hy j hj)⟩
    unfold kX10_beginDraft_L1
    rw [if_pos (by decide)]
def kkD (d : St) (v k : Nat) : St := (d.1 - 1, d.2.1 + jnO d.2.2 (en v (k + 2)) (en v (k + 3)), drp (jnF d.2.2 (en v (k + 2)) (en v (k + 3))) v)
theorem kk_VS {d : St} (hV : VS d) {v k : Nat} (hv : v < d.1) (hk : k < 4) (hE : kE d.2.2 v k) (ho : (kkD d v k).2.1 ≤ 4) : VS (kkD d v k) := by
  have m0 : Mt (fun e => e < 4 * d.1) d.2.2 := Vd.mt hV
  obtain ⟨hc, _, h0, h1, hO⟩ := hV
  have m1 := m0.del (p := en v k) (q := en v (k + 1)) (by unfold en; omega) (by unfold en; omega) (by unfold en; omega) hE
  have m2 := jn_mt m1 (p := en v (k + 2)) (q := en v (k + 3)) (by unfold en; omega) (by unfold en; omega) (by unfold en; omega)
  have m3 : Mt (fun e => e < 4 * d.1 ∧ (fun x => x ≠ v) (e / 4)) (jnF d.2.2 (en v (k + 2)) (en v (k + 3))) := m2.congr (fun x => by
    show ((x < 4 * d.1 ∧ x ≠ en v k ∧ x ≠ en v (k + 1)) ∧ x ≠ en v (k + 2) ∧ x ≠ en v (k + 3)) ↔ (x < 4 * d.1 ∧ x / 4 ≠ v)
    unfold en
    omega)
  have m4 := Mt.drop (P := fun x => x ≠ v) hv (fun z => z rfl) m3
  obtain ⟨b0, b1⟩ := jn_bd (f := d.2.2) (c := d.1) (p := en v (k + 2)) (q := en v (k + 3)) (by unfold en; omega) (by unfold en; omega) h0 h1
  obtain ⟨b2, b3⟩ := drp_bd hv b0 b1
  have np : ∀ e : Nat, (if e / 4 < v then e / 4 else e / 4 + 1) ≠ v := fun e => by
    by_cases w : e / 4 < v
    · rw [if_pos w]; omega
    · rw [if_neg w]; omega
  refine ⟨by show d.1 - 1 ≤ 8; omega, ho, b2, b3, fun e he => ?_⟩
  obtain ⟨t, s1, s2, s3, s4⟩ := m4 e ⟨he, np e⟩
  exact ⟨t, s1.1, s2, s3, fun x hx g => s4 x ⟨hx, np x⟩ g⟩
theorem jnO_le {f : Nat → Nat} {p q : Nat} : jnO f p q ≤ 1 := by
  unfold jnO
  by_cases w : f p = f q
  · rw [if_pos w]; omega
  · rw [if_neg w]; omega
theorem q_dissolveKink {d : St} {a : Nat → Int32} (hV : VS d) (hA : Rp a d.2.2) {v k : Nat} (hv : v < d.1) (hk : k < 4) : ∃ a', kX3_dissolveKink (nI v) (nI k) (nI d.1) (nI d.2.1) a = some (nI (kkD d v k).1, nI (kkD d v k).2.1, a') ∧ Rp a' (kkD d v k).2.2 := by
  obtain ⟨hc, _, h0, h1, hO⟩ := hV
  obtain ⟨b0, b1⟩ := jn_bd (f := d.2.2) (c := d.1) (p := en v (k + 2)) (q := en v (k + 3)) (by unfold en; omega) (by unfold en; omega) h0 h1
  obtain ⟨a1, g1, g2⟩ := q_joinJ hA (o := d.2.1) hc h0 (en_lt (k := k + 2) (show v < 8 by omega)) (en_lt (k := k + 3) (show v < 8 by omega))
  obtain ⟨a2, g3, g4⟩ := q_drop g2 hc b0 hv
  refine ⟨a2, ?_, g4⟩
  have e2 : (nI k + 2 : Int32) = nI (k + 2) := by rw [fa_lit 2, nI_add]
  have e3 : (nI k + 3 : Int32) = nI (k + 3) := by rw [fa_lit 3, nI_add]
  unfold kX3_dissolveKink
  rw [e2, e3, q_endOf (by omega), bnd1_e, q_endOf (by omega), bnd1_e, g1, bnd2_e, g3, bnd2_e]
  rfl
theorem SR.removeKink {ss np dc dr : Int32} {da cells filled : Nat → Int32} {pr : Int32} {coef : Nat → Int32} {saved : Int32} {now hist kept isk : Nat → Int32} (h : SR ss np dc dr da cells filled pr coef saved now hist kept isk) (v pc po : Int32) (pa draft : Nat → Int32) : ∃ r ss' np' dc' dr' da' pc' po' pa' cells' filled' pr' saved' now' hist' draft', kX9_removeKink v ss np dc dr da pc po pa cells filled pr = some (r, ss', np', dc', dr', da', pc', po', pa', cells', filled', pr') ∧ kX10_removeKink v saved now hist draft = some (r, saved', now', hist', draft') ∧ SR ss' np' dc' dr' da' cells' filled' pr' coef saved' now' hist' kept isk := by
  have h' := h
  obtain ⟨d, s, n, H, hV, rfl, rfl, hA, hM, a6, rfl, rfl, rfl, a10, a11⟩ := h'
  have hc := hV.1
  have ho := hV.2.1
  have M := BlR.mr.mp hM
  have n1 : ¬ ((1 : Int32) = 0) := by decide
  unfold kX9_removeKink kX10_removeKink
  rcases ix v (n := d.1) (by omega) with hv | hv | ⟨j, hj, rfl⟩
  · rw [q_hasNeg hv, bnd1_e, if_pos rfl, m_isNeg M hv, bnd1_e, if_pos rfl]
    exact ⟨_, _, _, _, _, _, _, _, _, _, _, _, _, _, _, _, rfl, rfl, h⟩
  · rw [q_hasBig hv, bnd1_e, if_pos rfl, m_isBig M hc hv, bnd1_e, if_pos rfl]
    exact ⟨_, _, _, _, _, _, _, _, _, _, _, _, _, _, _, _, rfl, rfl, h⟩
  · rw [q_hasIn hj (by omega), m_isIn M hc hj, bnd1_e, bnd1_e, if_neg n1, if_neg n1]
    obtain ⟨x, e1, x1⟩ := q_kinkEnd hA (show j < 8 by omega)
    obtain ⟨y, e2, y1⟩ := m_kinkEnd M hV.le16 (show j < 8 by omega)
    rw [e1, e2, bnd1_e, bnd1_e]
    rcases x1.uniq y1 with ⟨k, k1, k2, rfl, rfl⟩ | ⟨k1, rfl, rfl⟩
    · have p0 : ∀ m : Nat, m < 1000 → (0 : Int32) ≤ nI m := fun m hm => by rw [fa_lit 0]; exact nI_le (Nat.zero_le _) (by omega)
      rw [if_pos (p0 k (by omega)), if_pos (p0 _ (by omega)), q_copyFrom, bnd3_e]
      obtain ⟨pa2, g1, g2⟩ := q_dissolveKink hV hA.copy hj k1 (a := fa_fill da pa 32)
      rw [g1, bnd3_e]
      obtain ⟨dra, g3, g4⟩ := m_beginDraft (draft := draft) hM
      have l2 := en_lt (k := k + 2) (show j < 8 by omega)
      have l3 := en_lt (k := k + 3) (show j < 8 by omega)
      have fp := hV.2.2.2.1 (en j (k + 2)) (by unfold en; omega)
      have fq := hV.2.2.2.1 (en j (k + 3)) (by unfold en; omega)
      obtain ⟨row, g5, g6⟩ := m_join g4 hV.le16 l2 l3 fp.1 fq.1
      have t2 : kX10_turn (nI (4 * j + k)) 2 = some (nI (en j (k + 2))) := m_turnEn (j := 2) (by omega) k1 (by omega)
      have t3 : kX10_turn (nI (4 * j + k)) 3 = some (nI (en j (k + 3))) := m_turnEn (j := 3) (by omega) k1 (by omega)
      have c1 : ∀ (α : Type) (k : Option α), ck 1 34 k = k := fun α k => by rw [fa_lit 1]; exact ck_nI (by omega) (by omega)
      have c2 : (2 + nI (en j (k + 2)) : Int32) = nI (2 + en j (k + 2)) := by rw [fa_lit 2, nI_add]
      have c3 : (2 + nI (en j (k + 3)) : Int32) = nI (2 + en j (k + 3)) := by rw [fa_lit 2, nI_add]
      have r2 : dra (2 + en j (k + 2)) = nI (d.2.2 (en j (k + 2))) := by have := g4.2.2 _ l2; rw [Nat.zero_add] at this; exact this
      have r3 : dra (2 + en j (k + 3)) = nI (d.2.2 (en j (k + 3))) := by have := g4.2.2 _ l3; rw [Nat.zero_add] at this; exact this
      have r1 : dra 1 = nI d.2.1 := g4.2.1
      simp only [g3, bnd1_e, c1, t2, t3, c2, c3]
      rw [ck_nI (by omega) (by omega), ck_nI (by omega) (by omega), nI_clamp (by omega), nI_clamp (by omega), r2, r3, g5, bnd2_e, cl1, r1, nI_add]
      have g7 : BlR (upd row 1 (nI (d.2.1 + jnO d.2.2 (en j (k + 2)) (en j (k + 3))))) 0 (d.1, d.2.1 + jnO d.2.2 (en j (k + 2)) (en j (k + 3)), jnF d.2.2 (en j (k + 2)) (en j (k + 3))) := by
        obtain ⟨w0, w1, w2⟩ := g6
        exact ⟨by rw [pk_un (by omega)]; exact w0, by rw [Nat.zero_add, pk_us], fun e he => by rw [pk_un (by omega)]; exact w2 e he⟩
      obtain ⟨b0, b1⟩ := jn_bd (f := d.2.2) (c := d.1) (p := en j (k + 2)) (q := en j (k + 3)) (by unfold en; omega) (by unfold en; omega) hV.2.2.1 hV.2.2.2.1
      obtain ⟨row2, g8, g9⟩ := m_drop g7 (fun e he => b0 e (by omega)) (show j < 8 by omega) (by show 1 ≤ d.1; omega)
      rw [g8, bnd1_e]
      have jl := jnO_le (f := d.2.2) (p := en j (k + 2)) (q := en j (k + 3))
      obtain ⟨r, ss', np', dc', dr', da', cells', filled', pr', saved', now', hist', f1, f2, f3⟩ := h.finish (D := kkD d j k) (fun w => kk_VS hV hj k1 k2 w) (by show d.2.1 + _ < 1000; omega) g2 g9
      rw [f1, bnd9_e, f2, bnd4_e]
      exact ⟨_, _, _, _, _, _, _, _, _, _, _, _, _, _, _, _, rfl, rfl, f3⟩
    · rw [if_neg (by decide), if_neg (by decide)]
      exact ⟨_, _, _, _, _, _, _, _, _, _, _, _, _, _, _, _, rfl, rfl, h⟩
def bgF (f : Nat → Nat) (v w k : Nat) : Nat → Nat := jnF f (en v (k / 4 + 2)) (en w (k % 4 + 3))
def bgG (f : Nat → Nat) (v w k : Nat) : Nat → Nat := jnF (bgF f v w k) (en v (k / 4 + 3)) (en w (k % 4 + 2))
def bgO (f : Nat → Nat) (v w k : Nat) : Nat := jnO f (en v (k / 4 + 2)) (en w (k % 4 + 3))
def bgP (f : Nat → Nat) (v w k : Nat) : Nat := jnO (bgF f v w k) (en v (k / 4 + 3)) (en w (k % 4 + 2))
def bgD (d : St) (v w k : Nat) : St := (d.1 - 1 - 1, d.2.1 + bgO d.2.2 v w k + bgP d.2.2 v w k, drp (drp (bgG d.2.2 v w k) (max v w)) (min v w))
theorem bg_bd {d : St} (hV : VS d) {v w k : Nat} (hv : v < d.1) (hw : w < d.1) : ((∀ e, 4 * d.1 ≤ e → bgF d.2.2 v w k e = 0) ∧ ∀ e, e < 4 * d.1 → 1 ≤ bgF d.2.2 v w k e ∧ bgF d.2.2 v w k e ≤ 16) ∧ (∀ e, 4 * d.1 ≤ e → bgG d.2.2 v w k e = 0) ∧ ∀ e, e < 4 * d.1 → 1 ≤ bgG d.2.2 v w k e ∧ bgG d.2.2 v w k e ≤ 16 := by
  obtain ⟨hc, _, h0, h1, hO⟩ := hV
  have b := jn_bd (f := d.2.2) (c := d.1) (p := en v (k / 4 + 2)) (q := en w (k % 4 + 3)) (by unfold en; omega) (by unfold en; omega) h0 h1
  exact ⟨b, jn_bd (f := bgF d.2.2 v w k) (c := d.1) (p := en v (k / 4 + 3)) (q := en w (k % 4 + 2)) (by unfold en; omega) (by unfold en; omega) b.1 b.2⟩
theorem en4 (v x : Nat) {i : Nat} (h : i < 4) : (x ≠ en v i ∧ x ≠ en v (i + 1) ∧ x ≠ en v (i + 2) ∧ x ≠ en v (i + 3)) ↔ x / 4 ≠ v := by
  unfold en
  rcases (show i = 0 ∨ i = 1 ∨ i = 2 ∨ i = 3 by omega) with rfl | rfl | rfl | rfl <;> omega
theorem bg_VS {d : St} (hV : VS d) {v w k : Nat} (hv : v < d.1) (hw : w < d.1) (hvw : v ≠ w) (hk : k < 16) (hE : bE d.2.2 v w k) (ho : (bgD d v w k).2.1 ≤ 4) : VS (bgD d v w k) := by
  have m0 : Mt (fun e => e < 4 * d.1) d.2.2 := Vd.mt hV
  obtain ⟨_, b0, b1⟩ := bg_bd hV (k := k) hv hw
  obtain ⟨hc, _, h0, h1, hO⟩ := hV
  obtain ⟨i, hi⟩ : ∃ i, i = k / 4 := ⟨_, rfl⟩
  obtain ⟨j, hj⟩ : ∃ j, j = k % 4 := ⟨_, rfl⟩
  have i4 : i < 4 := by omega
  have j4 : j < 4 := by omega
  obtain ⟨_, hE1, hE2⟩ := hE
  have m1 := m0.del (p := en v (k / 4)) (q := en w (k % 4 + 1)) (by unfold en; omega) (by unfold en; omega) (by unfold en; omega) hE1
  have m2 := m1.del (p := en v (k / 4 + 1)) (q := en w (k % 4)) (by rw [← hi, ← hj]; unfold en; omega) (by rw [← hi, ← hj]; unfold en; omega) (by unfold en; omega) hE2
  have m3 := jn_mt m2 (p := en v (k / 4 + 2)) (q := en w (k % 4 + 3)) (by rw [← hi, ← hj]; unfold en; omega) (by rw [← hi, ← hj]; unfold en; omega) (by unfold en; omega)
  have m4 := jn_mt m3 (p := en v (k / 4 + 3)) (q := en w (k % 4 + 2)) (by rw [← hi, ← hj]; unfold en; omega) (by rw [← hi, ← hj]; unfold en; omega) (by unfold en; omega)
  have m5 : Mt (fun e => e < 4 * d.1 ∧ (fun x => x ≠ v ∧ x ≠ w) (e / 4)) (bgG d.2.2 v w k) := m4.congr (fun x => by
    show (((((x < 4 * d.1 ∧ x ≠ en v (k / 4) ∧ x ≠ en w (k % 4 + 1)) ∧ x ≠ en v (k / 4 + 1) ∧ x ≠ en w (k % 4)) ∧ x ≠ en v (k / 4 + 2) ∧ x ≠ en w (k % 4 + 3)) ∧ x ≠ en v (k / 4 + 3) ∧ x ≠ en w (k % 4 + 2))) ↔ (x < 4 * d.1 ∧ x / 4 ≠ v ∧ x / 4 ≠ w)
    have A := en4 v x i4
    have B := en4 w x j4
    rw [hi] at A
    rw [hj] at B
    exact ⟨fun ⟨⟨⟨⟨a, p0, q1⟩, p1, q0⟩, p2, q3⟩, p3, q2⟩ => ⟨a, A.mp ⟨p0, p1, p2, p3⟩, B.mp ⟨q0, q1, q2, q3⟩⟩, fun ⟨a, b, c⟩ => by
      obtain ⟨p0, p1, p2, p3⟩ := A.mpr b
      obtain ⟨q0, q1, q2, q3⟩ := B.mpr c
      exact ⟨⟨⟨⟨a, p0, q1⟩, p1, q0⟩, p2, q3⟩, p3, q2⟩⟩)
  have hmx : max v w < d.1 := by omega
  have m6 := Mt.drop (P := fun x => x ≠ v ∧ x ≠ w) hmx (fun z => by omega) m5
  obtain ⟨b2, b3⟩ := drp_bd hmx b0 b1
  have hmn : min v w < d.1 - 1 := by omega
  have m7 : Mt (fun e => e < 4 * (d.1 - 1) ∧ (fun x => x ≠ min v w) (e / 4)) (drp (bgG d.2.2 v w k) (max v w)) := m6.congr (fun x => by
    show (x < 4 * (d.1 - 1) ∧ ((if x / 4 < max v w then x / 4 else x / 4 + 1) ≠ v ∧ (if x / 4 < max v w then x / 4 else x / 4 + 1) ≠ w)) ↔ (x < 4 * (d.1 - 1) ∧ x / 4 ≠ min v w)
    by_cases z : x / 4 < max v w
    · rw [if_pos z]; omega
    · rw [if_neg z]; omega)
  have m8 := Mt.drop (P := fun x => x ≠ min v w) hmn (fun z => z rfl) m7
  obtain ⟨b4, b5⟩ := drp_bd hmn b2 b3
  have np : ∀ e : Nat, (if e / 4 < min v w then e / 4 else e / 4 + 1) ≠ min v w := fun e => by
    by_cases z : e / 4 < min v w
    · rw [if_pos z]; omega
    · rw [if_neg z]; omega
  refine ⟨by show d.1 - 1 - 1 ≤ 8; omega, ho, b4, b5, fun e he => ?_⟩
  obtain ⟨t, s1, s2, s3, s4⟩ := m8 e ⟨he, np e⟩
  exact ⟨t, s1.1, s2, s3, fun x hx g => s4 x ⟨hx, np x⟩ g⟩
theorem q_dissolveBigon {d : St} {a : Nat → Int32} (hV : VS d) (hA : Rp a d.2.2) {v w k : Nat} (hv : v < d.1) (hw : w < d.1) (hvw : v ≠ w) (hk : k < 16) : ∃ a', kX3_dissolveBigon (nI v) (nI w) (nI k) (nI d.1) (nI d.2.1) a = some (nI (bgD d v w k).1, nI (bgD d v w k).2.1, a') ∧ Rp a' (bgD d v w k).2.2 := by
  obtain ⟨⟨x0, x1⟩, b0, b1⟩ := bg_bd hV (k := k) hv hw
  obtain ⟨hc, _, h0, h1, hO⟩ := hV
  have hmx : max v w < d.1 := by omega
  have hmn : min v w < d.1 - 1 := by omega
  obtain ⟨b2, b3⟩ := drp_bd hmx b0 b1
  have v8 : v < 8 := by omega
  have w8 : w < 8 := by omega
  obtain ⟨a1, g1, g2⟩ := q_joinJ hA (o := d.2.1) hc h0 (en_lt (k := k / 4 + 2) v8) (en_lt (k := k % 4 + 3) w8)
  obtain ⟨a2, g3, g4⟩ := q_joinJ (f := bgF d.2.2 v w k) g2 (o := d.2.1 + bgO d.2.2 v w k) hc x0 (en_lt (k := k / 4 + 3) v8) (en_lt (k := k % 4 + 2) w8)
  obtain ⟨a3, g5, g6⟩ := q_drop (f := bgG d.2.2 v w k) g4 hc b0 hmx
  obtain ⟨a4, g7, g8⟩ := q_drop g6 (show d.1 - 1 ≤ 8 by omega) b2 hmn
  refine ⟨a4, ?_, g8⟩
  have e1 : (nI (k / 4) + 2 : Int32) = nI (k / 4 + 2) := by rw [fa_lit 2, nI_add]
  have e2 : (nI (k / 4) + 3 : Int32) = nI (k / 4 + 3) := by rw [fa_lit 3, nI_add]
  have e3 : (nI (k % 4) + 2 : Int32) = nI (k % 4 + 2) := by rw [fa_lit 2, nI_add]
  have e4 : (nI (k % 4) + 3 : Int32) = nI (k % 4 + 3) := by rw [fa_lit 3, nI_add]
  have g3' : kX2_join (nI (en v (k / 4 + 3))) (nI (en w (k % 4 + 2))) (nI d.1) (nI (d.2.1 + jnO d.2.2 (en v (k / 4 + 2)) (en w (k % 4 + 3)))) a1 = _ := g3
  unfold kX3_dissolveBigon
  rw [shr2 (by omega), and3 k (by omega), e1, e2, e3, e4, q_endOf (by omega), bnd1_e, q_endOf (by omega), bnd1_e, g1, bnd2_e, q_endOf (by omega), bnd1_e, q_endOf (by omega), bnd1_e, g3', bnd2_e, imax_nI (by omega) (by omega), imin_nI (by omega) (by omega), g5, bnd2_e, g7, bnd2_e]
  rfl
theorem SR.removeBigon {ss np dc dr : Int32} {da cells filled : Nat → Int32} {pr : Int32} {coef : Nat → Int32} {saved : Int32} {now hist kept isk : Nat → Int32} (h : SR ss np dc dr da cells filled pr coef saved now hist kept isk) (v w pc po : Int32) (pa draft : Nat → Int32) : ∃ r ss' np' dc' dr' da' pc' po' pa' cells' filled' pr' saved' now' hist' draft', kX9_removeBigon v w ss np dc dr da pc po pa cells filled pr = some (r, ss', np', dc', dr', da', pc', po', pa', cells', filled', pr') ∧ kX10_removeBigon v w saved now hist draft = some (r, saved', now', hist', draft') ∧ SR ss' np' dc' dr' da' cells' filled' pr' coef saved' now' hist' kept isk := by
  have h' := h
  obtain ⟨d, s, n, H, hV, rfl, rfl, hA, hM, a6, rfl, rfl, rfl, a10, a11⟩ := h'
  have hc := hV.1
  have ho := hV.2.1
  have M := BlR.mr.mp hM
  have n1 : ¬ ((1 : Int32) = 0) := by decide
  unfold kX9_removeBigon kX10_removeBigon
  rcases ix v (n := d.1) (by omega) with hv | hv | ⟨i, hi, rfl⟩
  · rw [q_hasNeg hv, bnd1_e, if_pos rfl, m_isNeg M hv, bnd1_e, if_pos rfl]
    exact ⟨_, _, _, _, _, _, _, _, _, _, _, _, _, _, _, _, rfl, rfl, h⟩
  · rw [q_hasBig hv, bnd1_e, if_pos rfl, m_isBig M hc hv, bnd1_e, if_pos rfl]
    exact ⟨_, _, _, _, _, _, _, _, _, _, _, _, _, _, _, _, rfl, rfl, h⟩
  rw [q_hasIn hi (by omega), m_isIn M hc hi, bnd1_e, bnd1_e, if_neg n1, if_neg n1]
  rcases ix w (n := d.1) (by omega) with hv | hv | ⟨j, hj, rfl⟩
  · rw [q_hasNeg hv, bnd1_e, if_pos rfl, m_isNeg M hv, bnd1_e, if_pos rfl]
    exact ⟨_, _, _, _, _, _, _, _, _, _, _, _, _, _, _, _, rfl, rfl, h⟩
  · rw [q_hasBig hv, bnd1_e, if_pos rfl, m_isBig M hc hv, bnd1_e, if_pos rfl]
    exact ⟨_, _, _, _, _, _, _, _, _, _, _, _, _, _, _, _, rfl, rfl, h⟩
  rw [q_hasIn hj (by omega), m_isIn M hc hj, bnd1_e, bnd1_e, if_neg n1, if_neg n1]
  by_cases hij : i = j
  · rw [if_pos (by rw [hij]), if_pos (by rw [hij])]
    exact ⟨_, _, _, _, _, _, _, _, _, _, _, _, _, _, _, _, rfl, rfl, h⟩
  have nij : ¬ nI i = nI j := fun z => hij ((nI_eq (by omega) (by omega)).mp z)
  rw [if_neg nij, if_neg nij]
  have i8 : i < 8 := by omega
  have j8 : j < 8 := by omega
  obtain ⟨x, e1, x1⟩ := q_bigon hA i8 j8
  obtain ⟨y, e2, y1⟩ := m_bigon M hV.le16 i8 j8
  rw [e1, e2, bnd1_e, bnd1_e]
  rcases x1.uniq y1 with ⟨k, k1, k2, rfl, rfl⟩ | ⟨k1, rfl, rfl⟩
  · have p0 : ∀ m : Nat, m < 1000 → (0 : Int32) ≤ nI m := fun m hm => by rw [fa_lit 0]; exact nI_le (Nat.zero_le _) (by omega)
    rw [if_pos (p0 k (by omega)), if_pos (p0 _ (by omega)), q_copyFrom, bnd3_e]
    obtain ⟨pa2, g1, g2⟩ := q_dissolveBigon hV hA.copy hi hj hij k1 (a := fa_fill da pa 32)
    rw [g1, bnd3_e]
    obtain ⟨dra, g3, g4⟩ := m_beginDraft (draft := draft) hM
    have l1 := en_lt (k := k / 4 + 2) i8
    have l2 := en_lt (k := k % 4 + 3) j8
    have l3 := en_lt (k := k / 4 + 3) i8
    have l4 := en_lt (k := k % 4 + 2) j8
    obtain ⟨⟨x0, x1⟩, b0, b1⟩ := bg_bd hV (k := k) hi hj
    have le1 : ∀ e, bgF d.2.2 i j k e ≤ 16 := fun e => by
      by_cases z : e < 4 * d.1
      · exact (x1 e z).2
      · rw [x0 e (by omega)]; omega
    have fp1 := hV.2.2.2.1 (en i (k / 4 + 2)) (by unfold en; omega)
    have fq1 := hV.2.2.2.1 (en j (k % 4 + 3)) (by unfold en; omega)
    have fp2 := x1 (en i (k / 4 + 3)) (by unfold en; omega)
    have fq2 := x1 (en j (k % 4 + 2)) (by unfold en; omega)
    obtain ⟨row, g5, g6⟩ := m_join g4 hV.le16 l1 l2 fp1.1 fq1.1
    have g7 : BlR (upd row 1 (nI (d.2.1 + bgO d.2.2 i j k))) 0 (d.1, d.2.1 + bgO d.2.2 i j k, bgF d.2.2 i j k) := by
      obtain ⟨w0, w1, w2⟩ := g6
      exact ⟨by rw [pk_un (by omega)]; exact w0, by rw [Nat.zero_add, pk_us], fun e he => by rw [pk_un (by omega)]; exact w2 e he⟩
    obtain ⟨row2, g8, g9⟩ := m_join g7 le1 l3 l4 fp2.1 fq2.1
    have g10 : BlR (upd row2 1 (nI (d.2.1 + bgO d.2.2 i j k + bgP d.2.2 i j k))) 0 (d.1, d.2.1 + bgO d.2.2 i j k + bgP d.2.2 i j k, bgG d.2.2 i j k) := by
      obtain ⟨w0, w1, w2⟩ := g9
      exact ⟨by rw [pk_un (by omega)]; exact w0, by rw [Nat.zero_add, pk_us], fun e he => by rw [pk_un (by omega)]; exact w2 e he⟩
    have hmx : max i j < d.1 := by omega
    have hmn : min i j < d.1 - 1 := by omega
    obtain ⟨b2, b3⟩ := drp_bd hmx b0 b1
    obtain ⟨row3, g11, g12⟩ := m_drop g10 (fun e he => b0 e (by omega)) (show max i j < 8 by omega) (by show 1 ≤ d.1; omega)
    obtain ⟨row4, g13, g14⟩ := m_drop g12 (fun e he => b2 e (by omega)) (show min i j < 8 by omega) (by show 1 ≤ d.1 - 1; omega)
    have jl1 : bgO d.2.2 i j k ≤ 1 := jnO_le
    have jl2 : bgP d.2.2 i j k ≤ 1 := jnO_le
    obtain ⟨r, ss', np', dc', dr', da', cells', filled', pr', saved', now', hist', f1, f2, f3⟩ := h.finish (D := bgD d i j k) (fun w => bg_VS hV hi hj hij k1 k2 w) (by show d.2.1 + _ + _ < 1000; omega) g2 g14
    rw [f1, bnd9_e]
    have q1 : (nI k / 4 : Int32) = nI (k / 4) := by rw [fa_lit 4, pk_div (by omega) (by omega) (by omega)]
    have q2 : (irem (nI k) 4 : Int32) = nI (k % 4) := by rw [fa_lit 4, irem_nI (by omega) (by omega) (by omega)]
    have q3 : (4 * nI i + nI (k / 4) : Int32) = nI (4 * i + k / 4) := by rw [fa_lit 4, pk_mul, nI_add]
    have q4 : (4 * nI j + nI (k % 4) : Int32) = nI (4 * j + k % 4) := by rw [fa_lit 4, pk_mul, nI_add]
    have t1 : kX10_turn (nI (4 * i + k / 4)) 2 = some (nI (en i (k / 4 + 2))) := m_turnEn (j := 2) i8 (by omega) (by omega)
    have t2 : kX10_turn (nI (4 * j + k % 4)) 3 = some (nI (en j (k % 4 + 3))) := m_turnEn (j := 3) j8 (by omega) (by omega)
    have t3 : kX10_turn (nI (4 * i + k / 4)) 3 = some (nI (en i (k / 4 + 3))) := m_turnEn (j := 3) i8 (by omega) (by omega)
    have t4 : kX10_turn (nI (4 * j + k % 4)) 2 = some (nI (en j (k % 4 + 2))) := m_turnEn (j := 2) j8 (by omega) (by omega)
    have c1 : ∀ (α : Type) (k : Option α), ck 1 34 k = k := fun α k => by rw [fa_lit 1]; exact ck_nI (by omega) (by omega)
    have c2 : ∀ e : Nat, (2 + nI e : Int32) = nI (2 + e) := fun e => by rw [fa_lit 2, nI_add]
    have r0 : dra 1 = nI d.2.1 := g4.2.1
    have r1 : dra (2 + en i (k / 4 + 2)) = nI (d.2.2 (en i (k / 4 + 2))) := by have := g4.2.2 _ l1; rw [Nat.zero_add] at this; exact this
    have r2 : dra (2 + en j (k % 4 + 3)) = nI (d.2.2 (en j (k % 4 + 3))) := by have := g4.2.2 _ l2; rw [Nat.zero_add] at this; exact this
    have r3 : upd row 1 (nI (d.2.1 + bgO d.2.2 i j k)) (2 + en i (k / 4 + 3)) = nI (bgF d.2.2 i j k (en i (k / 4 + 3))) := by have := g7.2.2 _ l3; rw [Nat.zero_add] at this; exact this
    have r4 : upd row 1 (nI (d.2.1 + bgO d.2.2 i j k)) (2 + en j (k % 4 + 2)) = nI (bgF d.2.2 i j k (en j (k % 4 + 2))) := by have := g7.2.2 _ l4; rw [Nat.zero_add] at this; exact this
    have r5 : upd row 1 (nI (d.2.1 + bgO d.2.2 i j k)) 1 = nI (d.2.1 + bgO d.2.2 i j k) := by rw [pk_us]
    have r6 : nI d.2.1 + nI (jnO d.2.2 (en i (k / 4 + 2)) (en j (k % 4 + 3))) = nI (d.2.1 + bgO d.2.2 i j k) := nI_add ..
    have r7 : nI (d.2.1 + bgO d.2.2 i j k) + nI (jnO (bgF d.2.2 i j k) (en i (k / 4 + 3)) (en j (k % 4 + 2))) = nI (d.2.1 + bgO d.2.2 i j k + bgP d.2.2 i j k) := nI_add ..
    simp only [g3, bnd1_e, q1, q2, q3, q4, c1, t1, t2, t3, t4, c2]
    rw [ck_nI (by omega) (by omega), ck_nI (by omega) (by omega), nI_clamp (by omega), nI_clamp (by omega), r1, r2, g5, bnd2_e, cl1, r0, r6, ck_nI (by omega) (by omega), ck_nI (by omega) (by omega), nI_clamp (by omega), nI_clamp (by omega), r3, r4, g8, bnd2_e]
    unfold kX10_removeBigon_J1 kX10_removeBigon_J2
    by_cases z : i ≤ j
    · have lz : nI i ≤ nI j := nI_le z (by omega)
      rw [show max i j = j by omega] at g11
      rw [show min i j = i by omega] at g13
      simp only [if_pos lz, cl1, r0, r6, r5, r7, g11, bnd1_e, g13, f2, bnd4_e]
      exact ⟨_, _, _, _, _, _, _, _, _, _, _, _, _, _, _, _, rfl, rfl, f3⟩
    · have lz : ¬ nI i ≤ nI j := nI_ge (by omega) (by omega)
      rw [show max i j = i by omega] at g11
      rw [show min i j = j by omega] at g13
      simp only [if_neg lz, cl1, r0, r6, r5, r7, g11, bnd1_e, g13, f2, bnd4_e]
      exact ⟨_, _, _, _, _, _, _, _, _, _, _, _, _, _, _, _, rfl, rfl, f3⟩
  · rw [if_neg (by decide), if_neg (by decide)]
    exact ⟨_, _, _, _, _, _, _, _, _, _, _, _, _, _, _, _, rfl, rfl, h⟩
