/-! ===== the state of the two, side by side ===== -/
def brD (d : St) (i : Nat) : Int32 := brk d.1 d.2.1 d.2.2 i
def SR (ss np dc dr : Int32) (da cells filled : Nat → Int32) (pr : Int32) (coef : Nat → Int32) (saved : Int32) (now hist kept isk : Nat → Int32) : Prop :=
  ∃ (d : St) (s n : Nat) (H : Nat → St), VS d ∧ dc = nI d.1 ∧ dr = nI d.2.1 ∧ Rp da d.2.2 ∧ BlR now 0 d ∧ (pr = 0 ∨ ∀ i, i < 121 → coef i = brD d i) ∧ ss = nI s ∧ saved = nI s ∧ np = nI n ∧ SvR s n H cells filled hist ∧ SnR cells filled kept isk
theorem SR.become {ss np dc dr : Int32} {da cells filled : Nat → Int32} {pr : Int32} {coef : Nat → Int32} {saved : Int32} {now hist kept isk : Nat → Int32} (h : SR ss np dc dr da cells filled pr coef saved now hist kept isk)
    {d' : St} {pa : Nat → Int32} (hV : VS d') (hp : Rp pa d'.2.2) : ∃ ss' np' da' cells' filled' saved' hist', kX9_becomeDraft ss np dc dr da (nI d'.1) (nI d'.2.1) pa cells filled pr = some (ss', np', nI d'.1, nI d'.2.1, da', cells', filled', 0) ∧ kX10_remember saved now hist = some (saved', hist') ∧ Rp da' d'.2.2 ∧ ∀ now', BlR now' 0 d' → SR ss' np' (nI d'.1) (nI d'.2.1) da' cells' filled' 0 coef saved' now' hist' kept isk := by
  obtain ⟨d, s, n, H, a1, rfl, rfl, a4, a5, a6, rfl, rfl, rfl, a10, a11⟩ := h
  obtain ⟨hist', r1, r2, r3⟩ := m_remember (now := now) (hist := hist) a10.1
  obtain ⟨cells', da', q1, q2, q3, q4⟩ := q_becomeDraft (a := da) (cells := cells) (filled := filled) a10.1 a10.2.1 a4 hp pr
  exact ⟨_, _, da', cells', _, _, hist', q1, r1, q2, fun now' hn => ⟨d', min (s + 1) 8, (n + 1) % 8, _, hV, rfl, rfl, q2, hn, Or.inl rfl, rfl, rfl, rfl, a10.save a1 a5 q3 q4 r2 r3, a11.save q4⟩⟩
theorem fndF.sgn {P : Nat → Prop} {n : Nat} {x : Int32} (h : fndF P 0 n nI (-1) x) (hn : n < 1000) : (x < 0 ∧ ∀ k, k < n → ¬ P k) ∨ (¬ x < 0 ∧ ∃ k, k < n ∧ P k ∧ x = nI k) := by
  rcases h with ⟨k, h1, h2, h3, h4, rfl⟩ | ⟨h1, rfl⟩
  · exact Or.inr ⟨nI_pos (by omega), k, h2, h3, rfl⟩
  · exact Or.inl ⟨by decide, fun k hk => h1 k (Nat.zero_le _) hk⟩
/-! queries of kinks and bigons -/
theorem t_isKink {d : St} {da now : Nat → Int32} (hV : VS d) (hA : Rp da d.2.2) (hM : BlR now 0 d) (v : Int32) : ∃ r, kX9_isKink v (nI d.1) da = some r ∧ kX10_isKink v now = some r := by
  have hc := hV.1
  have M := BlR.mr.mp hM
  unfold kX9_isKink kX10_isKink
  rcases ix v (n := d.1) (by omega) with hv | hv | ⟨j, hj, rfl⟩
  · exact ⟨-1000001, by rw [q_hasNeg hv, bnd1_e, if_pos rfl], by rw [m_isNeg M hv, bnd1_e, if_pos rfl]⟩
  · exact ⟨-1000001, by rw [q_hasBig hv, bnd1_e, if_pos rfl], by rw [m_isBig M hc hv, bnd1_e, if_pos rfl]⟩
  · rw [q_hasIn hj (by omega), m_isIn M hc hj, bnd1_e, bnd1_e, if_neg (by decide), if_neg (by decide)]
    obtain ⟨x, e1, x1⟩ := q_kinkEnd hA (show j < 8 by omega)
    obtain ⟨y, e2, y1⟩ := m_kinkEnd M hV.le16 (show j < 8 by omega)
    rw [e1, e2, bnd1_e, bnd1_e]
    rcases x1.uniq y1 with ⟨k, k1, k2, rfl, rfl⟩ | ⟨k1, rfl, rfl⟩
    · exact ⟨1, if_pos (by rw [fa_lit 0]; exact nI_le (Nat.zero_le _) (by omega)), if_neg (nI_pos (by omega))⟩
    · exact ⟨0, if_neg (by decide), if_pos (by decide)⟩
def bP (f : Nat → Nat) (v w : Nat) : Prop := w ≠ v ∧ ∃ k, k < 16 ∧ bE f v w k
theorem t_bigonPartner {d : St} {da now : Nat → Int32} (hV : VS d) (hA : Rp da d.2.2) (hM : BlR now 0 d) (v : Int32) : ∃ r, kX9_bigonPartner v (nI d.1) da = some r ∧ kX10_bigonPartner v now = some r := by
  have hc := hV.1
  have M := BlR.mr.mp hM
  unfold kX9_bigonPartner kX10_bigonPartner
  rcases ix v (n := d.1) (by omega) with hv | hv | ⟨j, hj, rfl⟩
  · exact ⟨-1000001, by rw [q_hasNeg hv, bnd1_e, if_pos rfl], by rw [m_isNeg M hv, bnd1_e, if_pos rfl]⟩
  · exact ⟨-1000001, by rw [q_hasBig hv, bnd1_e, if_pos rfl], by rw [m_isBig M hc hv, bnd1_e, if_pos rfl]⟩
  · rw [q_hasIn hj (by omega), m_isIn M hc hj, bnd1_e, bnd1_e, if_neg (by decide), if_neg (by decide), m_crossings M, bnd1_e]
    have Q : ∃ r, it1 (kX9_bigonPartner_L1 (nI d.1) (nI j) da) 400 0 = some r ∧ fndF (bP d.2.2 j) 0 d.1 nI (-1000009) r := by
      refine it1_way (F := kX9_bigonPartner_L1 (nI d.1) (nI j) da) (x1 := 0) (n := 400) (fun i x => x = nI i ∧ ∀ k, k < i → ¬ bP d.2.2 j k) (fun r => ∃ x, r = some x ∧ fndF (bP d.2.2 j) 0 d.1 nI (-1000009) x) d.1 (fun K i x hi hI => ?_) ⟨rfl, fun k hk => absurd hk (Nat.not_lt_zero _)⟩ (by omega)
      obtain ⟨rfl, hx⟩ := hI
      unfold kX9_bigonPartner_L1
      by_cases q : i = d.1
      · left
        exact ⟨-1000009, if_pos (by rw [q]; exact Int32.le_refl _), Or.inr ⟨fun k _ hk => hx k (by omega), rfl⟩⟩
      · rw [if_neg (nI_ge (by omega) (by omega)), nI_1]
        have nx : ¬ bP d.2.2 j i → ∀ k, k < i + 1 → ¬ bP d.2.2 j k := fun z k hk => by
          by_cases w : k = i
          · rw [w]; exact z
          · exact hx k (by omega)
        by_cases w : i = j
        · right
          exact ⟨by omega, _, if_pos (by rw [w]), rfl, nx (fun z => z.1 w)⟩
        · rw [if_neg (fun z => w ((nI_eq (by omega) (by omega)).mp z))]
          obtain ⟨x, e1, x1⟩ := q_bigon hA (show j < 8 by omega) (show i < 8 by omega)
          rw [e1, bnd1_e]
          rcases x1.sgn (by omega) with ⟨y1, y2⟩ | ⟨y1, k, y2, y3, _⟩
          · right
            exact ⟨by omega, _, if_pos y1, rfl, nx (fun ⟨_, k, k1, k2⟩ => y2 k k1 k2)⟩
          · left
            exact ⟨_, if_neg y1, fndF.asc (by omega) ⟨w, k, y2, y3⟩ hx⟩
    have R : ∃ r, it2 (kX10_bigonPartner_L1 (nI j) now) 400 (-1000009) (nI d.1 - 1) = some r ∧ fndF (bP d.2.2 j) 0 d.1 nI (-1000009) r := by
      refine it2_inv (F := kX10_bigonPartner_L1 (nI j) now) (x1 := -1000009) (x2 := nI d.1 - 1) (n := 400) (fun i x y => y = nI (d.1 - i) - 1 ∧ fndF (bP d.2.2 j) (d.1 - i) d.1 nI (-1000009) x) (fun r => ∃ x, r = some x ∧ fndF (bP d.2.2 j) 0 d.1 nI (-1000009) x) d.1 (fun K i x y hi hI => ?_) (fun K x y hI => ?_) ⟨rfl, Or.inr ⟨fun k k1 k2 => absurd k1 (by omega), rfl⟩⟩ (by omega)
      · obtain ⟨rfl, hx⟩ := hI
        obtain ⟨m, hm⟩ : ∃ m, m = d.1 - i - 1 := ⟨_, rfl⟩
        have e1 : (nI (d.1 - i) - 1 : Int32) = nI m := by rw [show d.1 - i = m + 1 by omega, nI_pred]
        have e2 : (nI m + (-1) : Int32) = nI (d.1 - (i + 1)) - 1 := by rw [show d.1 - (i + 1) = m by omega, Int32.sub_eq_add_neg]
        rw [show d.1 - i = m + 1 by omega] at hx
        unfold kX10_bigonPartner_L1 kX10_bigonPartner_J2
        rw [e1, if_neg (nI_pos (by omega)), e2, show d.1 - (i + 1) = m by omega]
        by_cases w : m = j
        · exact ⟨_, _, if_pos (by rw [w]), rfl, hx.no (fun z => z.1 w)⟩
        · rw [if_neg (fun z => w ((nI_eq (by omega) (by omega)).mp z))]
          obtain ⟨x2, e1, x1⟩ := m_bigon M hV.le16 (show j < 8 by omega) (show m < 8 by omega)
          rw [e1, bnd1_e]
          rcases x1.sgn (by omega) with ⟨y1, y2⟩ | ⟨y1, k, y2, y3, _⟩
          · exact ⟨_, _, if_pos y1, rfl, hx.no (fun ⟨_, k, k1, k2⟩ => y2 k k1 k2)⟩
          · exact ⟨_, _, if_neg y1, rfl, fndF.yes (g := nI) (by omega) ⟨w, k, y2, y3⟩⟩
      · obtain ⟨rfl, hx⟩ := hI
        rw [Nat.sub_self] at hx ⊢
        refine ⟨x, ?_, hx⟩
        unfold kX10_bigonPartner_L1
        rw [if_pos (by decide)]
    obtain ⟨x, e1, x1⟩ := Q
    obtain ⟨y, e2, y1⟩ := R
    refine ⟨x, e1, e2.trans ?_⟩
    rcases x1.uniq y1 with ⟨k, k1, k2, rfl, rfl⟩ | ⟨k1, rfl, rfl⟩
    · rfl
    · rfl
theorem t_arcAt {d : St} {da now : Nat → Int32} (hV : VS d) (hA : Rp da d.2.2) (hM : BlR now 0 d) (v w : Int32) : ∃ r, kX9_arcAt v w (nI d.1) da = some r ∧ kX10_arcAt v w now = some r := by
  have hc := hV.1
  have M := BlR.mr.mp hM
  unfold kX9_arcAt kX10_arcAt kX10_arcAt_J1
  rcases ix v (n := d.1) (by omega) with hv | hv | ⟨j, hj, rfl⟩
  · exact ⟨-1000001, by rw [q_hasNeg hv, bnd1_e, if_pos rfl], by rw [m_isNeg M hv, bnd1_e, if_pos rfl]⟩
  · exact ⟨-1000001, by rw [q_hasBig hv, bnd1_e, if_pos rfl], by rw [m_isBig M hc hv, bnd1_e, if_pos rfl]⟩
  · have n1 : ¬ ((1 : Int32) = 0) := by decide
    rw [q_hasIn hj (by omega), m_isIn M hc hj, bnd1_e, bnd1_e, if_neg n1, if_neg n1]
    rcases ix w (n := 4) (by omega) with hw | hw | ⟨k, hk, rfl⟩
    · exact ⟨-1000001, if_pos hw, by rw [m_inLo hw, bnd1_e, if_pos rfl]⟩
    · have w3 : (3 : Int32) < w := by
        have h4 : (3 : Int32) < nI 4 := by decide
        exact Int32.lt_of_lt_of_le h4 hw
      have w0 : ¬ w < 0 := fun z => absurd (Int32.lt_trans w3 z) (by decide)
      exact ⟨-1000001, by rw [if_neg w0, if_neg (Int32.not_le.mpr w3)], by rw [m_inHi w3, bnd1_e, if_pos rfl]⟩
    · have k0 : (0 : Int32) ≤ nI k := by rw [fa_lit 0]; exact nI_le (Nat.zero_le _) (by omega)
      have k3 : nI k ≤ (3 : Int32) := by rw [fa_lit 3]; exact nI_le (by omega) (by omega)
      have e : (4 * nI j + nI k : Int32) = nI (4 * j + k) := by rw [fa_lit 4, pk_mul, nI_add]
      exact ⟨nI (d.2.2 (4 * j + k)), by rw [if_neg (nI_pos (by omega)), if_pos k3, e, q_arcR hA (by omega), bnd1_e], by rw [m_in k0 k3, bnd1_e, if_neg (by decide), e, m_arc M (by omega), bnd1_e]⟩
