/-! ===== load ===== -/
def LdQ (d : St) (hs : List St) (kd : Nat → Option St) (r : Option (Int32 × Int32 × Int32 × Int32 × (Nat → Int32) × Int32 × Int32 × Int32 × Int32 × (Nat → Int32) × Int32 × Int32 × (Nat → Int32) × (Nat → Int32) × (Nat → Int32) × Int32 × (Nat → Int32))) : Prop := ∃ ss' np' tc' ri' rd' dc' dr' da' pc' po' pa' cells' filled' pr' arcs' d', r = some (1, ss', np', 0, tc', ri', rd', dc', dr', da', pc', po', pa', cells', filled', pr', arcs') ∧ 0 < d'.1 + d'.2.1 ∧ ∀ cf', CS ss' np' dc' dr' da' cells' filled' pr' cf' d' (d :: hs) kd
theorem D_J4 {ss np dc dr : Int32} {da cells filled : Nat → Int32} {pr : Int32} {coef : Nat → Int32} {d : St} {hs : List St} {kd : Nat → Option St} (h : CS ss np dc dr da cells filled pr coef d hs kd) (hl : hs.length ≤ 7) {n o : Nat} {g : Nat → Nat} (hg : GG n g) (hn : n ≤ 5) (ho : o ≤ 1) (hp : 0 < n + o) {ts : Nat → Int32} (hI : ∀ k, k < 4 * n → ItT ts g k) (hO : o = 1 → ts (posG g (4 * n)) = 111 ∧ ts (posG g (4 * n) + 1) = 59) (ri rd pc po : Int32) (pa arcs : Nat → Int32) : LdQ d hs kd (kL_load_J4 arcs ss np ri rd dc dr da pc po pa cells filled pr (nI n) (nI (posG g (4 * n) + 2 * o)) (nI (posG g (4 * n) + 2 * o)) ts) := by
  have pl := posG_le g (4 * n)
  obtain ⟨a', er, hA⟩ := P_read hg hn ho hp hI hO ri rd pc po pa
  obtain ⟨ss', np', da', cells', filled', eb, _, hc⟩ := h.become (d' := (n, o, fk (4 * n) g)) (fk_VS hg hn ho) hA hl
  have eb' : kX9_becomeDraft ss np dc dr da (nI n) (nI o) a' cells filled pr = some (ss', np', nI n, nI o, da', cells', filled', 0) := eb
  unfold kL_load_J4 kX9_load
  rw [if_neg (show ¬ nI (posG g (4 * n) + 2 * o) ≤ 0 from nI_nle (by omega) (by omega)), er, bnd6_e, if_pos (show (-1 : Int32) < 0 by decide), eb', bnd8_e, bnd15_e, if_pos rfl]
  exact ⟨_, _, _, _, _, _, _, _, _, _, _, _, _, _, _, (n, o, fk (4 * n) g), rfl, hp, hc⟩
theorem D_J6 {ss np dc dr : Int32} {da cells filled : Nat → Int32} {pr : Int32} {coef : Nat → Int32} {d : St} {hs : List St} {kd : Nat → Option St} (h : CS ss np dc dr da cells filled pr coef d hs kd) (hl : hs.length ≤ 7) {n : Nat} {g : Nat → Nat} (hg : GG n g) (hn : n ≤ 5) {ts : Nat → Int32} (hI : ∀ k, k < 4 * n → ItT ts g k) (ri rd pc po : Int32) (pa arcs : Nat → Int32) : LdQ d hs kd (kL_load_J6 (nI (posG g (4 * n))) (nI (posG g (4 * n))) ts arcs ss np ri rd dc dr da pc po pa cells filled pr (nI n)) := by
  have pl := posG_le g (4 * n)
  unfold kL_load_J6
  rw [L_say (by omega) (by decide) (by decide), bnd3_e, L_say (by omega) (by decide) (by decide), bnd3_e]
  refine D_J4 h hl hg hn (Nat.le_refl 1) (by omega) (fun k hk => (hI k hk).cong fun i hi => ?_) (fun _ => ⟨?_, ?_⟩) ri rd pc po pa arcs
  · have := posG_mono g (show k + 1 ≤ 4 * n by omega)
    rw [pk_un (by omega), pk_un (by omega)]
  · rw [pk_un (by omega), pk_us]
  · rw [pk_us]
theorem D_end {ss np dc dr : Int32} {da cells filled : Nat → Int32} {pr : Int32} {coef : Nat → Int32} {d : St} {hs : List St} {kd : Nat → Option St} (h : CS ss np dc dr da cells filled pr coef d hs kd) (hl : hs.length ≤ 7) {n : Nat} {g : Nat → Nat} (hg : GG n g) (hn : n ≤ 5) {arcs : Nat → Int32} (hA : ∀ e, e < 4 * n → arcs e = nI (g e)) (x ri rd pc po : Int32) (pa tc : Nat → Int32) : LdQ d hs kd (it4 (kL_load_L3 (nI n) arcs ss np ri rd dc dr da pc po pa cells filled pr x 64) 400 0 0 0 tc) := by
  have e4 : (4 * nI n : Int32) = nI (4 * n) := by rw [fa_lit 4, pk_mul]
  refine it4_inv (F := kL_load_L3 (nI n) arcs ss np ri rd dc dr da pc po pa cells filled pr x 64) (x1 := 0) (x2 := 0) (x3 := 0) (x4 := tc) (n := 400) (fun i x1 x2 x3 x4 => x1 = nI (posG g i) ∧ x2 = nI i ∧ x3 = nI (posG g i) ∧ ∀ k, k < i → ItT x4 g k) (fun r => LdQ d hs kd r) (4 * n) (fun K i x1 x2 x3 x4 hi hI => ?_) (fun K x1 x2 x3 x4 hI => ?_) ⟨rfl, rfl, rfl, fun k hk => absurd hk (Nat.not_lt_zero _)⟩ (by omega)
  · obtain ⟨rfl, rfl, rfl, hT⟩ := hI
    have pl := posG_le g i
    have ps := posG_s g i
    have gb := (hg i hi).1
    have er : irem (nI i) 4 = nI (i % 4) := by rw [fa_lit 4, irem_nI (by omega) (by omega) (by omega)]
    have eg : irem (arcs i) 10 = nI (g i % 10) := by rw [hA i hi, fa_lit 10, irem_nI (by omega) (by omega) (by omega)]
    have ed : (48 + nI (g i % 10) : Int32) = nI (48 + g i % 10) := by rw [fa_lit 48, nI_add]
    -- the last characters of the item
    have tail : ∀ (p : Nat) (ts : Nat → Int32), p = posG g i + nd2 g i → ts (posG g i) = (if i % 4 = 0 then 120 else 32) → (9 < g i → ts (posG g i + 1) = 49) → (∀ k, k < i → ItT ts g k) → ∃ y1 y2 y3 y4, kL_load_J8 (nI i) 64 arcs K (nI p) (nI p) ts = K y1 y2 y3 y4 ∧ y1 = nI (posG g (i + 1)) ∧ y2 = nI (i + 1) ∧ y3 = nI (posG g (i + 1)) ∧ ∀ k, k < i + 1 → ItT y4 g k := fun p ts hp t1 t2 t3 => by
      have n12 : nd2 g i = 1 ∨ nd2 g i = 2 := by
        unfold nd2
        by_cases q : 9 < g i
        · rw [if_pos q]; exact Or.inr rfl
        · rw [if_neg q]; exact Or.inl rfl
      have n9 : 9 < g i → nd2 g i = 2 := fun q => if_pos q
      have lo : ∀ k, k < i → ∀ j, j < posG g (k + 1) → j < posG g i := fun k hk j hj => by
        have := posG_mono g (show k + 1 ≤ i by omega)
        omega
      unfold kL_load_J8
      rw [ck_nI (by omega) (by omega), nI_clamp (by omega), eg, ed, L_say (by omega) (nI_pos (by omega)) (show nI _ ≤ 255 from nI_le (b := 255) (by omega) (by omega)), bnd3_e, er]
      by_cases q : i % 4 = 3
      · rw [if_pos (show nI (i % 4) = 3 by rw [q]; rfl), L_say (by omega) (by decide) (by decide), bnd3_e, nI_1]
        rw [if_pos q] at ps
        refine ⟨_, _, _, _, rfl, by congr 1; omega, rfl, by congr 1; omega, fun k hk => ?_⟩
        by_cases r : k = i
        · subst r
          refine ⟨by rw [pk_un (by omega), pk_un (by omega)]; exact t1, fun z => by have := n9 z; rw [pk_un (by omega), pk_un (by omega)]; exact t2 z, by rw [← hp, pk_un (by omega), pk_us], fun _ => by rw [show posG g k + 1 + nd2 g k = p + 1 by omega, pk_us]⟩
        · exact (t3 k (by omega)).cong fun j hj => by
            have := lo k (by omega) j hj
            rw [pk_un (by omega), pk_un (by omega)]
      · rw [if_neg (show ¬ nI (i % 4) = 3 from fun z => q ((nI_eq (b := 3) (by omega) (by omega)).mp z)), nI_1]
        rw [if_neg q] at ps
        refine ⟨_, _, _, _, rfl, by congr 1; omega, rfl, by congr 1; omega, fun k hk => ?_⟩
        by_cases r : k = i
        · subst r
          refine ⟨by rw [pk_un (by omega)]; exact t1, fun z => by have := n9 z; rw [pk_un (by omega)]; exact t2 z, by rw [← hp, pk_us], fun z => absurd z q⟩
        · exact (t3 k (by omega)).cong fun j hj => by
            have := lo k (by omega) j hj
            rw [pk_un (by omega)]
    -- one more digit, if there are two
    have mid : ∀ (ts : Nat → Int32), ts (posG g i) = (if i % 4 = 0 then 120 else 32) → (∀ k, k < i → ItT ts g k) → ∃ y1 y2 y3 y4, kL_load_J7 (nI i) 64 arcs K (nI (posG g i + 1)) (nI (posG g i + 1)) ts = K y1 y2 y3 y4 ∧ y1 = nI (posG g (i + 1)) ∧ y2 = nI (i + 1) ∧ y3 = nI (posG g (i + 1)) ∧ ∀ k, k < i + 1 → ItT y4 g k := fun ts t1 t3 => by
      unfold kL_load_J7
      rw [ck_nI (by omega) (by omega), nI_clamp (by omega), hA i hi]
      by_cases q : 9 < g i
      · rw [if_neg (show ¬ nI (g i) ≤ 9 from nI_ge (a := 9) q (by omega)), L_say (by omega) (by decide) (by decide), bnd3_e]
        have n2 : nd2 g i = 2 := if_pos q
        refine tail _ _ (by omega) (by rw [pk_un (by omega)]; exact t1) (fun _ => pk_us) (fun k hk => (t3 k hk).cong fun j hj => ?_)
        have := posG_mono g (show k + 1 ≤ i by omega)
        rw [pk_un (by omega)]
      · rw [if_pos (show nI (g i) ≤ 9 from nI_le (b := 9) (by omega) (by omega))]
        have n1 : nd2 g i = 1 := if_neg q
        exact tail _ _ (by omega) t1 (fun z => absurd z q) t3
    have old : ∀ (v : Int32) (k : Nat), k < i → ItT (upd x4 (posG g i) v) g k := fun v k hk => (hT k hk).cong fun j hj => by
      have := posG_mono g (show k + 1 ≤ i by omega)
      rw [pk_un (by omega)]
    unfold kL_load_L3
    rw [e4, if_neg (nI_ge hi (by omega)), er]
    by_cases q : i % 4 = 0
    · rw [if_pos (show nI (i % 4) = 0 by rw [q]; rfl), L_say (by omega) (by decide) (by decide), bnd3_e]
      exact mid _ (by rw [pk_us, if_pos q]) (old _)
    · rw [if_neg (nI_ne0 (by omega) (by omega)), L_say (by omega) (by decide) (by decide), bnd3_e]
      exact mid _ (by rw [pk_us, if_neg q]) (old _)
  · obtain ⟨rfl, rfl, rfl, hT⟩ := hI
    unfold kL_load_L3
    rw [e4, if_pos (Int32.le_refl _)]
    by_cases q : n = 0
    · rw [if_pos (show nI n = 0 by rw [q]; rfl)]
      exact D_J6 h hl hg hn hT ri rd pc po pa arcs
    · rw [if_neg (nI_ne0 (by omega) (by omega))]
      by_cases r : (ishr x 5 &&& 3 : Int32) = 0
      · rw [if_pos r]
        exact D_J6 h hl hg hn hT ri rd pc po pa arcs
      · rw [if_neg r]
        exact D_J4 (o := 0) h hl hg hn (by omega) (by omega) hT (fun z => absurd z (by omega)) ri rd pc po pa arcs
theorem D_mid {ss np dc dr : Int32} {da cells filled : Nat → Int32} {pr : Int32} {coef : Nat → Int32} {d : St} {hs : List St} {kd : Nat → Option St} (h : CS ss np dc dr da cells filled pr coef d hs kd) (hl : hs.length ≤ 7) {n : Nat} {g : Nat → Nat} (hg : GG n g) (hn : n ≤ 5) {arcs : Nat → Int32} (hA : ∀ e, e < 4 * n → arcs e = nI (g e)) {ns : Nat} (hns : ns < 2 ^ 31) (f : Nat → Int32) {k : Nat} (hk : k < 1000) (x tl ri rd pc po : Int32) (pa tc : Nat → Int32) : LdQ d hs kd (it2 (kL_load_L2 (nI n) tl ss np ri rd dc dr da pc po pa cells filled pr x 64 tc ns f (nI k)) 400 0 arcs) := by
  have e4 : (4 * nI n : Int32) = nI (4 * n) := by rw [fa_lit 4, pk_mul]
  refine it2_inv (F := kL_load_L2 (nI n) tl ss np ri rd dc dr da pc po pa cells filled pr x 64 tc ns f (nI k)) (x1 := 0) (x2 := arcs) (n := 400) (fun i x1 x2 => x1 = nI i ∧ ∃ g', GG n g' ∧ ∀ e, e < 4 * n → x2 e = nI (g' e)) (fun r => LdQ d hs kd r) (4 * n) (fun K i x1 x2 hi hI => ?_) (fun K x1 x2 hI => ?_) ⟨rfl, g, hg, hA⟩ (by omega)
  · obtain ⟨rfl, g', hg', hA'⟩ := hI
    have swap : ∀ j, j < 4 * n → ∃ y1 y2, kL_load_J9 (nI i) 64 K x2 (nI j) = K y1 y2 ∧ y1 = nI (i + 1) ∧ ∃ g2, GG n g2 ∧ ∀ e, e < 4 * n → y2 e = nI (g2 e) := fun j hj => by
      unfold kL_load_J9
      rw [ck_nI (by omega) (by omega), ck_nI (by omega) (by omega), ck_nI (by omega) (by omega), ck_nI (by omega) (by omega), nI_clamp (by omega), nI_clamp (by omega), nI_1]
      refine ⟨_, _, rfl, rfl, _, hg'.swap hi hj, fun e he => ?_⟩
      by_cases q : e = j
      · subst q
        rw [pk_us, sw_b]; exact hA' i hi
      · rw [pk_un q]
        by_cases r : e = i
        · subst r
          rw [pk_us, sw_a]; exact hA' j hj
        · rw [pk_un r, sw_o r q]; exact hA' e he
    have er : irem (nI i) 11 = nI (i % 11) := by rw [fa_lit 11, irem_nI (by omega) (by omega) (by omega)]
    obtain ⟨y, ey⟩ := L_cell f hns (k := k + 1 + i % 11) (by omega)
    have e11 : (nI k + 1 + nI (i % 11) : Int32) = nI (k + 1 + i % 11) := by rw [nI_1, nI_add]
    have es : (nI (4 * n) - nI i : Int32) = nI (4 * n - i) := nI_sub (by omega)
    unfold kL_load_L2
    rw [e4, if_neg (nI_ge hi (by omega)), er, e11, ey, bnd1_e]
    by_cases q : (ishr x 8 &&& 3 : Int32) = 0
    · rw [if_pos q]
      obtain ⟨c, hc, ec⟩ := L_low (ishr y (nI i / 11 * 3)) (m := 4 * n) (by omega) (by omega)
      rw [ec, bnd1_e]
      exact swap c hc
    · rw [if_neg q, es]
      have near : ∀ m, 0 < m → i + m ≤ 4 * n → ∃ y1 y2, kL_load_J10 y (nI i) 64 K x2 (nI m) = K y1 y2 ∧ y1 = nI (i + 1) ∧ ∃ g2, GG n g2 ∧ ∀ e, e < 4 * n → y2 e = nI (g2 e) := fun m m0 m1 => by
        obtain ⟨c, hc, ec⟩ := L_low (ishr y (nI i / 11 * 3)) (m := m) m0 (by omega)
        unfold kL_load_J10
        rw [ec, bnd1_e, nI_add]
        exact swap (i + c) (by omega)
      by_cases r : 4 ≤ 4 * n - i
      · rw [if_pos (show 4 ≤ nI (4 * n - i) from nI_le (a := 4) r (by omega))]
        exact near 4 (by omega) (by omega)
      · rw [if_neg (show ¬ 4 ≤ nI (4 * n - i) from nI_ge (b := 4) (by omega) (by omega))]
        exact near _ (by omega) (by omega)
  · obtain ⟨rfl, g', hg', hA'⟩ := hI
    unfold kL_load_L2 kX9_clearText
    rw [e4, if_pos (Int32.le_refl _), bnd2_e]
    exact D_end h hl hg' hn hA' x ri rd pc po pa tc
theorem L_load {ss np dc dr : Int32} {da cells filled : Nat → Int32} {pr : Int32} {coef : Nat → Int32} {d : St} {hs : List St} {kd : Nat → Option St} (h : CS ss np dc dr da cells filled pr coef d hs kd) (hl : hs.length ≤ 7) {ns : Nat} (hns : ns < 2 ^ 31) (f : Nat → Int32) {k m : Nat} (hk : k < 1000) (hm : m ≤ 5) (tl ri rd pc po : Int32) (pa tc arcs : Nat → Int32) : LdQ d hs kd (kL_load 64 ns f (nI k) (nI m) ss np tl tc ri rd dc dr da pc po pa cells filled pr arcs) := by
  obtain ⟨x, ex⟩ := L_cell f hns (k := k) (by omega)
  obtain ⟨n, hn, en⟩ := L_low x (m := m + 1) (by omega) (by omega)
  have e4 : (4 * nI n : Int32) = nI (4 * n) := by rw [fa_lit 4, pk_mul]
  unfold kL_load
  rw [ex, bnd1_e, nI_1, en, bnd1_e]
  refine it2_inv (F := kL_load_L1 (nI n) tl ss np ri rd dc dr da pc po pa cells filled pr x 64 tc ns f (nI k)) (x1 := 0) (x2 := arcs) (n := 400) (fun i x1 x2 => x1 = nI i ∧ ∀ e, e < i → x2 e = nI (e / 2 + 1)) (fun r => LdQ d hs kd r) (4 * n) (fun K i x1 x2 hi hI => ?_) (fun K x1 x2 hI => ?_) ⟨rfl, fun e he => absurd he (Nat.not_lt_zero _)⟩ (by omega)
  · obtain ⟨rfl, hA⟩ := hI
    have e2 : (nI i / 2 + 1 : Int32) = nI (i / 2 + 1) := by rw [fa_lit 2, pk_div (by omega) (by omega) (by omega), nI_1]
    unfold kL_load_L1
    rw [e4, if_neg (nI_ge hi (by omega)), ck_nI (by omega) (by omega), nI_clamp (by omega), nI_1, e2]
    refine ⟨_, _, rfl, rfl, fun e he => ?_⟩
    by_cases q : e = i
    · rw [q, pk_us]
    · rw [pk_un q]; exact hA e (by omega)
  · obtain ⟨rfl, hA⟩ := hI
    unfold kL_load_L1
    rw [e4, if_pos (Int32.le_refl _)]
    exact D_mid h hl (GG.start n) (by omega) hA hns f hk x tl ri rd pc po pa tc
