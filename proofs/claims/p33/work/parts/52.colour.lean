/-! ===== colourings: the classes ===== -/
def lbC (f : Nat → Nat) : Nat → Nat → Nat
  | 0 => fun n => n
  | k + 1 => lbU (lbC f k) (f (4 * k + 1)) (f (4 * k + 3))
theorem lbC_le (f : Nat → Nat) : ∀ k n, lbC f k n ≤ n
  | 0, n => Nat.le_refl n
  | k + 1, n => by
    have h1 := lbC_le f k n
    have h2 := lbC_le f k (f (4 * k + 1))
    show lbU (lbC f k) _ _ n ≤ n
    unfold lbU
    by_cases q : lbC f k n = lbC f k (f (4 * k + 1)) ∨ lbC f k n = lbC f k (f (4 * k + 3))
    · rw [if_pos q]; omega
    · rw [if_neg q]; exact h1
theorem lbC_pos {c o : Nat} {f : Nat → Nat} (h : Vd c o f) : ∀ k, k ≤ c → ∀ n, 1 ≤ n → 1 ≤ lbC f k n
  | 0, _ => fun n hn => hn
  | k + 1, hk => lbU_pos (lbC_pos h k (by omega)) (h.2.2.2.1 (4 * k + 1) (by omega)).1 (h.2.2.2.1 (4 * k + 3) (by omega)).1
theorem q_classOf {cl : Nat → Int32} {l : Nat → Nat} (h : Lr cl l) {a : Nat} (ha : a < 17) : kX1_classOf (nI a) cl = some (nI (l a)) := by
  unfold kX1_classOf
  rw [if_neg (nI_pos (by omega)), if_neg (by rw [fa_lit 17]; exact nI_ge (by omega) (by omega)), ck_nI (by omega) (by omega), nI_clamp (by omega), h a ha]
theorem q_unite1 {cl : Nat → Int32} {l : Nat → Nat} (h : Lr cl l) (hle : ∀ n, l n ≤ n) {a b : Nat} (ha : a ≤ 16) (hb : b ≤ 16) : ∃ cl', kX1_unite (nI (min (l a) (l b))) (nI (max (l a) (l b))) cl = some cl' ∧ Lr cl' (lbU l a b) := by
  have la := hle a
  have lb := hle b
  unfold kX1_unite
  refine it2_inv (F := kX1_unite_L1 (nI (max (l a) (l b))) (nI (min (l a) (l b)))) (x1 := 0) (x2 := cl) (n := 400) (fun i x y => x = nI i ∧ ∀ j, j < 17 → y j = nI (if j < i then lbU l a b j else l j)) (fun r => ∃ cl', r = some cl' ∧ Lr cl' (lbU l a b)) 17 (fun K i x y hi hI => ?_) (fun K x y hI => ?_) ⟨rfl, fun j hj => by rw [if_neg (by omega)]; exact h j hj⟩ (by omega)
  · obtain ⟨rfl, hy⟩ := hI
    have li := hle i
    have yi : y i = nI (l i) := by rw [hy i hi, if_neg (by omega)]
    unfold kX1_unite_L1
    rw [if_neg (by rw [fa_lit 17]; exact nI_ge (by omega) (by omega)), ck_nI (by omega) (by omega), nI_clamp (by omega), yi, nI_1, ck_nI (by omega) (by omega)]
    by_cases q : l i = max (l a) (l b)
    · refine ⟨_, _, if_pos (by rw [q]), rfl, fun j hj => ?_⟩
      by_cases z : j = i
      · subst z
        rw [pk_us, if_pos (by omega)]
        unfold lbU
        rw [if_pos (by omega)]
      · rw [pk_un z, hy j hj]
        by_cases w : j < i
        · rw [if_pos w, if_pos (by omega)]
        · rw [if_neg w, if_neg (by omega)]
    · refine ⟨_, _, if_neg (fun z => q ((nI_eq (by omega) (by omega)).mp z)), rfl, fun j hj => ?_⟩
      rw [hy j hj]
      by_cases z : j = i
      · subst z
        rw [if_neg (by omega), if_pos (by omega)]
        congr 1
        unfold lbU
        by_cases w : l j = l a ∨ l j = l b
        · rw [if_pos w]; omega
        · rw [if_neg w]
      · by_cases w : j < i
        · rw [if_pos w, if_pos (by omega)]
        · rw [if_neg w, if_neg (by omega)]
  · obtain ⟨rfl, hy⟩ := hI
    refine ⟨y, ?_, fun j hj => by rw [hy j hj, if_pos hj]⟩
    unfold kX1_unite_L1
    rw [if_pos (by decide)]
theorem q_uniteAll {a cl : Nat → Int32} {c o : Nat} {f : Nat → Nat} (hA : Rp a f) (hV : Vd c o f) : ∃ cl', kX1_uniteOverArcs cl (nI c) a = some cl' ∧ Lr cl' (lbC f c) := by
  have hc := hV.1
  unfold kX1_uniteOverArcs
  refine it2_inv (F := kX1_uniteOverArcs_L1 (nI c) a) (x1 := 0) (x2 := cl) (n := 400) (fun i x y => x = nI i ∧ ∀ j, j < i → y j = nI j) (fun r => ∃ cl', r = some cl' ∧ Lr cl' (lbC f c)) 17 (fun K i x y hi hI => ?_) (fun K x y hI => ?_) ⟨rfl, fun j hj => absurd hj (Nat.not_lt_zero _)⟩ (by omega)
  · obtain ⟨rfl, hy⟩ := hI
    refine ⟨nI (i + 1), upd y i (nI i), ?_, rfl, fun j hj => ?_⟩
    · unfold kX1_uniteOverArcs_L1
      rw [if_neg (by rw [fa_lit 17]; exact nI_ge (by omega) (by omega)), ck_nI (by omega) (by omega), nI_clamp (by omega), nI_1]
    · by_cases q : j = i
      · rw [q, pk_us]
      · rw [pk_un q]; exact hy j (by omega)
  · obtain ⟨rfl, hy⟩ := hI
    have run : kX1_uniteOverArcs_L1 (nI c) a K (nI 17) y = it2 (kX1_uniteOverArcs_L2 (nI c) a) 400 0 y := by
      unfold kX1_uniteOverArcs_L1
      rw [if_pos (by decide)]
    rw [run]
    refine it2_inv (F := kX1_uniteOverArcs_L2 (nI c) a) (x1 := 0) (x2 := y) (n := 400) (fun i x z => x = nI i ∧ Lr z (lbC f i)) (fun r => ∃ cl', r = some cl' ∧ Lr cl' (lbC f c)) c (fun K i x z hi hI => ?_) (fun K x z hI => ?_) ⟨rfl, fun j hj => hy j hj⟩ (by omega)
    · obtain ⟨rfl, hz⟩ := hI
      have b1 := hV.le16 (4 * i + 1)
      have b3 := hV.le16 (4 * i + 3)
      have l1 := lbC_le f i (f (4 * i + 1))
      have l3 := lbC_le f i (f (4 * i + 3))
      obtain ⟨cl', e1, e2⟩ := q_unite1 hz (lbC_le f i) b1 b3
      have a1 : (4 * nI i + 1 : Int32) = nI (4 * i + 1) := by rw [fa_lit 4, pk_mul, nI_1]
      have a3 : (4 * nI i + 3 : Int32) = nI (4 * i + 3) := by rw [fa_lit 4, pk_mul, fa_lit 3, nI_add]
      refine ⟨nI (i + 1), cl', ?_, rfl, e2⟩
      unfold kX1_uniteOverArcs_L2
      rw [if_neg (nI_ge hi (by omega)), a1, a3, q_arcR hA (by omega), bnd1_e, q_classOf hz (by omega), bnd1_e, q_arcR hA (by omega), bnd1_e, q_classOf hz (by omega), bnd1_e, imin_nI (by omega) (by omega), imax_nI (by omega) (by omega), e1, bnd1_e, nI_1]
    · obtain ⟨rfl, hz⟩ := hI
      refine ⟨z, ?_, hz⟩
      unfold kX1_uniteOverArcs_L2
      rw [if_pos (nI_le (Nat.le_refl _) (by omega))]
theorem q_countClasses {a cl : Nat → Int32} {c o : Nat} {f l : Nat → Nat} (hA : Rp a f) (hV : Vd c o f) (hl : Lr cl l) (hle : ∀ n, l n ≤ n) : kX1_countClasses cl (nI c) a = some (nI (fb_ct (fun n => occB f n (4 * c) && (l n == n)) 17)) := by
  have hc := hV.1
  have z0 : fb_ct (fun n => occB f n (4 * c) && (l n == n)) 1 = 0 := by
    rw [fb_ct_succ]
    simp [occ0 hV, fb_ct]
  unfold kX1_countClasses
  refine it2_run (fun i => nI (fb_ct (fun n => occB f n (4 * c) && (l n == n)) (1 + i))) (fun i => nI (1 + i)) 16 (fun K i hi => ?_) (fun K => ?_) (by show (0 : Int32) = nI (fb_ct _ 1); rw [z0]; rfl) rfl (by omega)
  · have li := hle (1 + i)
    have e5 : 1 + (i + 1) = 1 + i + 1 := by omega
    have s1 := fb_ct_succ (fun n => occB f n (4 * c) && (l n == n)) (1 + i)
    rw [e5, s1]
    unfold kX1_countClasses_L1
    rw [if_neg (by rw [fa_lit 16]; exact nI_nlt (by omega) (by omega)), q_classOf hl (by omega), bnd1_e, nI_1]
    by_cases q : l (1 + i) = 1 + i
    · rw [if_pos (by rw [q])]
      by_cases hex : ∃ p, p < 4 * c ∧ f p = 1 + i
      · have ho : occB f (1 + i) (4 * c) = true := occB_iff.mpr hex
        obtain ⟨p, ⟨p1, p2'⟩, p3⟩ := pk_least (fun p => p < 4 * c ∧ f p = 1 + i) hex
        rw [q_first hA hc (by omega) p1 p2' (fun x hx e => p3 x hx ⟨by omega, e⟩), bnd1_e, if_neg (nI_pos (by omega)), ho, q, nI_1]
        simp
      · have ho : occB f (1 + i) (4 * c) = false := by
          cases z : occB f (1 + i) (4 * c) with
          | false => rfl
          | true => exact absurd (occB_iff.mp z) hex
        rw [q_firstNone hA hc (by omega) (fun x hx e => hex ⟨x, hx, e⟩), bnd1_e, if_pos (by decide), ho]
        simp
    · rw [if_neg (fun z => q ((nI_eq (by omega) (by omega)).mp z))]
      have e9 : (l (1 + i) == 1 + i) = false := by simpa using q
      rw [e9, Bool.and_false]
      rfl
  · unfold kX1_countClasses_L1
    rw [if_pos (by decide)]
/-! ===== the equations ===== -/
def isP (p : Nat) : Prop := p = 3 ∨ p = 5 ∨ p = 7 ∨ p = 11
def Mx (p : Nat) (cells : Nat → Int32) (M : Nat → Nat) : Prop := ∀ j, j < 136 → cells j = nI (M j) ∧ M j < p
def putM (M : Nat → Nat) (j v : Nat) : Nat → Nat := fun x => if x = j then v else M x
theorem Mx.put {p : Nat} {cells : Nat → Int32} {M : Nat → Nat} (h : Mx p cells M) {j v : Nat} (hv : v < p) : Mx p (upd cells j (nI v)) (putM M j v) := fun x hx => by
  unfold putM
  by_cases q : x = j
  · subst q; rw [pk_us, if_pos rfl]; exact ⟨rfl, hv⟩
  · rw [pk_un q, if_neg q]; exact h x hx
theorem fm_tab : ∀ p, p = 3 ∨ p = 5 ∨ p = 7 ∨ p = 11 → ∀ x, x < 201 → kJ9_floorMod_7cf53 (nI x - nI 100) (nI p) = some (nI ((x + 100 * (p - 1)) % p)) := by
  intro p hp
  rcases hp with rfl | rfl | rfl | rfl <;> decide +kernel
theorem sub_shift (a b c : Int32) : a - b = (a + c) - (b + c) := by
  rw [Int32.sub_eq_add_neg, Int32.sub_eq_add_neg (a + c), Int32.neg_add, Int32.sub_eq_add_neg (-b), Int32.add_assoc a c, ← Int32.add_assoc c (-b), Int32.add_comm c (-b), Int32.add_assoc (-b) c, Int32.add_right_neg, Int32.add_zero]
theorem q_floorMod {p x y : Nat} (hp : isP p) (hx : x ≤ 100) (hy : y ≤ 100) : kJ9_floorMod_7cf53 (nI x - nI y) (nI p) = some (nI ((x + (p - 1) * y) % p)) := by
  have e1 : (nI x - nI y : Int32) = nI (x + (100 - y)) - nI 100 := by
    have h100 : nI 100 = nI y + nI (100 - y) := by rw [nI_add]; congr 1; omega
    rw [h100, ← nI_add]
    exact sub_shift _ _ _
  have e2 : (x + (100 - y) + 100 * (p - 1)) % p = (x + (p - 1) * y) % p := by
    have h1 : x + (100 - y) + 100 * (p - 1) + p * y = x + (p - 1) * y + p * 100 := by
      rcases hp with rfl | rfl | rfl | rfl <;> omega
    rw [← Nat.add_mul_mod_self_left (x + (100 - y) + 100 * (p - 1)) p y, h1, Nat.add_mul_mod_self_left]
  rw [e1, fm_tab p hp (x + (100 - y)) (by omega), e2]
theorem isP_lt {p : Nat} (h : isP p) : 3 ≤ p ∧ p ≤ 11 := by rcases h with rfl | rfl | rfl | rfl <;> omega
theorem q_cell {p : Nat} {cells : Nat → Int32} {M : Nat → Nat} (h : Mx p cells M) {r k : Nat} (hr : r < 8) (hk : k < 17) : kX1_cell (nI r) (nI k) cells = some (nI (M (17 * r + k))) := by
  have e : (nI r * 17 + nI k : Int32) = nI (17 * r + k) := by rw [fa_lit 17, pk_mul, nI_add, Nat.mul_comm]
  unfold kX1_cell
  rw [e, if_neg (nI_pos (by omega)), if_neg (by rw [fa_lit 136]; exact nI_ge (by omega) (by omega)), ck_nI (by omega) (by omega), nI_clamp (by omega), (h _ (by omega)).1]
theorem q_setCell {p : Nat} (hp : isP p) {cells : Nat → Int32} {r k x y : Nat} (hr : r < 8) (hk : k < 17) (hx : x ≤ 100) (hy : y ≤ 100) : kX1_setCell (nI r) (nI k) (nI x - nI y) (nI p) cells = some (upd cells (17 * r + k) (nI ((x + (p - 1) * y) % p))) := by
  have e : (nI r * 17 + nI k : Int32) = nI (17 * r + k) := by rw [fa_lit 17, pk_mul, nI_add, Nat.mul_comm]
  have hb := isP_lt hp
  unfold kX1_setCell
  rw [e, if_neg (nI_pos (by omega)), if_neg (by rw [fa_lit 136]; exact nI_ge (by omega) (by omega)), if_neg (by rw [← nI_0]; exact nI_ge (by omega) (by omega)), q_floorMod hp hx hy, bnd1_e, ck_nI (by omega) (by omega), nI_clamp (by omega)]
theorem q_setCellN {p : Nat} (hp : isP p) {cells : Nat → Int32} {r k x : Nat} (hr : r < 8) (hk : k < 17) (hx : x < p) : kX1_setCell (nI r) (nI k) (nI x) (nI p) cells = some (upd cells (17 * r + k) (nI x)) := by
  have hb := isP_lt hp
  have h := q_setCell hp (cells := cells) hr hk (x := x) (y := 0) (by omega) (by omega)
  rw [show (nI x - nI 0 : Int32) = nI x from Int32.sub_zero _, Nat.mul_zero, Nat.add_zero, Nat.mod_eq_of_lt hx] at h
  exact h
/-- the equations of the first i crossings -/
def eqM (p : Nat) (f l : Nat → Nat) : Nat → Nat → Nat
  | 0 => fun _ => 0
  | i + 1 =>
    let M1 := putM (eqM p f l i) (17 * i + l (f (4 * i))) ((eqM p f l i (17 * i + l (f (4 * i))) + 1) % p)
    let M2 := putM M1 (17 * i + l (f (4 * i + 2))) ((M1 (17 * i + l (f (4 * i + 2))) + 1) % p)
    putM M2 (17 * i + l (f (4 * i + 1))) ((M2 (17 * i + l (f (4 * i + 1))) + (p - 2)) % p)
theorem q_addTerm {p : Nat} (hp : isP p) {cl cells : Nat → Int32} {l M : Nat → Nat} (hl : Lr cl l) (hle : ∀ n, l n ≤ n) (hM : Mx p cells M) {r a : Nat} (hr : r < 8) (ha : a ≤ 16) :
    (∃ c', kX1_addTerm (nI r) (nI a) 1 (nI p) cl cells = some c' ∧ Mx p c' (putM M (17 * r + l a) ((M (17 * r + l a) + 1) % p))) ∧
    ∃ c', kX1_addTerm (nI r) (nI a) (-2) (nI p) cl cells = some c' ∧ Mx p c' (putM M (17 * r + l a) ((M (17 * r + l a) + (p - 2)) % p)) := by
  have hb := isP_lt hp
  have la := hle a
  have m1 := (hM (17 * r + l a) (by omega)).2
  unfold kX1_addTerm
  constructor
  · have e : (nI (M (17 * r + l a)) + 1 : Int32) = nI (M (17 * r + l a) + 1) - nI 0 := by rw [nI_1]; exact (Int32.sub_zero _).symm
    refine ⟨_, ?_, hM.put (Nat.mod_lt _ (by omega))⟩
    rw [q_classOf hl (by omega), bnd1_e, q_cell hM hr (by omega), bnd1_e, e, q_setCell hp hr (by omega) (by omega) (by omega), bnd1_e, Nat.mul_zero, Nat.add_zero]
  · have e : (nI (M (17 * r + l a)) + (-2) : Int32) = nI (M (17 * r + l a)) - nI 2 := by rw [Int32.sub_eq_add_neg]; rfl
    have e2 : (M (17 * r + l a) + (p - 1) * 2) % p = (M (17 * r + l a) + (p - 2)) % p := by
      rw [show M (17 * r + l a) + (p - 1) * 2 = M (17 * r + l a) + (p - 2) + p by omega, Nat.add_mod_right]
    refine ⟨_, ?_, hM.put (Nat.mod_lt _ (by omega))⟩
    rw [q_classOf hl (by omega), bnd1_e, q_cell hM hr (by omega), bnd1_e, e, q_setCell hp hr (by omega) (by omega) (by omega), bnd1_e, e2]
theorem q_equations {p : Nat} (hp : isP p) {a cl cells : Nat → Int32} {c o : Nat} {f l : Nat → Nat} (hA : Rp a f) (hV : Vd c o f) (hl : Lr cl l) (hle : ∀ n, l n ≤ n) : ∃ c', kX1_writeEquations (nI p) cl cells (nI c) a = some c' ∧ Mx p c' (eqM p f l c) := by
  have hc := hV.1
  have hb := isP_lt hp
  unfold kX1_writeEquations
  refine it2_inv (F := kX1_writeEquations_L1 (nI c) a (nI p) cl) (x1 := 0) (x2 := cells) (n := 400) (fun i x y => x = nI i ∧ ∀ j, j < i → y j = 0) (fun r => ∃ c', r = some c' ∧ Mx p c' (eqM p f l c)) 136 (fun K i x y hi hI => ?_) (fun K x y hI => ?_) ⟨rfl, fun j hj => absurd hj (Nat.not_lt_zero _)⟩ (by omega)
  · obtain ⟨rfl, hy⟩ := hI
    refine ⟨nI (i + 1), upd y i 0, ?_, rfl, fun j hj => ?_⟩
    · unfold kX1_writeEquations_L1
      rw [if_neg (by rw [fa_lit 136]; exact nI_ge (by omega) (by omega)), ck_nI (by omega) (by omega), nI_clamp (by omega), nI_1]
    · by_cases q : j = i
      · rw [q, pk_us]
      · rw [pk_un q]; exact hy j (by omega)
  · obtain ⟨rfl, hy⟩ := hI
    have run : kX1_writeEquations_L1 (nI c) a (nI p) cl K (nI 136) y = it2 (kX1_writeEquations_L2 (nI c) a (nI p) cl) 400 0 y := by
      unfold kX1_writeEquations_L1
      rw [if_pos (by decide)]
    rw [run]
    refine it2_inv (F := kX1_writeEquations_L2 (nI c) a (nI p) cl) (x1 := 0) (x2 := y) (n := 400) (fun i x z => x = nI i ∧ Mx p z (eqM p f l i)) (fun r => ∃ c', r = some c' ∧ Mx p c' (eqM p f l c)) c (fun K i x z hi hI => ?_) (fun K x z hI => ?_) ⟨rfl, fun j hj => ⟨hy j hj, by show 0 < p; omega⟩⟩ (by omega)
    · obtain ⟨rfl, hz⟩ := hI
      have a0 : (4 * nI i : Int32) = nI (4 * i) := pk_mul 4 i
      have a1 : (nI (4 * i) + 1 : Int32) = nI (4 * i + 1) := nI_add (4 * i) 1
      have a2 : (nI (4 * i) + 2 : Int32) = nI (4 * i + 2) := nI_add (4 * i) 2
      obtain ⟨c1, e1, g1⟩ := (q_addTerm hp hl hle hz (show i < 8 by omega) (hV.le16 (4 * i))).1
      obtain ⟨c2, e2, g2⟩ := (q_addTerm hp hl hle g1 (show i < 8 by omega) (hV.le16 (4 * i + 2))).1
      obtain ⟨c3, e3, g3⟩ := (q_addTerm hp hl hle g2 (show i < 8 by omega) (hV.le16 (4 * i + 1))).2
      refine ⟨nI (i + 1), c3, ?_, rfl, g3⟩
      unfold kX1_writeEquations_L2
      rw [if_neg (nI_ge hi (by omega)), a0, a1, a2, q_arcR hA (by omega), bnd1_e, e1, bnd1_e, q_arcR hA (by omega), bnd1_e, e2, bnd1_e, q_arcR hA (by omega), bnd1_e, e3, bnd1_e, nI_1]
    · obtain ⟨rfl, hz⟩ := hI
      refine ⟨z, ?_, hz⟩
      unfold kX1_writeEquations_L2
      rw [if_pos (nI_le (Nat.le_refl _) (by omega))]
