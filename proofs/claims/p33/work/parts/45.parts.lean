/-! ===== parts ===== -/
theorem shr2 {n : Nat} (h : n < 2 ^ 31) : ishr (nI n) 2 = nI (n / 4) := pk_shrN h ((2 : Int32) &&& 31) 2 (by decide)
/-- the class of a crossing's arcs -/
def rX (c : Nat) (f : Nat → Nat) (x : Nat) : Nat := lbT f 1 (4 * c) (f (4 * x))
theorem rX_end {c : Nat} {f : Nat → Nat} {e : Nat} (he : e < 4 * c) : lbT f 1 (4 * c) (f e) = rX c f (e / 4) := by
  have hL := (lbT_is f 1 (4 * c)).2.2.1
  have st : ∀ j, j < 4 * c → lbT f 1 (4 * c) (f j) = lbT f 1 (4 * c) (f (tn 1 j)) := fun j hj => hL _ _ ⟨j, hj, rfl, rfl⟩
  unfold rX
  have a0 : tn 1 (4 * (e / 4)) = 4 * (e / 4) + 1 := by unfold tn; omega
  have a1 : tn 1 (4 * (e / 4) + 1) = 4 * (e / 4) + 2 := by unfold tn; omega
  have a2 : tn 1 (4 * (e / 4) + 2) = 4 * (e / 4) + 3 := by unfold tn; omega
  have s0 := st (4 * (e / 4)) (by omega)
  have s1 := st (4 * (e / 4) + 1) (by omega)
  have s2 := st (4 * (e / 4) + 2) (by omega)
  rw [a0] at s0
  rw [a1] at s1
  rw [a2] at s2
  rcases (show e = 4 * (e / 4) ∨ e = 4 * (e / 4) + 1 ∨ e = 4 * (e / 4) + 2 ∨ e = 4 * (e / 4) + 3 by omega) with q | q | q | q
  · rw [← q]
  · rw [s0, ← q]
  · rw [s0, s1, ← q]
  · rw [s0, s1, s2, ← q]
theorem nCl_parts {c o : Nat} {f : Nat → Nat} (hV : Vd c o f) : nCl c f 1 = fb_ct (fun x => !occB (rX c f) (rX c f x) x) c := by
  have hL := lbT_is f 1 (4 * c)
  unfold nCl
  rw [cnt_classes hL (fun a b => by
    rintro ⟨j, h1, h2, h3⟩
    exact ⟨⟨j, h1, h2.symm⟩, ⟨tn 1 j, tn_lt h1, h3.symm⟩⟩) 17]
  rw [cnt_first (rX c f) 17 c (fun e he => by
    have := hL.1 (f (4 * e))
    have := hV.le16 (4 * e)
    unfold rX
    omega)]
  refine fb_ct_cong (fun n _ => ?_)
  rw [Bool.eq_iff_iff, occB_iff, occB_iff]
  constructor
  · rintro ⟨e, h1, h2⟩
    exact ⟨e / 4, by omega, by rw [← rX_end h1]; exact h2⟩
  · rintro ⟨x, h1, h2⟩
    exact ⟨4 * x, by omega, h2⟩
/-- closed under neighbours -/
def clo (c : Nat) (f : Nat → Nat) (m : Int32) : Prop := ∀ e, e < 4 * c → bt m (e / 4) = true → bt m (ot c f e / 4) = true
theorem clo_is {c o : Nat} {f : Nat → Nat} (hV : Vd c o f) {m : Int32} {s : Nat} (hs : s < c) (hm : bt m s = true) (hcl : clo c f m) : ∀ x, x < c → rX c f x = rX c f s → bt m x = true := by
  have hL := lbT_is f 1 (4 * c)
  have ht := ot_inv hV
  have key : ∀ e, e < 4 * c → (bt m (e / 4) = true ↔ ∃ y, y < 4 * c ∧ f y = f e ∧ bt m (y / 4) = true) := fun e he => by
    constructor
    · intro h; exact ⟨e, he, rfl, h⟩
    · rintro ⟨y, hy, e1, h⟩
      rcases ot_only hV hy he e1 with q | q
      · rw [q]; exact h
      · rw [q]; exact hcl y hy h
  have hh := hL.2.2.2 (fun a => ∃ y, y < 4 * c ∧ f y = a ∧ bt m (y / 4) = true) (fun a b => by
    rintro ⟨j, h1, h2, h3⟩
    have k1 := key j h1
    have k2 := key (tn 1 j) (tn_lt h1)
    have e4 : tn 1 j / 4 = j / 4 := by unfold tn; omega
    rw [e4] at k2
    rw [h2, h3]
    exact k1.symm.trans k2)
  intro x hx e
  have k1 := key (4 * x) (by omega)
  have k2 := key (4 * s) (by omega)
  have e1 : 4 * x / 4 = x := by omega
  have e2 : 4 * s / 4 = s := by omega
  rw [e1] at k1
  rw [e2] at k2
  refine k1.mpr ((hh (f (4 * x))).mp ?_)
  show ∃ y, y < 4 * c ∧ f y = rX c f x ∧ bt m (y / 4) = true
  rw [e]
  exact (hh (f (4 * s))).mpr (k2.mp hm)
theorem q_round {a : Nat → Int32} {c o : Nat} {f : Nat → Nat} (hA : Rp a f) (hV : Vd c o f) (m : Int32) (s : Nat) (hs : ∀ x, x < c → bt m x = true → rX c f x = rX c f s) (K : Int32 → Int32 → Option Int32) (v5 : Int32) :
    ∃ m', it2 (kX5_partOf_L2 (nI (4 * c)) K v5 (nI c) a) 400 m 0 = K m' (v5 + 1) ∧ (∀ x, x < c → bt m x = true → bt m' x = true) ∧ (∀ e, e < 4 * c → bt m (e / 4) = true → bt m' (ot c f e / 4) = true) ∧ ∀ x, x < c → bt m' x = true → rX c f x = rX c f s := by
  have hc := hV.1
  refine it2_inv (fun i x y => y = nI i ∧ (∀ z, z < c → bt m z = true → bt x z = true) ∧ (∀ e, e < i → bt m (e / 4) = true → bt x (ot c f e / 4) = true) ∧ ∀ z, z < c → bt x z = true → rX c f z = rX c f s) (fun r => ∃ m', r = K m' (v5 + 1) ∧ (∀ x, x < c → bt m x = true → bt m' x = true) ∧ (∀ e, e < 4 * c → bt m (e / 4) = true → bt m' (ot c f e / 4) = true) ∧ ∀ x, x < c → bt m' x = true → rX c f x = rX c f s) (4 * c) (fun K2 i x y hi hI => ?_) (fun K2 x y hI => ?_) ⟨rfl, fun _ _ h => h, fun e h => absurd h (Nat.not_lt_zero _), hs⟩ (by omega)
  · obtain ⟨rfl, h1, h2, h3⟩ := hI
    have ho := ot_is hV hi
    have t1 := ho.1
    unfold kX5_partOf_L2
    rw [if_neg (nI_ge hi (by omega)), shr2 (by omega), q_contains (by omega), bnd1_e]
    by_cases q : bt x (i / 4) = true
    · refine ⟨x ||| ishl 1 (nI (ot c f i / 4)), nI (i + 1), ?_, rfl, fun z hz h => ?_, fun e he h => ?_, fun z hz h => ?_⟩
      · rw [if_pos q, if_neg (by decide), q_oe hA hc hi ho, bnd1_e, shr2 (by omega), q_bit, bnd1_e, nI_1]
      · rw [bt_add (by omega) (by omega), h1 z hz h]; rfl
      · have hoe := (ot_is hV (show e < 4 * c by omega)).1
        rw [bt_add (by omega) (by omega)]
        by_cases z : e = i
        · subst z; simp
        · rw [h2 e (by omega) h]; rfl
      · rw [bt_add (by omega) (by omega)] at h
        rcases (by simpa using h : bt x z = true ∨ z = ot c f i / 4) with h | h
        · exact h3 z hz h
        · rw [h, ← rX_end t1, ot_f hV hi, rX_end hi]
          exact h3 _ (by omega) q
    · refine ⟨x, nI (i + 1), ?_, rfl, h1, fun e he h => ?_, h3⟩
      · rw [if_neg q, if_pos rfl, nI_1]
      · by_cases z : e = i
        · subst z
          exact absurd (h1 _ (by omega) h) q
        · exact h2 e (by omega) h
  · obtain ⟨rfl, h1, h2, h3⟩ := hI
    refine ⟨x, ?_, h1, h2, h3⟩
    unfold kX5_partOf_L2
    rw [if_pos (nI_le (Nat.le_refl _) (by omega))]
theorem q_partOf {a : Nat → Int32} {c o : Nat} {f : Nat → Nat} (hA : Rp a f) (hV : Vd c o f) {s : Nat} (hs : s < c) : ∃ m, kX5_partOf (nI s) (nI c) a = some m ∧ ∀ x, x < c → (bt m x = true ↔ rX c f x = rX c f s) := by
  have hc := hV.1
  unfold kX5_partOf
  rw [q_bit, bnd1_e, q_endCount, bnd1_e]
  refine it2_inv (fun i x y => y = nI (i + 1) ∧ bt x s = true ∧ (∀ z, z < c → bt x z = true → rX c f z = rX c f s) ∧ (clo c f x ∨ i + 1 ≤ fb_ct (bt x) c)) (fun r => ∃ m, r = some m ∧ ∀ x, x < c → (bt m x = true ↔ rX c f x = rX c f s)) (c - 1) (fun K i x y hi hI => ?_) (fun K x y hI => ?_) ⟨rfl, ?_, fun z hz h => ?_, Or.inr ?_⟩ (by omega)
  · obtain ⟨rfl, h1, h2, h3⟩ := hI
    obtain ⟨m', e1, g1, g2, g3⟩ := q_round hA hV x s h2 K (nI (i + 1))
    refine ⟨m', nI (i + 1 + 1), ?_, rfl, g1 s hs h1, g3, ?_⟩
    · unfold kX5_partOf_L1
      rw [if_neg (nI_ge (by omega) (by omega)), e1, nI_1]
    · by_cases hsame : ∀ z, z < c → bt m' z = true → bt x z = true
      · left
        intro e he h
        exact g2 e he (hsame _ (by omega) h)
      · right
        have hx : ∃ z, z < c ∧ bt m' z = true ∧ bt x z = false := by
          refine Classical.byContradiction (fun hn => hsame (fun z hz h => ?_))
          cases q : bt x z with
          | true => rfl
          | false => exact absurd ⟨z, hz, h, q⟩ hn
        obtain ⟨z, hz, b1, b2⟩ := hx
        rcases h3 with h3 | h3
        · -- closed already: but then nothing new comes
          exact absurd (clo_is hV hs h1 h3 z hz (g3 z hz b1)) (by rw [b2]; decide)
        · have u := fb_ct_upd (bt x) true (i := z) (n := c) hz
          have le : fb_ct (fun k => if k = z then true else bt x k) c ≤ fb_ct (bt m') c := fb_ct_sub (fun k hk h => by
            by_cases q : k = z
            · rw [q]; exact b1
            · simp only [if_neg q] at h; exact g1 k hk h)
          rw [b2] at u
          have u : fb_ct (fun k => if k = z then true else bt x k) c + 0 = fb_ct (bt x) c + 1 := u
          omega
  · obtain ⟨rfl, h1, h2, h3⟩ := hI
    have hcl : clo c f x := by
      rcases h3 with h3 | h3
      · exact h3
      · have hall := fb_ct_all.mp (Nat.le_antisymm (fb_ct_le (bt x) c) (by omega))
        intro e he _
        exact hall _ (by have := (ot_is hV he).1; omega)
    refine ⟨x, ?_, fun z hz => ⟨h2 z hz, clo_is hV hs h1 hcl z hz⟩⟩
    unfold kX5_partOf_L1
    rw [if_pos (nI_le (by omega) (by omega))]
  · rw [bt_bit (by omega) (by omega)]; simp
  · rw [bt_bit (by omega) (by omega)] at h
    rw [show z = s by simpa using h]
  · have : 0 < fb_ct (bt (ishl 1 (nI s))) c := fb_ct_pos.mpr ⟨s, hs, by rw [bt_bit (by omega) (by omega)]; simp⟩
    omega
theorem q_parts {a : Nat → Int32} {c o : Nat} {f : Nat → Nat} (hA : Rp a f) (hV : Vd c o f) : kX5_crossingParts (nI c) a = some (nI (nCl c f 1)) := by
  have hc := hV.1
  rw [nCl_parts hV]
  unfold kX5_crossingParts
  refine it3_inv (fun i x y z => z = nI i ∧ y = nI (fb_ct (fun x => !occB (rX c f) (rX c f x) x) i) ∧ ∀ e, e < c → (bt x e = true ↔ occB (rX c f) (rX c f e) i = true)) (fun r => r = some (nI (fb_ct (fun x => !occB (rX c f) (rX c f x) x) c))) c (fun K i x y z hi hI => ?_) (fun K x y z hI => ?_) ⟨rfl, rfl, fun e he => ?_⟩ (by omega)
  · obtain ⟨rfl, rfl, hS⟩ := hI
    have s1 := fb_ct_succ (fun x => !occB (rX c f) (rX c f x) x) i
    unfold kX5_crossingParts_L1
    rw [if_neg (nI_ge hi (by omega)), q_contains (by omega), bnd1_e]
    by_cases b1 : bt x i = true
    · have b2 := (hS i hi).mp b1
      refine ⟨x, nI (fb_ct (fun x => !occB (rX c f) (rX c f x) x) (i + 1)), nI (i + 1), ?_, rfl, rfl, fun e he => ?_⟩
      · rw [if_pos b1, if_neg (by decide), s1, b2, nI_1]; rfl
      · rw [hS e he]
        show _ ↔ (occB _ _ i || _) = true
        rw [Bool.or_eq_true, beq_iff_eq]
        exact ⟨Or.inl, fun q => q.elim id (fun q => by rw [← q]; exact b2)⟩
    · have b2 : occB (rX c f) (rX c f i) i = false := by
        cases z : occB (rX c f) (rX c f i) i with
        | false => rfl
        | true => exact absurd ((hS i hi).mpr z) b1
      obtain ⟨m, e1, e2⟩ := q_partOf hA hV hi
      refine ⟨x ||| m, nI (fb_ct (fun x => !occB (rX c f) (rX c f x) x) (i + 1)), nI (i + 1), ?_, rfl, rfl, fun e he => ?_⟩
      · rw [if_neg b1, if_pos rfl, e1, bnd1_e, s1, b2, nI_1, nI_1]; rfl
      · rw [b_or, Bool.or_eq_true, hS e he, e2 e he]
        show _ ↔ (occB _ _ i || _) = true
        rw [Bool.or_eq_true, beq_iff_eq]
        exact ⟨fun q => q.elim Or.inl (fun q => Or.inr q.symm), fun q => q.elim Or.inl (fun q => Or.inr q.symm)⟩
  · obtain ⟨rfl, rfl, hS⟩ := hI
    unfold kX5_crossingParts_L1
    rw [if_pos (nI_le (Nat.le_refl _) (by omega))]
  · rw [b_0]
    exact ⟨fun h => (by cases h), fun h => (by cases h)⟩
