/-! ===== the bigon's colourings; bounds of the dimension ===== -/
theorem Eo_loc {c p v w a b : Nat} (ha : a / 4 = v ∨ a / 4 = w) (hb : b / 4 = v ∨ b / 4 = w) (y y' : Nat → Nat) (h : ∀ e, e ≠ a → e ≠ b → y e = y' e) : (∀ u, u < c → (u ≠ v ∧ u ≠ w) → CE p y u) ↔ ∀ u, u < c → (u ≠ v ∧ u ≠ w) → CE p y' u := by
  have key : ∀ u, (u ≠ v ∧ u ≠ w) → (CE p y u ↔ CE p y' u) := fun u hu => by
    have n : ∀ i, i < 4 → y (4 * u + i) = y' (4 * u + i) := fun i hi => h _ (by omega) (by omega)
    have n0 := n 0 (by omega)
    simp only [Nat.add_zero] at n0
    unfold CE
    rw [n0, n 1 (by omega), n 2 (by omega), n 3 (by omega)]
  exact ⟨fun z u h1 h2 => (key u h2).mp (z u h1 h2), fun z u h1 h2 => (key u h2).mpr (z u h1 h2)⟩
theorem ColV.same {V V' : Nat → Bool} {f : Nat → Nat} {p : Nat} {E E' : (Nat → Nat) → Prop} (hV : ∀ x, V x = V' x) (hE : ∀ y, E y ↔ E' y) (y : Nat → Nat) : ColV V f p E y ↔ ColV V' f p E' y := by
  have e : V = V' := funext hV
  subst e
  unfold ColV
  rw [hE]
theorem nu2 {c v w : Nat} (hv : v < c) (hw : w < c) (hvw : v ≠ w) : (∀ u i, i < 4 → dl (max v w) (dl (min v w) (4 * u + i)) = 4 * (if (if u < min v w then u else u + 1) < max v w then (if u < min v w then u else u + 1) else (if u < min v w then u else u + 1) + 1) + i) ∧ (∀ u, u < c - 1 - 1 → (if (if u < min v w then u else u + 1) < max v w then (if u < min v w then u else u + 1) else (if u < min v w then u else u + 1) + 1) < c ∧ (if (if u < min v w then u else u + 1) < max v w then (if u < min v w then u else u + 1) else (if u < min v w then u else u + 1) + 1) ≠ v ∧ (if (if u < min v w then u else u + 1) < max v w then (if u < min v w then u else u + 1) else (if u < min v w then u else u + 1) + 1) ≠ w) ∧ ∀ u, u < c → (u ≠ v ∧ u ≠ w) → ∃ u', u' < c - 1 - 1 ∧ (if (if u' < min v w then u' else u' + 1) < max v w then (if u' < min v w then u' else u' + 1) else (if u' < min v w then u' else u' + 1) + 1) = u := by
  refine ⟨fun u i hi => ?_, fun u hu => ?_, fun u hu hne => ?_⟩
  · rw [dl_4 _ _ _ hi, dl_4 _ _ _ hi]
  · by_cases z : u < min v w
    · rw [if_pos z, if_pos (by omega)]; omega
    · rw [if_neg z]
      by_cases y : u + 1 < max v w
      · rw [if_pos y]; omega
      · rw [if_neg y]; omega
  · by_cases z : u < min v w
    · exact ⟨u, by omega, by rw [if_pos z, if_pos (by omega)]⟩
    · by_cases y : u < max v w
      · have e : (if u - 1 < min v w then u - 1 else u - 1 + 1) = u := by rw [if_neg (by omega)]; omega
        exact ⟨u - 1, by omega, by rw [e, if_pos y]⟩
      · have e : (if u - 2 < min v w then u - 2 else u - 2 + 1) = u - 1 := by rw [if_neg (by omega)]; omega
        exact ⟨u - 2, by omega, by rw [e, if_neg (by omega)]; omega⟩
theorem bigon_col {c o p n : Nat} {f : Nat → Nat} (hp : isP p) (hV : Vd c o f) {v w i j : Nat} (hv : v < c) (hw : w < c) (hvw : v ≠ w) (hi : i < 4) (hj : j < 4) (hE : bE f v w (4 * i + j)) (ho : (bgD (c, o, f) v w (4 * i + j)).2.1 ≤ 4) (h : HC (Col (c - 1 - 1) (bgD (c, o, f) v w (4 * i + j)).2.2 p) n) :
    HC (Col c f p) (n * p ^ jnO (jnF f (en v (i + 2)) (en w (j + 3))) (en v (i + 3)) (en w (j + 2)) * p ^ jnO f (en v (i + 2)) (en w (j + 3))) := by
  have hp0 := (isP_lt hp).1
  have hW : Vd (c - 1 - 1) (bgD (c, o, f) v w (4 * i + j)).2.1 (bgD (c, o, f) v w (4 * i + j)).2.2 := bg_VS (d := (c, o, f)) hV hv hw hvw (by omega) hE ho
  have ei : (4 * i + j) / 4 = i := by omega
  have ej : (4 * i + j) % 4 = j := by omega
  obtain ⟨hpar, hE1, hE2⟩ := hE
  rw [ei, ej] at hE1 hE2 hpar
  have ef : (bgD (c, o, f) v w (4 * i + j)).2.2 = drp (drp (jnF (jnF f (en v (i + 2)) (en w (j + 3))) (en v (i + 3)) (en w (j + 2))) (max v w)) (min v w) := by
    show drp (drp (bgG f v w (4 * i + j)) (max v w)) (min v w) = _
    unfold bgG bgF
    rw [ei, ej]
  have lv : ∀ k, Vlt (4 * c) (en v k) = true := fun k => Vlt_iff.mpr (en_lt4 hv)
  have lw : ∀ k, Vlt (4 * c) (en w k) = true := fun k => Vlt_iff.mpr (en_lt4 hw)
  have vw : ∀ a b, en v a ≠ en w b := fun a b => by unfold en; omega
  have nX : en v i ≠ en v (i + 1) ∧ en v (i + 2) ≠ en v i ∧ en v (i + 2) ≠ en v (i + 1) ∧ en v (i + 3) ≠ en v i ∧ en v (i + 3) ≠ en v (i + 1) ∧ en v (i + 3) ≠ en v (i + 2) := by unfold en; omega
  have nY : en w j ≠ en w (j + 1) ∧ en w (j + 2) ≠ en w j ∧ en w (j + 2) ≠ en w (j + 1) ∧ en w (j + 3) ≠ en w j ∧ en w (j + 3) ≠ en w (j + 1) ∧ en w (j + 2) ≠ en w (j + 3) := by unfold en; omega
  have m1 := mt_del (mt_V hV) (lv i) (lw (j + 1)) (vw _ _) hE1
  have vX1 : dl2 (Vlt (4 * c)) (en v i) (en w (j + 1)) (en v (i + 1)) = true := dl2_iff.mpr ⟨lv _, fun z => nX.1 z.symm, vw _ _⟩
  have vY0 : dl2 (Vlt (4 * c)) (en v i) (en w (j + 1)) (en w j) = true := dl2_iff.mpr ⟨lw _, fun z => vw _ _ z.symm, nY.1⟩
  have m2 := mt_del (V := dl2 (Vlt (4 * c)) (en v i) (en w (j + 1))) m1 vX1 vY0 (vw _ _) hE2
  have vX2 : dl2 (dl2 (Vlt (4 * c)) (en v i) (en w (j + 1))) (en v (i + 1)) (en w j) (en v (i + 2)) = true := dl2_iff.mpr ⟨dl2_iff.mpr ⟨lv _, nX.2.1, vw _ _⟩, nX.2.2.1, vw _ _⟩
  have vX3 : dl2 (dl2 (Vlt (4 * c)) (en v i) (en w (j + 1))) (en v (i + 1)) (en w j) (en v (i + 3)) = true := dl2_iff.mpr ⟨dl2_iff.mpr ⟨lv _, nX.2.2.2.1, vw _ _⟩, nX.2.2.2.2.1, vw _ _⟩
  have vY2 : dl2 (dl2 (Vlt (4 * c)) (en v i) (en w (j + 1))) (en v (i + 1)) (en w j) (en w (j + 2)) = true := dl2_iff.mpr ⟨dl2_iff.mpr ⟨lw _, fun z => vw _ _ z.symm, nY.2.2.1⟩, fun z => vw _ _ z.symm, nY.2.1⟩
  have vY3 : dl2 (dl2 (Vlt (4 * c)) (en v i) (en w (j + 1))) (en v (i + 1)) (en w j) (en w (j + 3)) = true := dl2_iff.mpr ⟨dl2_iff.mpr ⟨lw _, fun z => vw _ _ z.symm, nY.2.2.2.2.1⟩, fun z => vw _ _ z.symm, nY.2.2.2.1⟩
  have m3 := mt_jn (V := dl2 (dl2 (Vlt (4 * c)) (en v i) (en w (j + 1))) (en v (i + 1)) (en w j)) m2 vX2 vY3 (vw _ _)
  have vX3' : dl2 (dl2 (dl2 (Vlt (4 * c)) (en v i) (en w (j + 1))) (en v (i + 1)) (en w j)) (en v (i + 2)) (en w (j + 3)) (en v (i + 3)) = true := dl2_iff.mpr ⟨vX3, nX.2.2.2.2.2, vw _ _⟩
  have vY2' : dl2 (dl2 (dl2 (Vlt (4 * c)) (en v i) (en w (j + 1))) (en v (i + 1)) (en w j)) (en v (i + 2)) (en w (j + 3)) (en w (j + 2)) = true := dl2_iff.mpr ⟨vY2, fun z => vw _ _ z.symm, nY.2.2.2.2.2⟩
  have vv : ∀ x, dl2 (dl2 (dl2 (dl2 (Vlt (4 * c)) (en v i) (en w (j + 1))) (en v (i + 1)) (en w j)) (en v (i + 2)) (en w (j + 3))) (en v (i + 3)) (en w (j + 2)) x = true ↔ x < 4 * c ∧ x / 4 ≠ v ∧ x / 4 ≠ w := fun x => by
    rw [dl2_iff, dl2_iff, dl2_iff, dl2_iff, Vlt_iff]
    have a := en4 v x hi
    have b := en4 w x hj
    constructor
    · rintro ⟨⟨⟨⟨h0, h5, h6⟩, h7, h8⟩, h1, h2⟩, h3, h4⟩
      exact ⟨h0, a.mp ⟨h5, h7, h1, h3⟩, b.mp ⟨h8, h6, h4, h2⟩⟩
    · rintro ⟨h0, h1, h2⟩
      obtain ⟨a1, a2, a3, a4⟩ := a.mpr h1
      obtain ⟨b1, b2, b3, b4⟩ := b.mpr h2
      exact ⟨⟨⟨⟨h0, a1, b2⟩, a2, b1⟩, a3, b4⟩, a4, b3⟩
  obtain ⟨u1, u2, u3⟩ := nu2 (c := c) hv hw hvw
  have s1 : HC (ColV (dl2 (dl2 (dl2 (dl2 (Vlt (4 * c)) (en v i) (en w (j + 1))) (en v (i + 1)) (en w j)) (en v (i + 2)) (en w (j + 3))) (en v (i + 3)) (en w (j + 2))) (jnF (jnF f (en v (i + 2)) (en w (j + 3))) (en v (i + 3)) (en w (j + 2))) p (fun y => ∀ u, u < c → (u ≠ v ∧ u ≠ w) → CE p y u)) n := by
    refine col_move (c := c) (c' := c - 1 - 1) (g := (bgD (c, o, f) v w (4 * i + j)).2.2) (de := fun x => dl (max v w) (dl (min v w) x)) (ga := fun x => dm (min v w) (dm (max v w) x)) (Out := fun u => u ≠ v ∧ u ≠ w) (by omega) (fun y => Iff.rfl) (fun x hx => ⟨(vv _).mpr ⟨(dl_dl_lt hv hw hvw x).mpr hx, (dl_dl_ne hvw x).1, (dl_dl_ne hvw x).2⟩, ?_, ?_⟩) (fun e he => ?_) (fun u i _ hi => u1 u i hi) (fun u hu => u2 u hu) (fun u hu hne => u3 u hu hne) (h.congr (fun y => col_V hW y))
    · show dm (min v w) (dm (max v w) (dl (max v w) (dl (min v w) x))) = x
      rw [dm_dl, dm_dl]
    · rw [ef, dl_drp, dl_drp]
    · obtain ⟨h1, h2, h3⟩ := (vv e).mp he
      have k1 : e / 4 ≠ max v w := by omega
      have k2 : dm (max v w) e / 4 ≠ min v w := by
        unfold dm
        by_cases t : e < 4 * max v w
        · rw [if_pos t]; omega
        · rw [if_neg t]; omega
      have k3 := dm_lt (show max v w < c by omega) h1 k1
      have k4 := dm_lt (show min v w < c - 1 by omega) k3 k2
      refine ⟨k4, ?_⟩
      show dl (max v w) (dl (min v w) (dm (min v w) (dm (max v w) e))) = e
      rw [dl_dm k2, dl_dm k1]
  have s2 := col_jn (p := p) (V := dl2 (dl2 (dl2 (Vlt (4 * c)) (en v i) (en w (j + 1))) (en v (i + 1)) (en w j)) (en v (i + 2)) (en w (j + 3))) (E := fun y => ∀ u, u < c → (u ≠ v ∧ u ≠ w) → CE p y u) (by omega) m3 vX3' vY2' (vw _ _) (fun y y' hy => Eo_loc (Or.inl (en_div v _)) (Or.inr (en_div w _)) y y' hy) s1
  have s3 := col_jn (p := p) (V := dl2 (dl2 (Vlt (4 * c)) (en v i) (en w (j + 1))) (en v (i + 1)) (en w j)) (E := fun y => (∀ u, u < c → (u ≠ v ∧ u ≠ w) → CE p y u) ∧ y (en v (i + 3)) = y (en w (j + 2))) (by omega) m2 vX2 vY3 (vw _ _) (fun y y' hy => by
    have a := Eo_loc (c := c) (p := p) (Or.inl (en_div v (i + 2))) (Or.inr (en_div w (j + 3))) y y' hy
    have b := hy (en v (i + 3)) nX.2.2.2.2.2 (vw _ _)
    have d := hy (en w (j + 2)) (fun z => vw _ _ z.symm) nY.2.2.2.2.2
    rw [b, d]
    exact ⟨fun z => ⟨a.mp z.1, z.2⟩, fun z => ⟨a.mpr z.1, z.2⟩⟩) s2
  have ltv : ∀ k, en v k < 4 * c := fun k => en_lt4 hv
  have ltw : ∀ k, en w k < 4 * c := fun k => en_lt4 hw
  by_cases par : i % 2 = 0
  · refine bigon_fill (O := en v (i + 1)) (O' := en w j) (U := en v i) (U' := en w (j + 1)) (Q := en v (i + 3)) (Q' := en w (j + 2)) (R := en v (i + 2)) (R' := en w (j + 3)) hp hV hv hw hvw ⟨ltv _, ltw _, ltv _, ltw _, ltv _, ltw _, ltv _, ltw _⟩ ⟨en_div v _, en_div v _, en_div v _, en_div v _⟩ ⟨en_div w _, en_div w _, en_div w _, en_div w _⟩ ⟨fun z => nX.2.2.2.2.1 z.symm, fun z => nX.1 z.symm, fun z => nX.2.2.1 z.symm, nX.2.2.2.1, nX.2.2.2.2.2, fun z => nX.2.1 z.symm⟩ ⟨fun z => nY.2.1 z.symm, nY.1, fun z => nY.2.2.2.1 z.symm, nY.2.2.1, nY.2.2.2.2.2, fun z => nY.2.2.2.2.1 z.symm⟩ hE2 hE1 (fun y => ?_) (fun y => ?_) (s3.congr (fun y => ColV.same (fun x => ?_) (fun y => ?_) y))
    · rw [CE_en hi, if_pos par]
    · rw [CE_en hj, if_neg (by omega)]
    · unfold dl2
      cases Vlt (4 * c) x <;> cases (x == en v i) <;> cases (x == en w (j + 1)) <;> cases (x == en v (i + 1)) <;> cases (x == en w j) <;> rfl
    · exact ⟨fun z => ⟨z.1.1, z.2, z.1.2⟩, fun z => ⟨⟨z.1, z.2.2⟩, z.2.1⟩⟩
  · refine bigon_fill (O := en v i) (O' := en w (j + 1)) (U := en v (i + 1)) (U' := en w j) (Q := en v (i + 2)) (Q' := en w (j + 3)) (R := en v (i + 3)) (R' := en w (j + 2)) hp hV hv hw hvw ⟨ltv _, ltw _, ltv _, ltw _, ltv _, ltw _, ltv _, ltw _⟩ ⟨en_div v _, en_div v _, en_div v _, en_div v _⟩ ⟨en_div w _, en_div w _, en_div w _, en_div w _⟩ ⟨fun z => nX.2.1 z.symm, nX.1, fun z => nX.2.2.2.1 z.symm, nX.2.2.1, fun z => nX.2.2.2.2.2 z.symm, fun z => nX.2.2.2.2.1 z.symm⟩ ⟨fun z => nY.2.2.2.2.1 z.symm, fun z => nY.1 z.symm, fun z => nY.2.2.1 z.symm, nY.2.2.2.1, fun z => nY.2.2.2.2.2 z.symm, fun z => nY.2.1 z.symm⟩ hE1 hE2 (fun y => ?_) (fun y => ?_) (s3.congr (fun y => ColV.same (fun x => ?_) (fun y => ?_) y))
    · rw [CE_en hi, if_neg par]
    · rw [CE_en hj, if_pos (by omega)]
    · unfold dl2
      cases Vlt (4 * c) x <;> cases (x == en v i) <;> cases (x == en w (j + 1)) <;> cases (x == en v (i + 1)) <;> cases (x == en w j) <;> rfl
    · exact ⟨fun z => ⟨z.1.1, z.1.2, z.2⟩, fun z => ⟨⟨z.1, z.2.1⟩, z.2.2⟩⟩
/-! bounds -/
theorem col_low {c o p a : Nat} {f : Nat → Nat} (hp : isP p) (hV : Vd c o f) (hc : 0 < c) (h : HC (Col c f p) (p ^ a)) : 1 ≤ a := by
  have hp0 := (isP_lt hp).1
  have ht := ot_inv hV
  have k : HC (fun y => ∃ t, t < p ∧ y = fun e => if e < 4 * c then t else 0) p := by
    refine ⟨fun t e => if e < 4 * c then t else 0, fun i hi => ⟨i, hi, rfl⟩, fun i j hi hj e => ?_, fun x ⟨t, ht, e⟩ => ⟨t, ht, e.symm⟩⟩
    have := congrFun e 0
    simp only [if_pos (show 0 < 4 * c by omega)] at this
    exact this
  have := k.le h (fun y => y) (fun y hy => by
    obtain ⟨t, ht2, rfl⟩ := hy
    refine ⟨fun e he => if_neg (by omega), fun e => ?_, fun e he => ?_, fun w hw => ⟨?_, ?_⟩⟩
    · show (if e < 4 * c then t else 0) < p
      by_cases z : e < 4 * c
      · rw [if_pos z]; exact ht2
      · rw [if_neg z]; omega
    · show (if ot c f e < 4 * c then t else 0) = (if e < 4 * c then t else 0)
      rw [if_pos (ht e he).1, if_pos he]
    · show (if 4 * w + 1 < 4 * c then t else 0) = (if 4 * w + 3 < 4 * c then t else 0)
      rw [if_pos (by omega), if_pos (by omega)]
    · show ((if 4 * w < 4 * c then t else 0) + (if 4 * w + 2 < 4 * c then t else 0)) % p = (2 * (if 4 * w + 1 < 4 * c then t else 0)) % p
      rw [if_pos (by omega), if_pos (by omega), if_pos (by omega)]
      congr 1
      omega) (fun _ _ _ _ e => e)
  rcases Nat.eq_zero_or_pos a with z | z
  · rw [z, Nat.pow_zero] at this; omega
  · exact z
theorem HC_free {p : Nat} (hp : 0 < p) (K : Nat → Bool) : ∀ n, HC (fun y => (∀ j, (n ≤ j ∨ K j = false) → y j = 0) ∧ ∀ j, y j < p) (p ^ fb_ct K n)
  | 0 => ⟨fun _ _ => 0, fun _ _ => ⟨fun _ _ => rfl, fun _ => hp⟩, fun i j hi hj _ => by
      have hi : i < p ^ 0 := hi
      have hj : j < p ^ 0 := hj
      rw [Nat.pow_zero] at hi hj
      omega, fun x hx => ⟨0, by show 0 < p ^ 0; rw [Nat.pow_zero]; omega, funext (fun j => (hx.1 j (Or.inl (Nat.zero_le _))).symm)⟩⟩
  | n + 1 => by
    have ih := HC_free hp K n
    rw [fb_ct_succ]
    cases k : K n with
    | false =>
      show HC _ (p ^ (fb_ct K n + 0))
      refine ih.congr (fun y => ⟨fun h => ⟨fun j hj => h.1 j (hj.imp (fun z => by omega) (fun z => z)), h.2⟩, fun h => ⟨fun j hj => ?_, h.2⟩⟩)
      by_cases z : j = n
      · exact h.1 j (Or.inr (by rw [z]; exact k))
      · exact h.1 j (hj.imp (fun z => by omega) (fun z => z))
    | true =>
      show HC _ (p ^ (fb_ct K n + 1))
      rw [Nat.pow_succ]
      refine ih.mul hp (fun y t j => if j = n then t else y j) (fun y t hy ht => ⟨fun j hj => ?_, fun j => ?_⟩) (fun y y' t u hy hy' ht hu e => ⟨?_, ?_⟩) (fun y hy => ?_)
      · show (if j = n then t else y j) = 0
        by_cases z : j = n
        · rcases hj with hj | hj
          · omega
          · rw [z, k] at hj; cases hj
        · rw [if_neg z]; exact hy.1 j (hj.imp (fun z => by omega) (fun z => z))
      · show (if j = n then t else y j) < p
        by_cases z : j = n
        · rw [if_pos z]; exact ht
        · rw [if_neg z]; exact hy.2 j
      · funext j
        by_cases z : j = n
        · rw [z, hy.1 n (Or.inl (Nat.le_refl _)), hy'.1 n (Or.inl (Nat.le_refl _))]
        · have := congrFun e j
          simp only [if_neg z] at this
          exact this
      · have := congrFun e n
        simp only [if_true] at this
        exact this
      · refine ⟨fun j => if j = n then 0 else y j, y n, ⟨fun j hj => ?_, fun j => ?_⟩, hy.2 n, ?_⟩
        · show (if j = n then 0 else y j) = 0
          by_cases z : j = n
          · rw [if_pos z]
          · rw [if_neg z]; exact hy.1 j (hj.imp (fun z => by omega) (fun z => z))
        · show (if j = n then 0 else y j) < p
          by_cases z : j = n
          · rw [if_pos z]; exact hp
          · rw [if_neg z]; exact hy.2 j
        · funext j
          show (if j = n then y n else if j = n then 0 else y j) = y j
          by_cases z : j = n
          · rw [if_pos z, z]
          · rw [if_neg z, if_neg z]
theorem ct_even {P : Nat → Bool} {t : Nat → Nat} {E : Nat} (h : ∀ x, x < E → P x = true → t x < E ∧ P (t x) = true ∧ t (t x) = x ∧ t x ≠ x) : ∃ k, fb_ct P E = 2 * k := by
  have e : fb_ct P E = fb_ct (fun x => (P x && decide (x < t x)) || (P x && !decide (x < t x))) E := fb_ct_cong (fun x _ => by cases P x <;> cases decide (x < t x) <;> rfl)
  rw [fb_ct_or (fun x _ => by cases P x <;> cases decide (x < t x) <;> simp)] at e
  have h1 : fb_ct (fun x => P x && decide (x < t x)) E ≤ fb_ct (fun x => P x && !decide (x < t x)) E := by
    refine ct_inj (g := t) (fun x hx hp => ?_) (fun x y hx hy px py q => ?_)
    · rw [Bool.and_eq_true] at hp
      obtain ⟨a, b, d, g⟩ := h x hx hp.1
      have := of_decide_eq_true hp.2
      refine ⟨a, ?_⟩
      rw [b, d]
      simp; omega
    · rw [Bool.and_eq_true] at px py
      have := congrArg t q
      rw [(h x hx px.1).2.2.1, (h y hy py.1).2.2.1] at this
      exact this
  have h2 : fb_ct (fun x => P x && !decide (x < t x)) E ≤ fb_ct (fun x => P x && decide (x < t x)) E := by
    refine ct_inj (g := t) (fun x hx hp => ?_) (fun x y hx hy px py q => ?_)
    · rw [Bool.and_eq_true] at hp
      obtain ⟨a, b, d, g⟩ := h x hx hp.1
      have : ¬ x < t x := by simpa using hp.2
      refine ⟨a, ?_⟩
      rw [b, d]
      simp; omega
    · rw [Bool.and_eq_true] at px py
      have := congrArg t q
      rw [(h x hx px.1).2.2.1, (h y hy py.1).2.2.1] at this
      exact this
  exact ⟨fb_ct (fun x => P x && decide (x < t x)) E, by omega⟩
def uR (c : Nat) (f : Nat → Nat) : Nat → Nat → Prop := fun a b => a < 4 * c ∧ (b = ot c f a ∨ (a % 2 = 1 ∧ b = tn 2 a))
def undV (c : Nat) : Nat → Bool := fun x => Vlt (4 * c) x && (x % 2 == 0)
theorem und_ct : ∀ c, fb_ct (fun x => x % 2 == 0) (4 * c) = 2 * c
  | 0 => rfl
  | c + 1 => by
    rw [show 4 * (c + 1) = 4 * c + 4 by omega, fb_ct_split, und_ct c]
    have : fb_ct (fun k => (fun x => x % 2 == 0) (4 * c + k)) 4 = fb_ct (fun k => k % 2 == 0) 4 := fb_ct_cong (fun k _ => by
      show ((4 * c + k) % 2 == 0) = (k % 2 == 0)
      rw [show (4 * c + k) % 2 = k % 2 by omega])
    rw [this]
    have : fb_ct (fun k => k % 2 == 0) 4 = 2 := by decide
    rw [this]
    omega
theorem und_classes {c o : Nat} {f : Nat → Nat} (hV : Vd c o f) : cc (undV c) (uR c f) (4 * c) ≤ c := by
  have ht := ot_inv hV
  have inU : ∀ x, undV c x = true ↔ x < 4 * c ∧ x % 2 = 0 := fun x => by unfold undV; rw [Bool.and_eq_true, Vlt_iff, beq_iff_eq]
  have hU : fb_ct (undV c) (4 * c) = 2 * c := by
    rw [← und_ct c]
    refine fb_ct_cong (fun x hx => ?_)
    unfold undV
    rw [Vlt_iff.mpr hx]; rfl
  have other : ∀ u, undV c u = true → ∃ y, undV c y = true ∧ y ≠ u ∧ Con (uR c f) u y := fun u hu => by
    obtain ⟨u1, u2⟩ := (inU u).mp hu
    have cl : ∀ x, Con (uR c f) u x → x < 4 * c → Con (uR c f) u (ot c f x) := fun x h hx => h.tr (Con.of ⟨hx, Or.inl rfl⟩)
    obtain ⟨h1, e1⟩ := ct_even (P := fun x => dcd (Con (uR c f) u x)) (t := ot c f) (E := 4 * c) (fun x hx hp => by
      have hp := dcd_iff.mp hp
      exact ⟨(ht x hx).1, dcd_iff.mpr (cl x hp hx), (ht x hx).2.1, (ht x hx).2.2⟩)
    obtain ⟨h2, e2⟩ := ct_even (P := fun x => dcd (Con (uR c f) u x) && (x % 2 == 1)) (t := tn 2) (E := 4 * c) (fun x hx hp => by
      rw [Bool.and_eq_true, beq_iff_eq] at hp
      have hp1 := dcd_iff.mp hp.1
      have o2 : tn 2 x % 2 = 1 := by unfold tn; omega
      refine ⟨tn_lt hx, ?_, by unfold tn; omega, by unfold tn; omega⟩
      show (dcd (Con (uR c f) u (tn 2 x)) && (tn 2 x % 2 == 1)) = true
      rw [Bool.and_eq_true, beq_iff_eq]
      exact ⟨dcd_iff.mpr (hp1.tr (Con.of ⟨hx, Or.inr ⟨hp.2, rfl⟩⟩)), o2⟩)
    have sp : fb_ct (fun x => dcd (Con (uR c f) u x)) (4 * c) = fb_ct (fun x => dcd (Con (uR c f) u x) && (x % 2 == 0)) (4 * c) + fb_ct (fun x => dcd (Con (uR c f) u x) && (x % 2 == 1)) (4 * c) := by
      rw [← fb_ct_or (fun x _ => by
        rcases (show x % 2 = 0 ∨ x % 2 = 1 by omega) with z | z <;> rw [z] <;> cases dcd (Con (uR c f) u x) <;> simp)]
      refine fb_ct_cong (fun x _ => ?_)
      rcases (show x % 2 = 0 ∨ x % 2 = 1 by omega) with z | z <;> rw [z] <;> cases dcd (Con (uR c f) u x) <;> rfl
    have one := cc_one_out (p := fun x => dcd (Con (uR c f) u x) && (x % 2 == 0)) (q := fun x => (dcd (Con (uR c f) u x) && (x % 2 == 0)) && !(x == u)) (M := 4 * c) (w := u) u1 (by
      show (dcd (Con (uR c f) u u) && (u % 2 == 0)) = true
      rw [dcd_iff.mpr Con.rf, u2]; rfl) (fun x _ => by simp)
    have pos : 0 < fb_ct (fun x => (dcd (Con (uR c f) u x) && (x % 2 == 0)) && !(x == u)) (4 * c) := by omega
    obtain ⟨y, y1, y2⟩ := fb_ct_pos.mp pos
    rw [Bool.and_eq_true, Bool.and_eq_true, beq_iff_eq] at y2
    exact ⟨y, (inU y).mpr ⟨y1, y2.1.2⟩, by simpa using y2.2, dcd_iff.mp y2.1.1⟩
  have le : cc (undV c) (uR c f) (4 * c) ≤ fb_ct (fun x => undV c x && !dcd (rep (undV c) (uR c f) x)) (4 * c) := by
    refine ct_inj_ex (fun x y => Con (uR c f) x y) (fun x hx hp => ?_) (fun x x2 y hx hx2 hp hp2 r1 r2 => rep_only (dcd_iff.mp hp) (dcd_iff.mp hp2) (r1.tr r2.sy))
    have r := dcd_iff.mp hp
    obtain ⟨y, y1, y2, y3⟩ := other x r.1
    refine ⟨y, ((inU y).mp y1).1, ?_, y3⟩
    rw [Bool.and_eq_true, Bool.not_eq_true', ← Bool.not_eq_true, dcd_iff]
    exact ⟨y1, fun r2 => y2 (rep_only r r2 y3).symm⟩
  have sp : fb_ct (undV c) (4 * c) = cc (undV c) (uR c f) (4 * c) + fb_ct (fun x => undV c x && !dcd (rep (undV c) (uR c f) x)) (4 * c) := by
    unfold cc
    rw [← fb_ct_or (fun x _ => by cases dcd (rep (undV c) (uR c f) x) <;> simp)]
    refine fb_ct_cong (fun x _ => ?_)
    by_cases z : rep (undV c) (uR c f) x
    · rw [dcd_iff.mpr z, z.1]; rfl
    · rw [Bool.eq_false_iff.mpr (fun w => z (dcd_iff.mp w))]; cases undV c x <;> rfl
  omega
theorem odd_half {p a b q : Nat} (hp : isP p) (ha : a < p) (hb : b < p) (h : q = (2 * a) % p) (h' : q = (2 * b) % p) : a = b := by
  rcases hp with rfl | rfl | rfl | rfl <;> omega
theorem col_high {c o p a : Nat} {f : Nat → Nat} (hp : isP p) (hV : Vd c o f) (h : HC (Col c f p) (p ^ a)) : a ≤ c := by
  have hp0 := (isP_lt hp).1
  have ht := ot_inv hV
  have k := HC_free (p := p) (by omega) (fun x => dcd (rep (undV c) (uR c f) x)) (4 * c)
  have inU : ∀ x, undV c x = true ↔ x < 4 * c ∧ x % 2 = 0 := fun x => by unfold undV; rw [Bool.and_eq_true, Vlt_iff, beq_iff_eq]
  have le := h.le k (fun y x => if dcd (rep (undV c) (uR c f) x) = true then y x else 0) (fun y hy => ⟨fun j hj => ?_, fun j => ?_⟩) (fun y y' hy hy' e => ?_)
  · have und := und_classes hV
    have e1 : fb_ct (fun x => dcd (rep (undV c) (uR c f) x)) (4 * c) = cc (undV c) (uR c f) (4 * c) := rfl
    rw [e1] at le
    have : p ^ a ≤ p ^ c := Nat.le_trans le (Nat.pow_le_pow_right (by omega) und)
    exact (Nat.pow_le_pow_iff_right (by omega)).mp this
  · show (if dcd (rep (undV c) (uR c f) j) = true then y j else 0) = 0
    by_cases z : dcd (rep (undV c) (uR c f) j) = true
    · rcases hj with hj | hj
      · have := ((inU j).mp (dcd_iff.mp z).1).1
        omega
      · rw [z] at hj; cases hj
    · rw [if_neg z]
  · show (if dcd (rep (undV c) (uR c f) j) = true then y j else 0) < p
    by_cases z : dcd (rep (undV c) (uR c f) j) = true
    · rw [if_pos z]; exact hy.2.1 j
    · rw [if_neg z]; omega
  · have const : ∀ y, Col c f p y → ∀ x z, Con (uR c f) x z → y x = y z := fun y hy x z q => (q (fun w => y x = y w) (fun a b r => by
      obtain ⟨ha, rfl | ⟨r1, rfl⟩⟩ := r
      · rw [hy.2.2.1 a ha]
      · have := (hy.2.2.2 (a / 4) (by omega)).1
        have e3 : y (tn 2 a) = y a := by
          rcases (show a = 4 * (a / 4) + 1 ∨ a = 4 * (a / 4) + 3 by omega) with z | z
          · rw [show tn 2 a = 4 * (a / 4) + 3 by unfold tn; omega, ← this, ← z]
          · rw [show tn 2 a = 4 * (a / 4) + 1 by unfold tn; omega, this, ← z]
        rw [e3])).mp rfl
    have und : ∀ x, x < 4 * c → x % 2 = 0 → y x = y' x := fun x hx hx2 => by
      obtain ⟨r, r1, r2, r3⟩ := rep_ex (L := uR c f) ((inU x).mpr ⟨hx, hx2⟩)
      have := congrFun e r
      simp only [if_pos (dcd_iff.mpr r2)] at this
      rw [← const y hy r x r3, ← const y' hy' r x r3]
      exact this
    funext x
    by_cases z : x < 4 * c
    · by_cases z2 : x % 2 = 0
      · exact und x z z2
      · have a := hy.2.2.2 (x / 4) (by omega)
        have b := hy'.2.2.2 (x / 4) (by omega)
        have u0 := und (4 * (x / 4)) (by omega) (by omega)
        have u2 := und (4 * (x / 4) + 2) (by omega) (by omega)
        rw [← u0, ← u2] at b
        have e1 := odd_half hp (hy.2.1 _) (hy'.2.1 _) a.2 b.2
        rcases (show x = 4 * (x / 4) + 1 ∨ x = 4 * (x / 4) + 3 by omega) with w | w
        · rw [w]; exact e1
        · rw [w, ← a.1, ← b.1]; exact e1
    · rw [hy.1 x (by omega), hy'.1 x (by omega)]
