/-! ===== the genus is a number: crossings + 2 * parts - faces is even and not below 0 ===== -/
/-- the arcs whose smaller end is below j -/
def al (t : Nat → Nat) (j x : Nat) : Nat := if min x (t x) < j then t x else x
def gJ (E : Nat) (t : Nat → Nat) (j : Nat) : Nat → Nat → Prop := fun x y => x < E ∧ (y = tn 1 x ∨ (y = t x ∧ min x (t x) < j))
/-- crossings and arcs -/
def gR (E : Nat) (t : Nat → Nat) : Nat → Nat → Prop := fun x y => x < E ∧ (y = tn 1 x ∨ y = t x)
theorem tn_tn (x : Nat) : tn 3 (tn 1 x) = x ∧ tn 1 (tn 3 x) = x := by unfold tn; omega
theorem al_perm {c : Nat} {t : Nat → Nat} (ht : Inv2 (4 * c) t) (j : Nat) : Perm (4 * c) (al t j) (al t j) := fun x hx => by
  obtain ⟨h1, h2, _⟩ := ht x hx
  have e : al t j x < 4 * c ∧ al t j (al t j x) = x := by
    unfold al
    by_cases z : min x (t x) < j
    · rw [if_pos z, h2, Nat.min_comm, if_pos z]
      exact ⟨h1, rfl⟩
    · rw [if_neg z, if_neg z]
      exact ⟨hx, rfl⟩
  exact ⟨e.1, e.1, e.2, e.2⟩
theorem fj_perm {c : Nat} {t : Nat → Nat} (ht : Inv2 (4 * c) t) (j : Nat) : Perm (4 * c) (fun x => tn 1 (al t j x)) (fun x => al t j (tn 3 x)) := fun x hx => by
  have a := al_perm ht j x hx
  have b := al_perm ht j (tn 3 x) (tn_lt hx)
  refine ⟨tn_lt a.1, b.1, ?_, ?_⟩
  · show al t j (tn 3 (tn 1 (al t j x))) = x
    rw [(tn_tn _).1]; exact a.2.2.1
  · show tn 1 (al t j (al t j (tn 3 x))) = x
    rw [b.2.2.1, (tn_tn x).2]
/-- turning alone: as many cycles as crossings -/
theorem turn_cc (c : Nat) : cc (Vlt (4 * c)) (pR (4 * c) (tn 1)) (4 * c) = c := by
  have h0 : cc (Vlt c) (fun _ _ => False) c = c := by
    refine fb_ct_all.mpr (fun k hk => dcd_iff.mpr ⟨Vlt_iff.mpr hk, fun m _ q => ?_⟩)
    have := (q (fun z => z = k) (fun x y z => z.elim)).mp rfl
    omega
  have h1 : cc (Vlt (4 * c)) (pR (4 * c) (tn 1)) (4 * c) ≤ cc (Vlt c) (fun _ _ => False) c := by
    refine cc_le (fun x => x / 4) (fun x hx _ => ⟨by omega, Vlt_iff.mpr (by omega)⟩) (fun x y hx hy _ _ q => ?_)
    have e : x / 4 = y / 4 := ((q (fun z => z = x / 4) (fun x y z => z.elim)).mp rfl).symm
    have s : ∀ x, x < 4 * c → Con (pR (4 * c) (tn 1)) x (tn 1 x) := fun x hx => Con.of ⟨hx, rfl⟩
    have s1 := s (4 * (x / 4)) (by omega)
    have s2 := s (4 * (x / 4) + 1) (by omega)
    have s3 := s (4 * (x / 4) + 2) (by omega)
    rw [show tn 1 (4 * (x / 4)) = 4 * (x / 4) + 1 by unfold tn; omega] at s1
    rw [show tn 1 (4 * (x / 4) + 1) = 4 * (x / 4) + 2 by unfold tn; omega] at s2
    rw [show tn 1 (4 * (x / 4) + 2) = 4 * (x / 4) + 3 by unfold tn; omega] at s3
    have all : ∀ z, z / 4 = x / 4 → Con (pR (4 * c) (tn 1)) (4 * (x / 4)) z := fun z hz => by
      rcases (show z = 4 * (x / 4) ∨ z = 4 * (x / 4) + 1 ∨ z = 4 * (x / 4) + 2 ∨ z = 4 * (x / 4) + 3 by omega) with r | r | r | r
      · rw [r]; exact Con.eq (by omega)
      · rw [r]; exact s1
      · rw [r]; exact s1.tr s2
      · rw [r]; exact (s1.tr s2).tr s3
    exact (all x rfl).sy.tr (all y e.symm)
  have h2 : cc (Vlt c) (fun _ _ => False) c ≤ cc (Vlt (4 * c)) (pR (4 * c) (tn 1)) (4 * c) := by
    refine cc_le (fun x => 4 * x) (fun x hx _ => ⟨by omega, Vlt_iff.mpr (by omega)⟩) (fun x y hx hy _ _ q => ?_)
    have := (q (fun z => z / 4 = x) (fun u w z => by
      obtain ⟨_, rfl⟩ := z
      rw [show tn 1 u / 4 = u / 4 by unfold tn; omega])).mp (by omega)
    exact Con.eq (by omega)
  omega
theorem arcs_half {E : Nat} {t : Nat → Nat} (ht : Inv2 E t) : 2 * fb_ct (fun x => decide (x < t x)) E = E := by
  have n := fb_ct_not (fun x => decide (x < t x)) E
  have h1 : fb_ct (fun x => decide (x < t x)) E ≤ fb_ct (fun x => !decide (x < t x)) E := by
    refine ct_inj (g := t) (fun x hx hp => ?_) (fun x y hx hy _ _ e => ?_)
    · obtain ⟨a, b, d⟩ := ht x hx
      have := of_decide_eq_true hp
      refine ⟨a, ?_⟩
      rw [b]
      simp; omega
    · have := congrArg t e
      rw [(ht x hx).2.1, (ht y hy).2.1] at this
      exact this
  have h2 : fb_ct (fun x => !decide (x < t x)) E ≤ fb_ct (fun x => decide (x < t x)) E := by
    refine ct_inj (g := t) (fun x hx hp => ?_) (fun x y hx hy _ _ e => ?_)
    · obtain ⟨a, b, d⟩ := ht x hx
      have : ¬ x < t x := by simpa using hp
      refine ⟨a, ?_⟩
      rw [b]
      simp; omega
    · have := congrArg t e
      rw [(ht x hx).2.1, (ht y hy).2.1] at this
      exact this
  omega
theorem genus_step {c : Nat} {t : Nat → Nat} (ht : Inv2 (4 * c) t) : ∀ j, j ≤ 4 * c → ∃ q, fb_ct (fun x => decide (x < t x)) j + 2 * cc (Vlt (4 * c)) (gJ (4 * c) t j) (4 * c) = c + cc (Vlt (4 * c)) (pR (4 * c) (fun x => tn 1 (al t j x))) (4 * c) + 2 * q
  | 0, _ => by
    refine ⟨0, ?_⟩
    have e1 : cc (Vlt (4 * c)) (gJ (4 * c) t 0) (4 * c) = c := by
      rw [← turn_cc c]
      rw [turn_cc c]
      refine Eq.trans (cc_pairs (fun x y z => ?_) (fun x y z => ?_)) (turn_cc c)
      · obtain ⟨h1, h2 | h2⟩ := z
        · exact Con.of ⟨h1, h2⟩
        · exact absurd h2.2 (Nat.not_lt_zero _)
      · exact Con.of ⟨z.1, Or.inl z.2⟩
    have e2 : cc (Vlt (4 * c)) (pR (4 * c) (fun x => tn 1 (al t 0 x))) (4 * c) = c := by
      refine Eq.trans (pR_cong (fun x _ => ?_)) (turn_cc c)
      unfold al
      rw [if_neg (Nat.not_lt_zero _)]
    rw [e1, e2]
    show 0 + 2 * c = _
    omega
  | j + 1, hj => by
    obtain ⟨q, ih⟩ := genus_step ht j (by omega)
    obtain ⟨a1, a2, a3⟩ := ht j (by omega)
    rw [fb_ct_succ]
    by_cases z : j < t j
    · have ej : (if decide (j < t j) = true then 1 else 0) = 1 := if_pos (decide_eq_true z)
      rw [ej]
      have eP : cc (Vlt (4 * c)) (gJ (4 * c) t (j + 1)) (4 * c) = cc (Vlt (4 * c)) (addE (gJ (4 * c) t j) j (t j)) (4 * c) := by
        refine cc_pairs (fun x y w => ?_) (fun x y w => ?_)
        · obtain ⟨h1, h2 | ⟨h2, h3⟩⟩ := w
          · exact con_up (Con.of ⟨h1, Or.inl h2⟩)
          · by_cases u : min x (t x) < j
            · exact con_up (Con.of ⟨h1, Or.inr ⟨h2, u⟩⟩)
            · have e : min x (t x) = j := by omega
              rw [h2]
              rcases (show x = j ∨ t x = j by omega) with r | r
              · rw [r]; exact con_new
              · have hx : x = t j := by rw [← r, (ht x h1).2.1]
                rw [r, hx]
                exact con_new.sy
        · rcases w with ⟨h1, h2 | ⟨h2, h3⟩⟩ | ⟨rfl, rfl⟩
          · exact Con.of ⟨h1, Or.inl h2⟩
          · exact Con.of ⟨h1, Or.inr ⟨h2, by omega⟩⟩
          · exact Con.of ⟨by omega, Or.inr ⟨rfl, by omega⟩⟩
      have eF : cc (Vlt (4 * c)) (pR (4 * c) (fun x => tn 1 (al t (j + 1) x))) (4 * c) = cc (Vlt (4 * c)) (pR (4 * c) (fun x => tn 1 (al t j (sw j (t j) x)))) (4 * c) := by
        refine pR_cong (fun x hx => ?_)
        show tn 1 (al t (j + 1) x) = tn 1 (al t j (sw j (t j) x))
        by_cases e1 : x = j
        · rw [e1, sw_a]
          unfold al
          rw [if_pos (by omega), a2, if_neg (by omega)]
        · by_cases e2 : x = t j
          · rw [e2, sw_b]
            unfold al
            rw [a2, if_pos (by omega), if_neg (by omega)]
          · rw [sw_o e1 e2]
            have e3 : t x ≠ j := fun r => e2 (by rw [← r, (ht x hx).2.1])
            unfold al
            by_cases u : min x (t x) < j
            · rw [if_pos u, if_pos (by omega)]
            · rw [if_neg u, if_neg (by omega)]
      rw [eP, eF]
      have vj : Vlt (4 * c) j = true := Vlt_iff.mpr (by omega)
      have vt : Vlt (4 * c) (t j) = true := Vlt_iff.mpr a1
      have hV : ∀ x, Vlt (4 * c) x = true → x < 4 * c := fun x => Vlt_iff.mp
      have ne : j ≠ t j := by omega
      by_cases cP : Con (gJ (4 * c) t j) j (t j)
      · rw [cc_same cP]
        by_cases cf : Con (pR (4 * c) (fun y => tn 1 (al t j y))) j (t j)
        · have := cyc_split (fj_perm ht j) hV vj vt ne cf
          exact ⟨q, by omega⟩
        · have := cyc_join (fj_perm ht j) hV vj vt ne cf
          exact ⟨q + 1, by omega⟩
      · have m := cc_merge hV vj vt cP
        have cf : ¬ Con (pR (4 * c) (fun y => tn 1 (al t j y))) j (t j) := fun w => cP (w.mono (fun x y r => by
          obtain ⟨h1, rfl⟩ := r
          have g2 : ∀ z, z < 4 * c → Con (gJ (4 * c) t j) z (tn 1 z) := fun z hz => Con.of ⟨hz, Or.inl rfl⟩
          refine Con.tr ?_ (g2 _ (al_perm ht j x h1).1)
          unfold al
          by_cases u : min x (t x) < j
          · rw [if_pos u]; exact Con.of ⟨h1, Or.inr ⟨rfl, u⟩⟩
          · rw [if_neg u]; exact Con.rf))
        have := cyc_join (fj_perm ht j) hV vj vt ne cf
        exact ⟨q, by omega⟩
    · have ej : (if decide (j < t j) = true then 1 else 0) = 0 := if_neg (fun w => z (of_decide_eq_true w))
      rw [ej]
      have mm : ∀ x, x < 4 * c → (min x (t x) < j + 1 ↔ min x (t x) < j) := fun x hx => by
        constructor
        · intro w
          refine Classical.byContradiction (fun u => ?_)
          rcases (show x = j ∨ t x = j by omega) with r | r
          · subst r; omega
          · have hx2 : x = t j := by rw [← r, (ht x hx).2.1]
            omega
        · intro w; omega
      have eP : cc (Vlt (4 * c)) (gJ (4 * c) t (j + 1)) (4 * c) = cc (Vlt (4 * c)) (gJ (4 * c) t j) (4 * c) := by
        refine cc_pairs (fun x y w => ?_) (fun x y w => ?_)
        · obtain ⟨h1, h2 | ⟨h2, h3⟩⟩ := w
          · exact Con.of ⟨h1, Or.inl h2⟩
          · exact Con.of ⟨h1, Or.inr ⟨h2, (mm x h1).mp h3⟩⟩
        · obtain ⟨h1, h2 | ⟨h2, h3⟩⟩ := w
          · exact Con.of ⟨h1, Or.inl h2⟩
          · exact Con.of ⟨h1, Or.inr ⟨h2, (mm x h1).mpr h3⟩⟩
      have eF : cc (Vlt (4 * c)) (pR (4 * c) (fun x => tn 1 (al t (j + 1) x))) (4 * c) = cc (Vlt (4 * c)) (pR (4 * c) (fun x => tn 1 (al t j x))) (4 * c) := by
        refine pR_cong (fun x hx => ?_)
        unfold al
        by_cases u : min x (t x) < j
        · rw [if_pos u, if_pos ((mm x hx).mpr u)]
        · rw [if_neg u, if_neg (fun w => u ((mm x hx).mp w))]
      rw [eP, eF]
      exact ⟨q, by omega⟩
theorem genus_main {c : Nat} {t : Nat → Nat} (ht : Inv2 (4 * c) t) : ∃ q, c + 2 * cc (Vlt (4 * c)) (gR (4 * c) t) (4 * c) = cc (Vlt (4 * c)) (pR (4 * c) (fun x => tn 1 (t x))) (4 * c) + 2 * q := by
  obtain ⟨q, h⟩ := genus_step ht (4 * c) (Nat.le_refl _)
  have a := arcs_half ht
  have e1 : cc (Vlt (4 * c)) (gJ (4 * c) t (4 * c)) (4 * c) = cc (Vlt (4 * c)) (gR (4 * c) t) (4 * c) := by
    refine cc_pairs (fun x y w => ?_) (fun x y w => ?_)
    · obtain ⟨h1, h2 | ⟨h2, h3⟩⟩ := w
      · exact Con.of ⟨h1, Or.inl h2⟩
      · exact Con.of ⟨h1, Or.inr h2⟩
    · obtain ⟨h1, h2 | h2⟩ := w
      · exact Con.of ⟨h1, Or.inl h2⟩
      · exact Con.of ⟨h1, Or.inr ⟨h2, by omega⟩⟩
  have e2 : cc (Vlt (4 * c)) (pR (4 * c) (fun x => tn 1 (al t (4 * c) x))) (4 * c) = cc (Vlt (4 * c)) (pR (4 * c) (fun x => tn 1 (t x))) (4 * c) := by
    refine pR_cong (fun x hx => ?_)
    unfold al
    rw [if_pos (by omega)]
  rw [e1, e2] at h
  exact ⟨q, by omega⟩
