/-! ===== faces ===== -/
noncomputable def fp (c : Nat) (f : Nat → Nat) (e : Nat) : Nat := tn 1 (ot c f e)
noncomputable def fpi (c : Nat) (f : Nat → Nat) (e : Nat) : Nat := ot c f (tn 3 e)
theorem fp_perm {c o : Nat} {f : Nat → Nat} (hV : Vd c o f) : Perm (4 * c) (fp c f) (fpi c f) := fun x hx => by
  have ht := ot_inv hV
  obtain ⟨a1, a2, a3⟩ := ht x hx
  have b1 := tn_lt (k := 3) hx
  obtain ⟨c1, c2, c3⟩ := ht _ b1
  have e1 : tn 3 (tn 1 (ot c f x)) = ot c f x := by unfold tn; omega
  have e2 : tn 1 (tn 3 x) = x := by unfold tn; omega
  refine ⟨tn_lt a1, c1, ?_, ?_⟩
  · unfold fp fpi; rw [e1, a2]
  · unfold fp fpi; rw [c2, e2]
theorem nextI : ∀ r, r < 32 → ((nI r &&& (-4)) ||| ((nI r + 1) &&& 3) : Int32) = nI (tn 1 r) := by decide +kernel
theorem q_cycle {a : Nat → Int32} {c o : Nat} {f : Nat → Nat} (hA : Rp a f) (hV : Vd c o f) {s : Nat} (hs : s < 4 * c) : ∃ m, kX5_cycleOf (nI s) (nI c) a = some m ∧ ∀ x, x < 32 → (bt m x = true ↔ Orb (fp c f) s x) := by
  have hc := hV.1
  have hp := fp_perm hV
  obtain ⟨k, k1, k2, k3, k4⟩ := orb_least hp hs
  unfold kX5_cycleOf
  refine it3_way (fun i x y z => i ≤ k ∧ y = nI (itr (fp c f) i s) ∧ z = nI i ∧ ∀ w, w < 32 → (bt x w = true ↔ ∃ j, j < i ∧ itr (fp c f) j s = w)) (fun r => ∃ m, r = some m ∧ ∀ x, x < 32 → (bt m x = true ↔ Orb (fp c f) s x)) k (fun K i x y z hi hI => ?_) ⟨Nat.zero_le _, rfl, rfl, fun w _ => ?_⟩ (by omega)
  · obtain ⟨_, rfl, rfl, hS⟩ := hI
    have w0 := itr_lt hp hs i
    unfold kX5_cycleOf_L1
    by_cases q : i = k
    · left
      refine ⟨x, ?_, fun w hw => (hS w hw).trans (by rw [q]; exact (orb_iff k1 k3).symm)⟩
      have hb : bt x (itr (fp c f) i s) = true := (hS _ (by omega)).mpr ⟨0, by omega, by rw [q, k3]; rfl⟩
      by_cases q2 : i = 32
      · rw [q2, if_pos (by decide)]
      · rw [if_neg (by rw [fa_lit 32]; exact nI_ge (by omega) (by omega)), q_contains (by omega), bnd1_e, if_pos hb]; rfl
    · right
      have hb : ¬ bt x (itr (fp c f) i s) = true := fun h => by
        obtain ⟨j, h1, h2⟩ := (hS _ (by omega)).mp h
        exact orb_inj hp hs k4 j i h1 (by omega) h2
      have ho := ot_is hV w0
      refine ⟨by omega, x ||| ishl 1 (nI (itr (fp c f) i s)), nI (itr (fp c f) (i + 1) s), nI (i + 1), ?_, by omega, rfl, rfl, fun w hw => ?_⟩
      · rw [if_neg (by rw [fa_lit 32]; exact nI_ge (by omega) (by omega)), q_contains (by omega), bnd1_e, if_neg hb, if_pos rfl, q_bit, bnd1_e, q_oe hA hc w0 ho, bnd1_e, nextI _ (by have := ho.1; omega), nI_1]
        rfl
      · rw [bt_add (by omega) hw, Bool.or_eq_true, hS w hw, beq_iff_eq]
        constructor
        · rintro (⟨j, h1, h2⟩ | h)
          · exact ⟨j, by omega, h2⟩
          · exact ⟨i, by omega, h.symm⟩
        · rintro ⟨j, h1, h2⟩
          by_cases z : j = i
          · subst z; exact Or.inr h2.symm
          · exact Or.inl ⟨j, by omega, h2⟩
  · rw [b_0]
    exact ⟨fun h => (by cases h), fun ⟨_, h, _⟩ => absurd h (Nat.not_lt_zero _)⟩
theorem q_faces {a : Nat → Int32} {c o : Nat} {f : Nat → Nat} (hA : Rp a f) (hV : Vd c o f) : kX5_endCycles (nI c) a = some (nI (cF (fp c f) (4 * c))) := by
  have hc := hV.1
  have hp := fp_perm hV
  unfold kX5_endCycles
  rw [q_endCount, bnd1_e]
  refine it3_inv (fun i x y z => z = nI i ∧ y = nI (cF (fp c f) i) ∧ ∀ e, e < 32 → (bt x e = true ↔ sS (fp c f) i e)) (fun r => r = some (nI (cF (fp c f) (4 * c)))) (4 * c) (fun K i x y z hi hI => ?_) (fun K x y z hI => ?_) ⟨rfl, rfl, fun e he => ?_⟩ (by omega)
  · obtain ⟨rfl, rfl, hS⟩ := hI
    unfold kX5_endCycles_L1
    rw [if_neg (nI_ge hi (by omega)), q_contains (by omega), bnd1_e]
    by_cases b1 : bt x i = true
    · have b2 := (hS i (by omega)).mp b1
      refine ⟨x, nI (cF (fp c f) (i + 1)), nI (i + 1), ?_, rfl, rfl, fun e he => (hS e he).trans ⟨Or.inl, fun h => h.elim id (fun h => absurd b2 h.1)⟩⟩
      rw [if_pos b1, if_neg (by decide), cF_yes b2, nI_1]
    · have b2 : ¬ sS (fp c f) i i := fun h => b1 ((hS i (by omega)).mpr h)
      obtain ⟨m, e1, e2⟩ := q_cycle hA hV hi
      refine ⟨x ||| m, nI (cF (fp c f) (i + 1)), nI (i + 1), ?_, rfl, rfl, fun e he => ?_⟩
      · rw [if_neg b1, if_pos rfl, e1, bnd1_e, cF_no b2, nI_1, nI_1]
      · rw [b_or, Bool.or_eq_true, hS e he, e2 e he]
        exact ⟨fun h => h.elim Or.inl (fun h => Or.inr ⟨b2, h⟩), fun h => h.elim Or.inl (fun h => Or.inr h.2)⟩
  · obtain ⟨rfl, rfl, hS⟩ := hI
    unfold kX5_endCycles_L1
    rw [if_pos (nI_le (Nat.le_refl _) (by omega))]
  · rw [b_0]
    exact ⟨fun h => (by cases h), fun h => h.elim⟩
