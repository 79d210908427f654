/-! ===== faces ===== -/
noncomputable def fp (c : Nat) (f : Nat → Nat) (e : Nat) : Nat := tn 1 (ot c f e)
noncomputable def fpi (c : Nat) (f : Nat → Nat) (e : Nat) : Nat := ot c f (tn 3 e)
theorem fp_perm {c o : Nat} {f : Nat → Nat} (hV : Vd c o f) : Perm (4 * c) (fp c f) (fpi c f) := fun x hx => by
  have ht := ot_inv hV
  obtain ⟨a1, a2, a3⟩ := ht x hx
  have b1 := tn_lt (k := 3) hx
  obtain ⟨c1, c2, c3⟩ := ht _ b1
  have e1 : tn 3 (tn 1 (ot c f x)) = ot c f x := by unfold tn; omega
  have e2 : tn 1 (tn 3 x) = x := by unfold tn; omega
  refine ⟨tn_lt a1, c1, ?_, ?_⟩
  · unfold fp fpi; rw [e1, a2]
  · unfold fp fpi; rw [c2, e2]
theorem nextI : ∀ r, r < 32 → ((nI r &&& (-4)) ||| ((nI r + 1) &&& 3) : Int32) = nI (tn 1 r) := by decide +kernel
theorem q_cycle {a : Nat → Int32} {c o : Nat} {f : Nat → Nat} (hA : Rp a f) (hV : Vd c o f) {s : Nat} (hs : s < 4 * c) : ∃ m, kX5_cycleOf (nI s) (nI c) a = some m ∧ ∀ x, x < 32 → (bt m x = true ↔ Orb (fp c f) s x) := by
  have hc := hV.1
  have hp := fp_perm hV
  obtain ⟨k, k1, k2, k3, k4⟩ := orb_least hp hs
  unfold kX5_cycleOf
  refine it3_way (fun i x y z => i ≤ k ∧ y = nI (itr (fp c f) i s) ∧ z = nI i ∧ ∀ w, w < 32 → (bt x w = true ↔ ∃ j, j < i ∧ itr (fp c f) j s = w)) (fun r => ∃ m, r = some m ∧ ∀ x, x < 32 → (bt m x = true ↔ Orb (fp c f) s x)) k (fun K i x y z hi hI => ?_) ⟨Nat.zero_le _, rfl, rfl, fun w _ => ?_⟩ (by omega)
  · obtain ⟨_, rfl, rfl, hS⟩ := hI
    have w0 := itr_lt hp hs i
    unfold kX5_cycleOf_L1
    by_cases q : i = k
    · left
      refine ⟨x, ?_, fun w hw => (hS w hw).trans (by rw [q]; exact (orb_iff k1 k3).symm)⟩
      have hb : bt x (itr (fp c f) i s) = true := (hS _ (by omega)).mpr ⟨0, by omega, by rw [q, k3]; rfl⟩
      by_cases q2 : i = 32
      · rw [q2, if_pos (by decide)]
      · rw [if_neg (by rw [fa_lit 32]; exact nI_ge (by omega) (by omega)), q_contains (by omega), bnd1_e, if_pos hb]; rfl
    · right
      have hb : ¬ bt x (itr (fp c f) i s) = true := fun h => by
        obtain ⟨j, h1, h2⟩ := (hS _ (by omega)).mp h
        exact orb_inj hp hs k4 j i h1 (by omega) h2
      have ho := ot_is hV w0
      refine ⟨by omega, x ||| ishl 1 (nI (itr (fp c f) i s)), nI (itr (fp c f) (i + 1) s), nI (i + 1), ?_, by omega, rfl, rfl, fun w hw => ?_⟩
      · rw [if_neg (by rw [fa_lit 32]; exact nI_ge (by omega) (by omega)), q_contains (by omega), bnd1_e, if_neg hb, if_pos rfl, q_bit, bnd1_e, q_oe hA hc w0 ho, bnd1_e, nextI _ (by have := ho.1; omega), nI_1]
        rfl
      · rw [bt_add (by omega) hw, Bool.or_eq_true, hS w hw, beq_iff_eq]
        constructor
        · rintro (⟨j, h1, h2⟩ | h)
          · exact ⟨j, by omega, h2⟩
          · exact ⟨i, by omega, h.symm⟩
        · rintro ⟨j, h1, h2⟩
          by_cases z : j = i
          · subst z; exact Or.inr h2.symm
          · exact Or.inl ⟨j, by omega, h2⟩
  · rw [b_0]
    exact ⟨fun h => (by cases h), fun ⟨_, h, _⟩ => absurd h (Nat.not_lt_zero _)⟩
theorem q_faces {a : Nat → Int32} {c o : Nat} {f : Nat → Nat} (hA : Rp a f) (hV : Vd c o f) : kX5_endCycles (nI c) a = some (nI (cF (fp c f) (4 * c))) := by
  have hc := hV.1
  have hp := fp_perm hV
  unfold kX5_endCycles
  rw [q_endCount, bnd1_e]
  refine it3_inv (fun i x y z => z = nI i ∧ y = nI (cF (fp c f) i) ∧ ∀ e, e < 32 → (bt x e = true ↔ sS (fp c f) i e)) (fun r => r = some (nI (cF (fp c f) (4 * c)))) (4 * c) (fun K i x y z hi hI => ?_) (fun K x y z hI => ?_) ⟨rfl, rfl, fun e he => ?_⟩ (by omega)
  · obtain ⟨rfl, rfl, hS⟩ := hI
    unfold kX5_endCycles_L1
    rw [if_neg (nI_ge hi (by omega)), q_contains (by omega), bnd1_e]
    by_cases b1 : bt x i = true
    · have b2 := (hS i (by omega)).mp b1
      refine ⟨x, nI (cF (fp c f) (i + 1)), nI (i + 1), ?_, rfl, rfl, fun e he => (hS e he).trans ⟨Or.inl, fun h => h.elim id (fun h => absurd b2 h.1)⟩⟩
      rw [if_pos b1, if_neg (by decide), cF_yes b2, nI_1]
    · have b2 : ¬ sS (fp c f) i i := fun h => b1 ((hS i (by omega)).mpr h)
      obtain ⟨m, e1, e2⟩ := q_cycle hA hV hi
      refine ⟨x ||| m, nI (cF (fp c f) (i + 1)), nI (i + 1), ?_, rfl, rfl, fun e he => ?_⟩
      · rw [if_neg b1, if_pos rfl, e1, bnd1_e, cF_no b2, nI_1, nI_1]
      · rw [b_or, Bool.or_eq_true, hS e he, e2 e he]
        exact ⟨fun h => h.elim Or.inl (fun h => Or.inr ⟨b2, h⟩), fun h => h.elim Or.inl (fun h => Or.inr h.2)⟩
  · obtain ⟨rfl, rfl, hS⟩ := hI
    unfold kX5_endCycles_L1
    rw [if_pos (nI_le (Nat.le_refl _) (by omega))]
  · rw [b_0]
    exact ⟨fun h => (by cases h), fun h => h.elim⟩
/-! the reference's faces -/
theorem m_followFace {now met : Nat → Int32} {c o : Nat} {f : Nat → Nat} (h : Mr now c o f) (hV : Vd c o f) {s : Nat} (hs : s < 4 * c) (hm : ∀ e, e < 4 * c → (met e = 0 ∨ met e = 1) ∧ (met e = 1 ↔ sS (fp c f) s e)) (K2 : Int32 → Int32 → (Nat → Int32) → Option (Int32 × (Nat → Int32))) (v1 t1 v2 : Int32) :
    ∃ met', it2 (kX10_faceCount_L4 now K2 v1 t1 v2) 400 (nI s) met = K2 (v1 + t1) (v2 + 1) met' ∧ ∀ e, e < 4 * c → (met' e = 0 ∨ met' e = 1) ∧ (met' e = 1 ↔ sS (fp c f) (s + 1) e) := by
  have hc := hV.1
  have hp := fp_perm hV
  have stop : ∀ (y : Nat → Int32) (cur : Nat) (K), cur < 4 * c → y cur = 1 → kX10_faceCount_L4 now K2 v1 t1 v2 K (nI cur) y = K2 (v1 + t1) (v2 + 1) y := fun y cur K hcur hy => by
    unfold kX10_faceCount_L4
    rw [ck_nI (by omega) (by omega), nI_clamp (by omega), hy, if_neg (by decide)]
  have step : ∀ (y : Nat → Int32) (cur : Nat) (K), cur < 4 * c → y cur = 0 → kX10_faceCount_L4 now K2 v1 t1 v2 K (nI cur) y = K (nI (fp c f cur)) (upd y cur 1) := fun y cur K hcur hy => by
    have ho := ot_is hV hcur
    have t2 : kX10_turn (nI (ot c f cur)) 1 = some (nI (tn 1 (ot c f cur))) := m_turnT (k := 1) (by have := ho.1; omega) (by omega)
    unfold kX10_faceCount_L4
    rw [ck_nI (by omega) (by omega), nI_clamp (by omega), hy, if_pos rfl, ck_nI (by omega) (by omega), m_other h hV.le16 hc hcur ho, bnd1_e, t2, bnd1_e, show ((1 : Int32) &&& 1) = 1 by decide]
    rfl
  obtain ⟨k, k1, k2, k3, k4⟩ := orb_least hp hs
  by_cases hin : sS (fp c f) s s
  · refine ⟨met, stop met s _ hs ((hm s hs).2.mpr hin), fun e he => ⟨(hm e he).1, (hm e he).2.trans ⟨Or.inl, fun h => h.elim id (fun h => absurd hin h.1)⟩⟩⟩
  · have hno : ∀ i, ¬ sS (fp c f) s (itr (fp c f) i s) := fun i hi => hin ((sS_step hp (by omega) hs ⟨i, rfl⟩).mpr hi)
    refine it2_inv (fun i x y => x = nI (itr (fp c f) i s) ∧ ∀ e, e < 4 * c → (y e = 0 ∨ y e = 1) ∧ (y e = 1 ↔ sS (fp c f) s e ∨ ∃ j, j < i ∧ itr (fp c f) j s = e)) (fun r => ∃ met', r = K2 (v1 + t1) (v2 + 1) met' ∧ ∀ e, e < 4 * c → (met' e = 0 ∨ met' e = 1) ∧ (met' e = 1 ↔ sS (fp c f) (s + 1) e)) k (fun K i x y hi hI => ?_) (fun K x y hI => ?_) ⟨rfl, fun e he => ⟨(hm e he).1, (hm e he).2.trans ⟨Or.inl, fun h => h.elim id (fun ⟨_, h, _⟩ => absurd h (Nat.not_lt_zero _))⟩⟩⟩ (by omega)
    · obtain ⟨rfl, hS⟩ := hI
      have w0 := itr_lt hp hs i
      have hy : y (itr (fp c f) i s) = 0 := by
        rcases (hS _ w0).1 with z | z
        · exact z
        · rcases (hS _ w0).2.mp z with z | ⟨j, z1, z2⟩
          · exact absurd z (hno i)
          · exact absurd z2 (orb_inj hp hs k4 j i z1 hi)
      refine ⟨_, _, step y _ K w0 hy, rfl, fun e he => ?_⟩
      by_cases q : e = itr (fp c f) i s
      · subst q
        rw [pk_us]
        exact ⟨Or.inr rfl, fun _ => Or.inr ⟨i, by omega, rfl⟩, fun _ => rfl⟩
      · rw [pk_un q]
        refine ⟨(hS e he).1, (hS e he).2.trans ⟨fun h => h.elim Or.inl (fun ⟨j, h1, h2⟩ => Or.inr ⟨j, by omega, h2⟩), fun h => h.elim Or.inl (fun ⟨j, h1, h2⟩ => ?_)⟩⟩
        by_cases z : j = i
        · subst z; exact absurd h2.symm q
        · exact Or.inr ⟨j, by omega, h2⟩
    · obtain ⟨rfl, hS⟩ := hI
      have w0 := itr_lt hp hs k
      refine ⟨y, stop y _ K w0 ((hS _ w0).2.mpr (Or.inr ⟨0, by omega, by rw [k3]; rfl⟩)), fun e he => ⟨(hS e he).1, (hS e he).2.trans ?_⟩⟩
      show _ ↔ (sS _ _ _ ∨ _)
      rw [orb_iff k1 k3]
      exact ⟨fun h => h.elim Or.inl (fun h => Or.inr ⟨hin, h⟩), fun h => h.elim Or.inl (fun h => Or.inr h.2)⟩
theorem m_faceCount {now met : Nat → Int32} {c o : Nat} {f : Nat → Nat} (h : Mr now c o f) (hV : Vd c o f) : ∃ met', kX10_faceCount now met = some (nI (2 * o + cF (fp c f) (4 * c)), met') := by
  have hc := hV.1
  have hp := fp_perm hV
  unfold kX10_faceCount
  refine it2_inv (fun i x y => x = nI i ∧ ∀ e, e < i → y e = 0) (fun r => ∃ met', r = some (nI (2 * o + cF (fp c f) (4 * c)), met')) (4 * c) (fun K i x y hi hI => ?_) (fun K x y hI => ?_) ⟨rfl, fun e h => absurd h (Nat.not_lt_zero _)⟩ (by omega)
  · obtain ⟨rfl, hS⟩ := hI
    refine ⟨nI (i + 1), upd y i 0, ?_, rfl, fun e he => ?_⟩
    · unfold kX10_faceCount_L1
      rw [m_ends h, bnd1_e, if_neg (nI_ge hi (by omega)), ck_nI (by omega) (by omega), nI_clamp (by omega), nI_1, show ((0 : Int32) &&& 1) = 0 by decide]
    · by_cases q : e = i
      · rw [q, pk_us]
      · rw [pk_un q]; exact hS e (by omega)
  · obtain ⟨rfl, hS⟩ := hI
    unfold kX10_faceCount_L1
    rw [m_ends h, bnd1_e, if_pos (nI_le (Nat.le_refl _) (by omega)), ck_i (x := 1) (i := 1) rfl (by omega) (by omega), cl1, h.2.1]
    have e2 : (2 * nI o : Int32) = nI (2 * o) := pk_mul 2 o
    rw [e2]
    refine it3_inv (fun i x z y => z = nI i ∧ x = nI (2 * o + cF (fp c f) i) ∧ ∀ e, e < 4 * c → (y e = 0 ∨ y e = 1) ∧ (y e = 1 ↔ sS (fp c f) i e)) (fun r => ∃ met', r = some (nI (2 * o + cF (fp c f) (4 * c)), met')) (4 * c) (fun K i x z y hi hI => ?_) (fun K x z y hI => ?_) ⟨rfl, rfl, fun e he => ?_⟩ (by omega)
    · obtain ⟨rfl, rfl, hM⟩ := hI
      have mi := hM i hi
      unfold kX10_faceCount_L2 kX10_faceCount_J3
      rw [m_ends h, bnd1_e, if_neg (nI_ge hi (by omega)), ck_nI (by omega) (by omega), nI_clamp (by omega)]
      by_cases q : sS (fp c f) i i
      · have e1 : y i = 1 := mi.2.mpr q
        obtain ⟨met', g1, g2⟩ := m_followFace h hV hi hM K (nI (2 * o + cF (fp c f) i)) 0 (nI i)
        refine ⟨nI (2 * o + cF (fp c f) (i + 1)), nI (i + 1), met', ?_, rfl, rfl, g2⟩
        rw [e1, if_neg (by decide), g1, cF_yes q, nI_1, show (0 : Int32) = nI 0 from rfl, nI_add, Nat.add_zero]
      · have e1 : y i = 0 := by
          rcases mi.1 with z | z
          · exact z
          · exact absurd (mi.2.mp z) q
        obtain ⟨met', g1, g2⟩ := m_followFace h hV hi hM K (nI (2 * o + cF (fp c f) i)) 1 (nI i)
        refine ⟨nI (2 * o + cF (fp c f) (i + 1)), nI (i + 1), met', ?_, rfl, rfl, g2⟩
        rw [e1, if_pos rfl, g1, cF_no q, nI_1, nI_1]
        rfl
    · obtain ⟨rfl, rfl, hM⟩ := hI
      refine ⟨y, ?_⟩
      unfold kX10_faceCount_L2
      rw [m_ends h, bnd1_e, if_pos (nI_le (Nat.le_refl _) (by omega))]
    · rw [hS e he]
      exact ⟨Or.inl rfl, fun h => absurd h (by decide), fun h => h.elim⟩
