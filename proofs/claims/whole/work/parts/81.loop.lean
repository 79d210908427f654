/-! ===== the law's loop ===== -/
theorem and31 (x : Int32) : ∃ k : Nat, k < 32 ∧ x &&& 31 = nI k := ⟨x.toBitVec.toNat % 32, Nat.mod_lt _ (by omega), by
  apply Int32.toBitVec_inj.mp
  apply BitVec.eq_of_toNat_eq
  rw [Int32.toBitVec_and, BitVec.toNat_and]
  show x.toBitVec.toNat &&& 31 = (BitVec.ofNat 32 (x.toBitVec.toNat % 32)).toNat
  rw [BitVec.toNat_ofNat, show (31 : Nat) = 2 ^ 5 - 1 by rfl, Nat.and_two_pow_sub_one_eq_mod]
  omega⟩
set_option maxRecDepth 100000 in
theorem law_loop {p : Program} {l : Launch} {e : Env} {s : State} {m : MethodId} {below : List Frame} {meth : Method} {c : Code} {b L : Nat} {xs : Nat → Int32} {D : va_G} {cyI cyZ : ClassId} {p_this p_text p_text_characters p_reader p_diagram p_diagram_arcs p_draft p_draft_arcs p_shelf p_shelf_cells p_shelf_filled p_bracket p_bracket_otherEnds p_bracket_tally p_bracket_coefficients p_bracket_product p_colouring p_colouring_classes p_colouring_cells n_this n_now n_history n_kept n_isKept n_text n_read n_uses n_entry n_passed n_draft n_label n_met n_bracket n_matrix : Nat}
    (hL : L ≤ 1536) (C0 : lw_At p s m meth c b L xs) (S : CallFix p m c cL_law 4 s (#[Value.ref b] : Array Value) wsL_law RL) (hK : va_K D vwCl (kTy cyI cyZ) s) (hN : kN s) :
    ∀ (n i : Nat), i ≤ L + 2 → L + 3 < i + n → ∀ (H : Heap) (locs : List Loc), LInv D cyI cyZ (fun q : Nat => s.heap.size ≤ q) s.heap p_this p_text p_text_characters p_reader p_diagram p_diagram_arcs p_draft p_draft_arcs p_shelf p_shelf_cells p_shelf_filled p_bracket p_bracket_otherEnds p_bracket_tally p_bracket_coefficients p_bracket_product p_colouring p_colouring_classes p_colouring_cells n_this n_now n_history n_kept n_isKept n_text n_read n_uses n_entry n_passed n_draft n_label n_met n_bracket n_matrix H locs → ∀ (ls : Array Slot), lv_has ls 4 [(0, .ref b), (1, .ref p_this), (2, .ref n_this), (3, .int (nI i))] →
      W p l e room_1 s m (#[Value.ref b] : Array Value) below meth c H locs 34 2195 (lw_Z below #[Value.ref b] s) (F0 m 18 ls []) := by
  obtain ⟨hx, hb, hr, hml, hown, hts, hX, hbl, hlocks, hgv⟩ := C0
  have hA : ∀ q : Nat, s.heap.size ≤ q → (fun q : Nat => s.heap.size ≤ q) q := fun _ h => h
  have hbA : ¬ (fun q : Nat => s.heap.size ≤ q) b := Nat.not_le.mpr hbl
  intro n
  induction n with
  | zero =>
    intro i h1 h2
    exact absurd h2 (by omega)
  | succ n ih =>
    intro i hi hin H locs hI ls hl
    obtain ⟨x_savedStates, x_newestPlace, x_text_length, x_text_characters, x_reader_insideStatement, x_reader_arcsDue, x_diagram_crossings, x_diagram_circles, x_diagram_arcs, x_draft_crossings, x_draft_circles, x_draft_arcs, x_shelf_cells, x_shelf_filled, x_bracket_prepared, x_bracket_otherEnds, x_bracket_tally, x_bracket_coefficients, x_bracket_product, x_colouring_classes, x_colouring_cells, y_saved, y_length, y_next, y_now, y_history, y_kept, y_isKept, y_text, y_read, y_uses, y_entry, y_passed, y_draft, y_label, y_met, y_bracket, y_matrix, hSR, hT, hP, hD, hS⟩ := hI
    refine lv_iload_n hx hb dL_law_18 rfl (lv_at hl 3 rfl) ?_
    refine lv_aload_n hx hb dL_law_19 rfl (lv_at hl 0 rfl) ?_
    refine va_slen hx hb hX hbl hbA hS dL_law_20 ?_
    refine lv_iconst (v := 3) hx hb dL_law_21 (by decide) ?_
    refine lv_isub hx hb dL_law_22 ?_
    have et : (Int32.ofNat L - 3 : Int32).toInt = (L : Int) - 3 := pk_sub_toInt (a := L) (b := 3) (by omega) (by omega)
    refine lv_icmp_gt (tgt := 724) hx hb dL_law_23 (by decide) (fun c_10 => ?_) (fun c_10 => ?_)
    · refine lv_iconst (v := 1) hx hb dL_law_724 (by decide) ?_
      refine va_forget (fun q hq => hS.2.2 q hq) ?_
      exact lw_ret hx hb hr hlocks dL_law_725
    · have hlt : i + 3 ≤ L := by
        rw [fa_lt, et, nI_toInt (by omega)] at c_10
        omega
      have h0 : vp_in (nI i) L := vp_in_nI (by omega) (by omega)
      have h1 : vp_in (nI i + 1) L := by rw [nI_1]; exact vp_in_nI (by omega) (by omega)
      have h2 : vp_in (nI i + 2) L := by rw [show (nI i + 2 : Int32) = nI (i + 2) by rw [fa_lit 2, nI_add]]; exact vp_in_nI (by omega) (by omega)
      refine lv_aload_n hx hb dL_law_26 rfl (lv_at hl 0 rfl) ?_
      refine lv_iload_n hx hb dL_law_27 rfl (lv_at hl 3 rfl) ?_
      refine va_sld hx hb hX hbl hbA hS h0 dL_law_28 ?_
      refine lv_bipush (v := 31) hx hb dL_law_29 (by decide) ?_
      refine lv_iand hx hb dL_law_31 ?_
      have hkk : ∀ (H : Heap) (locs : List Loc), LInv D cyI cyZ (fun q : Nat => s.heap.size ≤ q) s.heap p_this p_text p_text_characters p_reader p_diagram p_diagram_arcs p_draft p_draft_arcs p_shelf p_shelf_cells p_shelf_filled p_bracket p_bracket_otherEnds p_bracket_tally p_bracket_coefficients p_bracket_product p_colouring p_colouring_classes p_colouring_cells n_this n_now n_history n_kept n_isKept n_text n_read n_uses n_entry n_passed n_draft n_label n_met n_bracket n_matrix H locs → W p l e room_1 s m (#[Value.ref b] : Array Value) below meth c H locs 34 2195 (lw_Z below #[Value.ref b] s) (F0 m 718 ls []) := fun H locs hI => by
        refine lv_iinc (v := nI (i + 3)) (lv' := [(3, .int (nI (i + 3))), (0, .ref b), (1, .ref p_this), (2, .ref n_this)]) hx hb dL_law_718 hl (k := 3) rfl (by rw [← nI_add]; rfl) (by decide) rfl (fun ls hl => ?_)
        refine lv_goto (tgt := 18) hx hb dL_law_721 (by decide) ?_
        exact ih (i + 3) (by omega) (by omega) H locs hI ls (lv_sub hl [1, 2, 3, 0] rfl)
      obtain ⟨k, hk, ek⟩ := and31 (xs (nI i).toNatClampNeg)
      rw [ek]
      by_cases k0 : k = 0
      · subst k0
        refine lv_tableIn (off := 136) (tgt := 168) hx hb dL_law_32 (by decide) (by decide) (by decide) (by decide) ?_
        exact lc_append _ _ _ _ _ _ _ _ _ _ _ _ _ _ _ _ _ _ _ _ _ _ _ _ _ _ _ _ _ _ _ _ _ _ _ _ _ _ S hK hN hX hbl hbA hA hSR hT hP hD hS hl h1 h2 hkk
      by_cases k1 : k = 1
      · subst k1
        refine lv_tableIn (off := 159) (tgt := 191) hx hb dL_law_32 (by decide) (by decide) (by decide) (by decide) ?_
        exact lc_clearText _ _ _ _ _ _ _ _ _ _ _ _ _ _ _ _ _ _ _ _ _ _ _ _ _ _ _ _ _ _ _ _ _ _ _ _ _ _ S hK hN hX hbl hbA hA hSR hT hP hD hS hl h1 h2 hkk
      by_cases k2 : k = 2
      · subst k2
        refine lv_tableIn (off := 172) (tgt := 204) hx hb dL_law_32 (by decide) (by decide) (by decide) (by decide) ?_
        exact lc_load _ _ _ _ _ _ _ _ _ _ _ _ _ _ _ _ _ _ _ _ _ _ _ _ _ _ _ _ _ _ _ _ _ _ _ _ _ _ S hK hN hX hbl hbA hA hSR hT hP hD hS hl h1 h2 hkk
      by_cases k3 : k = 3
      · subst k3
        refine lv_tableIn (off := 185) (tgt := 217) hx hb dL_law_32 (by decide) (by decide) (by decide) (by decide) ?_
        exact lc_crossingCount _ _ _ _ _ _ _ _ _ _ _ _ _ _ _ _ _ _ _ _ _ _ _ _ _ _ _ _ _ _ _ _ _ _ _ _ _ _ S hK hN hX hbl hbA hA hSR hT hP hD hS hl h1 h2 hkk
      by_cases k4 : k = 4
      · subst k4
        refine lv_tableIn (off := 198) (tgt := 230) hx hb dL_law_32 (by decide) (by decide) (by decide) (by decide) ?_
        exact lc_circleCount _ _ _ _ _ _ _ _ _ _ _ _ _ _ _ _ _ _ _ _ _ _ _ _ _ _ _ _ _ _ _ _ _ _ _ _ _ _ S hK hN hX hbl hbA hA hSR hT hP hD hS hl h1 h2 hkk
      by_cases k5 : k = 5
      · subst k5
        refine lv_tableIn (off := 211) (tgt := 243) hx hb dL_law_32 (by decide) (by decide) (by decide) (by decide) ?_
        exact lc_arcAt _ _ _ _ _ _ _ _ _ _ _ _ _ _ _ _ _ _ _ _ _ _ _ _ _ _ _ _ _ _ _ _ _ _ _ _ _ _ S hK hN hX hbl hbA hA hSR hT hP hD hS hl h1 h2 hkk
      by_cases k6 : k = 6
      · subst k6
        refine lv_tableIn (off := 244) (tgt := 276) hx hb dL_law_32 (by decide) (by decide) (by decide) (by decide) ?_
        exact lc_switchCrossing _ _ _ _ _ _ _ _ _ _ _ _ _ _ _ _ _ _ _ _ _ _ _ _ _ _ _ _ _ _ _ _ _ _ _ _ _ _ S hK hN hX hbl hbA hA hSR hT hP hD hS hl h1 h2 hkk
      by_cases k7 : k = 7
      · subst k7
        refine lv_tableIn (off := 267) (tgt := 299) hx hb dL_law_32 (by decide) (by decide) (by decide) (by decide) ?_
        exact lc_mirror _ _ _ _ _ _ _ _ _ _ _ _ _ _ _ _ _ _ _ _ _ _ _ _ _ _ _ _ _ _ _ _ _ _ _ _ _ _ S hK hN hX hbl hbA hA hSR hT hP hD hS hl h1 h2 hkk
      by_cases k8 : k = 8
      · subst k8
        refine lv_tableIn (off := 280) (tgt := 312) hx hb dL_law_32 (by decide) (by decide) (by decide) (by decide) ?_
        exact lc_removeKink _ _ _ _ _ _ _ _ _ _ _ _ _ _ _ _ _ _ _ _ _ _ _ _ _ _ _ _ _ _ _ _ _ _ _ _ _ _ S hK hN hX hbl hbA hA hSR hT hP hD hS hl h1 h2 hkk
      by_cases k9 : k = 9
      · subst k9
        refine lv_tableIn (off := 303) (tgt := 335) hx hb dL_law_32 (by decide) (by decide) (by decide) (by decide) ?_
        exact lc_removeBigon _ _ _ _ _ _ _ _ _ _ _ _ _ _ _ _ _ _ _ _ _ _ _ _ _ _ _ _ _ _ _ _ _ _ _ _ _ _ S hK hN hX hbl hbA hA hSR hT hP hD hS hl h1 h2 hkk
      by_cases k10 : k = 10
      · subst k10
        refine lv_tableIn (off := 336) (tgt := 368) hx hb dL_law_32 (by decide) (by decide) (by decide) (by decide) ?_
        exact lc_isKink _ _ _ _ _ _ _ _ _ _ _ _ _ _ _ _ _ _ _ _ _ _ _ _ _ _ _ _ _ _ _ _ _ _ _ _ _ _ S hK hN hX hbl hbA hA hSR hT hP hD hS hl h1 h2 hkk
      by_cases k11 : k = 11
      · subst k11
        refine lv_tableIn (off := 359) (tgt := 391) hx hb dL_law_32 (by decide) (by decide) (by decide) (by decide) ?_
        exact lc_bigonPartner _ _ _ _ _ _ _ _ _ _ _ _ _ _ _ _ _ _ _ _ _ _ _ _ _ _ _ _ _ _ _ _ _ _ _ _ _ _ S hK hN hX hbl hbA hA hSR hT hP hD hS hl h1 h2 hkk
      by_cases k12 : k = 12
      · subst k12
        refine lv_tableIn (off := 382) (tgt := 414) hx hb dL_law_32 (by decide) (by decide) (by decide) (by decide) ?_
        exact lc_componentCount _ _ _ _ _ _ _ _ _ _ _ _ _ _ _ _ _ _ _ _ _ _ _ _ _ _ _ _ _ _ _ _ _ _ _ _ _ _ S hK hN hX hbl hbA hA hSR hT hP hD hS hl h1 h2 hkk
      by_cases k13 : k = 13
      · subst k13
        refine lv_tableIn (off := 395) (tgt := 427) hx hb dL_law_32 (by decide) (by decide) (by decide) (by decide) ?_
        exact lc_partCount _ _ _ _ _ _ _ _ _ _ _ _ _ _ _ _ _ _ _ _ _ _ _ _ _ _ _ _ _ _ _ _ _ _ _ _ _ _ S hK hN hX hbl hbA hA hSR hT hP hD hS hl h1 h2 hkk
      by_cases k14 : k = 14
      · subst k14
        refine lv_tableIn (off := 408) (tgt := 440) hx hb dL_law_32 (by decide) (by decide) (by decide) (by decide) ?_
        exact lc_faceCount _ _ _ _ _ _ _ _ _ _ _ _ _ _ _ _ _ _ _ _ _ _ _ _ _ _ _ _ _ _ _ _ _ _ _ _ _ _ S hK hN hX hbl hbA hA hSR hT hP hD hS hl h1 h2 hkk
      by_cases k15 : k = 15
      · subst k15
        refine lv_tableIn (off := 421) (tgt := 453) hx hb dL_law_32 (by decide) (by decide) (by decide) (by decide) ?_
        exact lc_genus _ _ _ _ _ _ _ _ _ _ _ _ _ _ _ _ _ _ _ _ _ _ _ _ _ _ _ _ _ _ _ _ _ _ _ _ _ _ S hK hN hX hbl hbA hA hSR hT hP hD hS hl h1 h2 hkk
      by_cases k16 : k = 16
      · subst k16
        refine lv_tableIn (off := 434) (tgt := 466) hx hb dL_law_32 (by decide) (by decide) (by decide) (by decide) ?_
        exact lc_isAlternating _ _ _ _ _ _ _ _ _ _ _ _ _ _ _ _ _ _ _ _ _ _ _ _ _ _ _ _ _ _ _ _ _ _ _ _ _ _ S hK hN hX hbl hbA hA hSR hT hP hD hS hl h1 h2 hkk
      by_cases k17 : k = 17
      · subst k17
        refine lv_tableIn (off := 447) (tgt := 479) hx hb dL_law_32 (by decide) (by decide) (by decide) (by decide) ?_
        exact lc_crossingSign _ _ _ _ _ _ _ _ _ _ _ _ _ _ _ _ _ _ _ _ _ _ _ _ _ _ _ _ _ _ _ _ _ _ _ _ _ _ S hK hN hX hbl hbA hA hSR hT hP hD hS hl h1 h2 hkk
      by_cases k18 : k = 18
      · subst k18
        refine lv_tableIn (off := 470) (tgt := 502) hx hb dL_law_32 (by decide) (by decide) (by decide) (by decide) ?_
        exact lc_writhe _ _ _ _ _ _ _ _ _ _ _ _ _ _ _ _ _ _ _ _ _ _ _ _ _ _ _ _ _ _ _ _ _ _ _ _ _ _ S hK hN hX hbl hbA hA hSR hT hP hD hS hl h1 h2 hkk
      by_cases k19 : k = 19
      · subst k19
        refine lv_tableIn (off := 483) (tgt := 515) hx hb dL_law_32 (by decide) (by decide) (by decide) (by decide) ?_
        exact lc_stateLoops _ _ _ _ _ _ _ _ _ _ _ _ _ _ _ _ _ _ _ _ _ _ _ _ _ _ _ _ _ _ _ _ _ _ _ _ _ _ S hK hN hX hbl hbA hA hSR hT hP hD hS hl h1 h2 hkk
      by_cases k20 : k = 20
      · subst k20
        refine lv_tableIn (off := 506) (tgt := 538) hx hb dL_law_32 (by decide) (by decide) (by decide) (by decide) ?_
        exact lc_coefficient _ _ _ _ _ _ _ _ _ _ _ _ _ _ _ _ _ _ _ _ _ _ _ _ _ _ _ _ _ _ _ _ _ _ _ _ _ _ S hK hN hX hbl hbA hA hSR hT hP hD hS hl h1 h2 hkk
      by_cases k21 : k = 21
      · subst k21
        refine lv_tableIn (off := 529) (tgt := 561) hx hb dL_law_32 (by decide) (by decide) (by decide) (by decide) ?_
        exact lc_normalizedCoefficient _ _ _ _ _ _ _ _ _ _ _ _ _ _ _ _ _ _ _ _ _ _ _ _ _ _ _ _ _ _ _ _ _ _ _ _ _ _ S hK hN hX hbl hbA hA hSR hT hP hD hS hl h1 h2 hkk
      by_cases k22 : k = 22
      · subst k22
        refine lv_tableIn (off := 552) (tgt := 584) hx hb dL_law_32 (by decide) (by decide) (by decide) (by decide) ?_
        exact lc_lowestExponent _ _ _ _ _ _ _ _ _ _ _ _ _ _ _ _ _ _ _ _ _ _ _ _ _ _ _ _ _ _ _ _ _ _ _ _ _ _ S hK hN hX hbl hbA hA hSR hT hP hD hS hl h1 h2 hkk
      by_cases k23 : k = 23
      · subst k23
        refine lv_tableIn (off := 565) (tgt := 597) hx hb dL_law_32 (by decide) (by decide) (by decide) (by decide) ?_
        exact lc_highestExponent _ _ _ _ _ _ _ _ _ _ _ _ _ _ _ _ _ _ _ _ _ _ _ _ _ _ _ _ _ _ _ _ _ _ _ _ _ _ S hK hN hX hbl hbA hA hSR hT hP hD hS hl h1 h2 hkk
      by_cases k24 : k = 24
      · subst k24
        refine lv_tableIn (off := 578) (tgt := 610) hx hb dL_law_32 (by decide) (by decide) (by decide) (by decide) ?_
        exact lc_determinant _ _ _ _ _ _ _ _ _ _ _ _ _ _ _ _ _ _ _ _ _ _ _ _ _ _ _ _ _ _ _ _ _ _ _ _ _ _ S hK hN hX hbl hbA hA hSR hT hP hD hS hl h1 h2 hkk
      by_cases k25 : k = 25
      · subst k25
        refine lv_tableIn (off := 591) (tgt := 623) hx hb dL_law_32 (by decide) (by decide) (by decide) (by decide) ?_
        exact lc_colouringDimension _ _ _ _ _ _ _ _ _ _ _ _ _ _ _ _ _ _ _ _ _ _ _ _ _ _ _ _ _ _ _ _ _ _ _ _ _ _ S hK hN hX hbl hbA hA hSR hT hP hD hS hl h1 h2 hkk
      by_cases k26 : k = 26
      · subst k26
        refine lv_tableIn (off := 614) (tgt := 646) hx hb dL_law_32 (by decide) (by decide) (by decide) (by decide) ?_
        exact lc_undo _ _ _ _ _ _ _ _ _ _ _ _ _ _ _ _ _ _ _ _ _ _ _ _ _ _ _ _ _ _ _ _ _ _ _ _ _ _ S hK hN hX hbl hbA hA hSR hT hP hD hS hl h1 h2 hkk
      by_cases k27 : k = 27
      · subst k27
        refine lv_tableIn (off := 627) (tgt := 659) hx hb dL_law_32 (by decide) (by decide) (by decide) (by decide) ?_
        exact lc_undoDepth _ _ _ _ _ _ _ _ _ _ _ _ _ _ _ _ _ _ _ _ _ _ _ _ _ _ _ _ _ _ _ _ _ _ _ _ _ _ S hK hN hX hbl hbA hA hSR hT hP hD hS hl h1 h2 hkk
      by_cases k28 : k = 28
      · subst k28
        refine lv_tableIn (off := 640) (tgt := 672) hx hb dL_law_32 (by decide) (by decide) (by decide) (by decide) ?_
        exact lc_save _ _ _ _ _ _ _ _ _ _ _ _ _ _ _ _ _ _ _ _ _ _ _ _ _ _ _ _ _ _ _ _ _ _ _ _ _ _ S hK hN hX hbl hbA hA hSR hT hP hD hS hl h1 h2 hkk
      by_cases k29 : k = 29
      · subst k29
        refine lv_tableIn (off := 663) (tgt := 695) hx hb dL_law_32 (by decide) (by decide) (by decide) (by decide) ?_
        exact lc_restore _ _ _ _ _ _ _ _ _ _ _ _ _ _ _ _ _ _ _ _ _ _ _ _ _ _ _ _ _ _ _ _ _ _ _ _ _ _ S hK hN hX hbl hbA hA hSR hT hP hD hS hl h1 h2 hkk
      refine lv_tableOut (tgt := 718) hx hb dL_law_32 (Or.inr (by rw [nI_toInt (by omega)]; omega)) (by decide) ?_
      exact hkk H locs ⟨_, _, _, _, _, _, _, _, _, _, _, _, _, _, _, _, _, _, _, _, _, _, _, _, _, _, _, _, _, _, _, _, _, _, _, _, _, _, hSR, hT, hP, hD, hS⟩
