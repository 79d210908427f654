def kX10_eliminate_L4 (K_3 : Int32 → (Nat → Int32) → Option (Int32 × (Nat → Int32))) (v6_3 : Int32) (v1 : Int32) (v3 : Int32) (f_matrix_3 : Nat → Int32) (v2 : Int32) (r_3 : Int32) (K_4 : Int32 → (Nat → Int32) → Option (Int32 × (Nat → Int32))) (v8_4 : Int32) (f_matrix_4 : Nat → Int32) : Option (Int32 × (Nat → Int32)) :=
  if 17 ≤ v8_4 then K_3 (v6_3 + 1) f_matrix_4 else ck ((17 * v6_3) + v8_4) 136 (ck ((17 * v1) + v8_4) 136 (cz v3 (cz v3 (ck ((17 * v6_3) + v8_4) 136 (K_4 (v8_4 + 1) (upd f_matrix_4 ((17 * v6_3) + v8_4).toNatClampNeg (irem (((f_matrix_4 ((17 * v6_3) + v8_4).toNatClampNeg) - (irem ((irem ((f_matrix_3 ((17 * v6_3) + v2).toNatClampNeg) * r_3) v3) * (f_matrix_4 ((17 * v1) + v8_4).toNatClampNeg)) v3)) + v3) v3)))))))
def kX10_eliminate_L3 (f_now : Nat → Int32) (v2 : Int32) (v3 : Int32) (v1 : Int32) (r_3 : Int32) (K_3 : Int32 → (Nat → Int32) → Option (Int32 × (Nat → Int32))) (v6_3 : Int32) (f_matrix_3 : Nat → Int32) : Option (Int32 × (Nat → Int32)) :=
  bnd1 (kX10_crossings f_now) (fun r_4 => if r_4 ≤ v6_3 then some (1, f_matrix_3) else ck ((17 * v6_3) + v2) 136 (cz v3 (it2 (kX10_eliminate_L4 K_3 v6_3 v1 v3 f_matrix_3 v2 r_3) 400 0 f_matrix_3)))
def kX10_eliminate_L2 (v1 : Int32) (v2 : Int32) (v3 : Int32) (f_now : Nat → Int32) (v4_1 : Int32) (K_2 : Int32 → (Nat → Int32) → Option (Int32 × (Nat → Int32))) (v5_2 : Int32) (f_matrix_2 : Nat → Int32) : Option (Int32 × (Nat → Int32)) :=
  if 17 ≤ v5_2 then ck ((17 * v1) + v2) 136 (bnd1 (kX10_inverse (f_matrix_2 ((17 * v1) + v2).toNatClampNeg) v3) (fun r_3 => it2 (kX10_eliminate_L3 f_now v2 v3 v1 r_3) 400 (v1 + 1) f_matrix_2)) else ck ((17 * v1) + v5_2) 136 (ck ((17 * v4_1) + v5_2) 136 (ck ((17 * v1) + v5_2) 136 (ck ((17 * v4_1) + v5_2) 136 (K_2 (v5_2 + 1) (upd (upd f_matrix_2 ((17 * v1) + v5_2).toNatClampNeg (f_matrix_2 ((17 * v4_1) + v5_2).toNatClampNeg)) ((17 * v4_1) + v5_2).toNatClampNeg (f_matrix_2 ((17 * v1) + v5_2).toNatClampNeg))))))
def kX10_eliminate_L1 (v1 : Int32) (v2 : Int32) (v3 : Int32) (f_now : Nat → Int32) (f_matrix : Nat → Int32) (K_1 : Int32 → Int32 → Option (Int32 × (Nat → Int32))) (v4_1 : Int32) (v5_1 : Int32) : Option (Int32 × (Nat → Int32)) :=
  if v5_1 < v1 then if 0 ≤ v4_1 then it2 (kX10_eliminate_L2 v1 v2 v3 f_now v4_1) 400 0 f_matrix else some (0, f_matrix) else ck ((17 * v5_1) + v2) 136 (if (f_matrix ((17 * v5_1) + v2).toNatClampNeg) = 0 then K_1 v4_1 (v5_1 + (-1)) else K_1 v5_1 (v5_1 + (-1)))
def kX10_eliminate (v1 : Int32) (v2 : Int32) (v3 : Int32) (f_now : Nat → Int32) (f_matrix : Nat → Int32) : Option (Int32 × (Nat → Int32)) :=
  bnd1 (kX10_crossings f_now) (fun r_1 => it2 (kX10_eliminate_L1 v1 v2 v3 f_now f_matrix) 400 (-1) (r_1 - 1))
def rmX10_eliminate : Room := { frames := 1, cells := 0, slots := 0, locals := 23 }
theorem qX10_eliminate_0 : (.fieldLink RX10 50 "KnotDiagramModel" "matrix" "[I" : Cond) ∈ wsX10_eliminate := by decide +kernel
theorem qX10_eliminate_X10 : ∀ w ∈ wsX100, w ∈ wsX10_eliminate := by decide +kernel
set_option maxHeartbeats 4000000 in
set_option maxRecDepth 100000 in
theorem mX10_eliminate (l : Launch) (D : va_G) (cyI cyZ : ClassId) (sz : Nat) (a_this a_now a_history a_kept a_isKept a_text a_read a_uses a_entry a_passed a_draft a_label a_met a_bracket a_matrix : Nat) (v1 : Int32) (v2 : Int32) (v3 : Int32) (i_saved : Int32) (i_length : Int32) (i_next : Int32) (f_now : Nat → Int32) (f_matrix : Nat → Int32) (r : Int32) (o_matrix : Nat → Int32) (hf : kX10_eliminate v1 v2 v3 f_now f_matrix = some (r, o_matrix)) : Met l yX10_eliminate wsX10_eliminate rmX10_eliminate (kPre D cyI cyZ [.ref a_this, .int v1, .int v2, .int v3] [(a_this, .inr (7, [.ref a_now, .ref a_history, .int i_saved, .ref a_kept, .ref a_isKept, .ref a_text, .int i_length, .int i_next, .ref a_read, .ref a_uses, .ref a_entry, .ref a_passed, .ref a_draft, .ref a_label, .ref a_met, .ref a_bracket, .ref a_matrix])), (a_now, .inl (cyI, 34, .inl f_now)), (a_matrix, .inl (cyI, 136, .inl f_matrix))] sz) (kQi D cyI cyZ (va_A [(a_this, .inr (7, [.ref a_now, .ref a_history, .int i_saved, .ref a_kept, .ref a_isKept, .ref a_text, .int i_length, .int i_next, .ref a_read, .ref a_uses, .ref a_entry, .ref a_passed, .ref a_draft, .ref a_label, .ref a_met, .ref a_bracket, .ref a_matrix])), (a_now, .inl (cyI, 34, .inl f_now)), (a_matrix, .inl (cyI, 136, .inl f_matrix))] sz) [(a_this, .inr (7, [.ref a_now, .ref a_history, .int i_saved, .ref a_kept, .ref a_isKept, .ref a_text, .int i_length, .int i_next, .ref a_read, .ref a_uses, .ref a_entry, .ref a_passed, .ref a_draft, .ref a_label, .ref a_met, .ref a_bracket, .ref a_matrix])), (a_now, .inl (cyI, 34, .inl f_now)), (a_matrix, .inl (cyI, 136, .inl o_matrix))] r) 0 0 (va_A [(a_this, .inr (7, [.ref a_now, .ref a_history, .int i_saved, .ref a_kept, .ref a_isKept, .ref a_text, .int i_length, .int i_next, .ref a_read, .ref a_uses, .ref a_entry, .ref a_passed, .ref a_draft, .ref a_label, .ref a_met, .ref a_bracket, .ref a_matrix])), (a_now, .inl (cyI, 34, .inl f_now)), (a_matrix, .inl (cyI, 136, .inl f_matrix))] sz) := by
  refine Met.ofW (cc := cX10_eliminate) (maxL := 10) (ret := (some .boolean)) (by decide) rfl ?_
  intro p e s m args below meth c s₁ B hml hv
  obtain ⟨rfl, hsz, hP, hK, hD0, hN⟩ := hv
  have hx := B.exec
  have hb := B.bytes
  have hr := B.returns
  have hts := atoms_spec (ws := wsX10_eliminate) B.pre
  have hown : s.vm.findClass RX10 = some m.cls := findClass_of_methodNamed B.named
  have hlocks := B.notSynchronized
  subst hsz
  have hD := hD0.self (sz := s.heap.size)
  generalize hAe : va_A [(a_this, .inr (7, [.ref a_now, .ref a_history, .int i_saved, .ref a_kept, .ref a_isKept, .ref a_text, .int i_length, .int i_next, .ref a_read, .ref a_uses, .ref a_entry, .ref a_passed, .ref a_draft, .ref a_label, .ref a_met, .ref a_bracket, .ref a_matrix])), (a_now, .inl (cyI, 34, .inl f_now)), (a_matrix, .inl (cyI, 136, .inl f_matrix))] s.heap.size = A at hD ⊢
  have hA : ∀ q : Nat, s.heap.size ≤ q → A q := fun q h => by rw [← hAe]; exact Or.inr h
  clear hAe hD0
  have hS : va_S A s.heap s.heap [] := va_S.rf
  have S : CallFix p m c cX10_eliminate 10 s (([.ref a_this, .int v1, .int v2, .int v3] : List Value).toArray) wsX10_eliminate RX10 := ⟨hx, hb, hml, hown, hts⟩
  have hl := lv_entry ([.ref a_this, .int v1, .int v2, .int v3]) (n := 10) (Nat.le_of_ble_eq_true rfl)
  rw [lg_entry_eq]
  generalize (lg_sl ([.ref a_this, .int v1, .int v2, .int v3]) ++ List.replicate (10 - (lg_sl ([.ref a_this, .int v1, .int v2, .int v3])).length) Slot.unset).toArray = ls at hl ⊢
  replace hl : lv_has ls 10 [(0, .ref a_this), (1, .int v1), (2, .int v2), (3, .int v3)] := hl
  generalize ([] : List Loc) = locs at hS ⊢
  delta kX10_eliminate at hf
  obtain ⟨H, hH⟩ : ∃ H, H = s.heap := ⟨_, rfl⟩
  have hS : va_S A s.heap H locs := by rw [hH]; exact hS
  have hP : va_P D vwCl [(a_this, .inr (7, [.ref a_now, .ref a_history, .int i_saved, .ref a_kept, .ref a_isKept, .ref a_text, .int i_length, .int i_next, .ref a_read, .ref a_uses, .ref a_entry, .ref a_passed, .ref a_draft, .ref a_label, .ref a_met, .ref a_bracket, .ref a_matrix])), (a_now, .inl (cyI, 34, .inl f_now)), (a_matrix, .inl (cyI, 136, .inl f_matrix))] H := by rw [hH]; exact hP
  suffices hgo : W p l e (headSpec wsX10_eliminate rmX10_eliminate).room s m (([.ref a_this, .int v1, .int v2, .int v3] : List Value).toArray) below meth c H locs 0 0 (MQ below (kQi D cyI cyZ A [(a_this, .inr (7, [.ref a_now, .ref a_history, .int i_saved, .ref a_kept, .ref a_isKept, .ref a_text, .int i_length, .int i_next, .ref a_read, .ref a_uses, .ref a_entry, .ref a_passed, .ref a_draft, .ref a_label, .ref a_met, .ref a_bracket, .ref a_matrix])), (a_now, .inl (cyI, 34, .inl f_now)), (a_matrix, .inl (cyI, 136, .inl o_matrix))] r) (([.ref a_this, .int v1, .int v2, .int v3] : List Value).toArray) s 0 0 A) (F0 m 0 ls []) by rw [hH] at hgo; exact hgo
  clear hH
  refine lv_iconst (v := (-1)) hx hb dX10_eliminate_0 (by decide) ?_
  refine lv_istore (lv' := [(4, .int (-1)), (0, .ref a_this), (1, .int v1), (2, .int v2), (3, .int v3)]) hx hb dX10_eliminate_1 hl (by decide) rfl (fun ls hl => ?_)
  refine lv_aload_n hx hb dX10_eliminate_3 rfl (lv_at hl 1 rfl) ?_
  obtain ⟨r_1, hc_1, hf⟩ := bnd1_s hf
  refine kcVi (As := []) (rest := []) (w2 := [(a_this, .inr (7, [.ref a_now, .ref a_history, .int i_saved, .ref a_kept, .ref a_isKept, .ref a_text, .int i_length, .int i_next, .ref a_read, .ref a_uses, .ref a_entry, .ref a_passed, .ref a_draft, .ref a_label, .ref a_met, .ref a_bracket, .ref a_matrix])), (a_now, .inl (cyI, 34, .inl f_now)), (a_matrix, .inl (cyI, 136, .inl f_matrix))]) S hK hP hD hS hA hN (mX10_crossings l D cyI cyZ H.size a_this a_now a_history a_kept a_isKept a_text a_read a_uses a_entry a_passed a_draft a_label a_met a_bracket a_matrix i_saved i_length i_next f_now r_1 hc_1) (cwV 0 hts gX10_eliminate_X10_crossings rfl rfl rfl (by decide +kernel) ⟨Nat.le_of_ble_eq_true rfl, Nat.le_of_ble_eq_true rfl⟩) 7 0 rfl rfl [0, 1] [2] [1, 2, 0] rfl rfl rfl rfl (by decide) rfl rfl hl.1 (Nat.le_of_ble_eq_true rfl) dX10_eliminate_4 ⟨Nat.le_of_ble_eq_true rfl, Nat.le_of_ble_eq_true rfl⟩ (fun H locs hP hD hS => ?_)
  refine lv_iconst (v := 1) hx hb dX10_eliminate_7 (by decide) ?_
  refine lv_isub hx hb dX10_eliminate_8 ?_
  refine lv_istore (lv' := [(5, .int (r_1 - 1)), (4, .int (-1)), (0, .ref a_this), (1, .int v1), (2, .int v2), (3, .int v3)]) hx hb dX10_eliminate_9 hl (by decide) rfl (fun ls hl => ?_)
  have hL_1 : ∀ (n : Nat) (v4_1 : Int32) (v5_1 : Int32) (H : Heap) (locs : List Loc) (ls : Array Slot), it2 (kX10_eliminate_L1 v1 v2 v3 f_now f_matrix) n v4_1 v5_1 = some (r, o_matrix) → va_P D vwCl [(a_this, .inr (7, [.ref a_now, .ref a_history, .int i_saved, .ref a_kept, .ref a_isKept, .ref a_text, .int i_length, .int i_next, .ref a_read, .ref a_uses, .ref a_entry, .ref a_passed, .ref a_draft, .ref a_label, .ref a_met, .ref a_bracket, .ref a_matrix])), (a_now, .inl (cyI, 34, .inl f_now)), (a_matrix, .inl (cyI, 136, .inl f_matrix))] H → va_D A [(a_this, .inr (7, [.ref a_now, .ref a_history, .int i_saved, .ref a_kept, .ref a_isKept, .ref a_text, .int i_length, .int i_next, .ref a_read, .ref a_uses, .ref a_entry, .ref a_passed, .ref a_draft, .ref a_label, .ref a_met, .ref a_bracket, .ref a_matrix])), (a_now, .inl (cyI, 34, .inl f_now)), (a_matrix, .inl (cyI, 136, .inl f_matrix))] → va_S A s.heap H locs → lv_has ls 10 [(0, .ref a_this), (1, .int v1), (2, .int v2), (3, .int v3), (4, .int v4_1), (5, .int v5_1)] → W p l e (headSpec wsX10_eliminate rmX10_eliminate).room s m (([.ref a_this, .int v1, .int v2, .int v3] : List Value).toArray) below meth c H locs 0 0 (MQ below (kQi D cyI cyZ A [(a_this, .inr (7, [.ref a_now, .ref a_history, .int i_saved, .ref a_kept, .ref a_isKept, .ref a_text, .int i_length, .int i_next, .ref a_read, .ref a_uses, .ref a_entry, .ref a_passed, .ref a_draft, .ref a_label, .ref a_met, .ref a_bracket, .ref a_matrix])), (a_now, .inl (cyI, 34, .inl f_now)), (a_matrix, .inl (cyI, 136, .inl o_matrix))] r) (([.ref a_this, .int v1, .int v2, .int v3] : List Value).toArray) s 0 0 A) (F0 m 11 ls []) := by
    intro n_1
    induction n_1 with
    | zero =>
      intro _ _ _ _ _ hf
      exact (it2_z hf).elim
    | succ n_1 ih_1 =>
      intro v4_1 v5_1 H locs ls hf hP hD hS hl
      replace hf := it2_s hf
      rw [kX10_eliminate_L1] at hf
      refine lv_iload hx hb dX10_eliminate_11 (lv_at hl 5 rfl) ?_
      refine lv_iload_n hx hb dX10_eliminate_13 rfl (lv_at hl 1 rfl) ?_
      refine lv_icmp_lt (tgt := 47) hx hb dX10_eliminate_14 (by decide) (fun c_22 => ?_) (fun c_22 => ?_)
      · replace hf := kt_p hf c_22
        refine lv_iload hx hb dX10_eliminate_47 (lv_at hl 4 rfl) ?_
        refine lv_if_ge (tgt := 54) hx hb dX10_eliminate_49 (by decide) (fun c_19 => ?_) (fun c_19 => ?_)
        · replace hf := kt_p hf c_19
          refine lv_iconst (v := 0) hx hb dX10_eliminate_54 (by decide) ?_
          refine lv_istore (lv' := [(5, .int 0), (0, .ref a_this), (1, .int v1), (2, .int v2), (3, .int v3), (4, .int v4_1)]) hx hb dX10_eliminate_55 hl (by decide) rfl (fun ls hl => ?_)
          have hL_2 : ∀ (n : Nat) (v5_2 : Int32) (f_matrix_2 : Nat → Int32) (H : Heap) (locs : List Loc) (ls : Array Slot), it2 (kX10_eliminate_L2 v1 v2 v3 f_now v4_1) n v5_2 f_matrix_2 = some (r, o_matrix) → va_P D vwCl [(a_this, .inr (7, [.ref a_now, .ref a_history, .int i_saved, .ref a_kept, .ref a_isKept, .ref a_text, .int i_length, .int i_next, .ref a_read, .ref a_uses, .ref a_entry, .ref a_passed, .ref a_draft, .ref a_label, .ref a_met, .ref a_bracket, .ref a_matrix])), (a_now, .inl (cyI, 34, .inl f_now)), (a_matrix, .inl (cyI, 136, .inl f_matrix_2))] H → va_D A [(a_this, .inr (7, [.ref a_now, .ref a_history, .int i_saved, .ref a_kept, .ref a_isKept, .ref a_text, .int i_length, .int i_next, .ref a_read, .ref a_uses, .ref a_entry, .ref a_passed, .ref a_draft, .ref a_label, .ref a_met, .ref a_bracket, .ref a_matrix])), (a_now, .inl (cyI, 34, .inl f_now)), (a_matrix, .inl (cyI, 136, .inl f_matrix_2))] → va_S A s.heap H locs → lv_has ls 10 [(0, .ref a_this), (1, .int v1), (2, .int v2), (3, .int v3), (4, .int v4_1), (5, .int v5_2)] → W p l e (headSpec wsX10_eliminate rmX10_eliminate).room s m (([.ref a_this, .int v1, .int v2, .int v3] : List Value).toArray) below meth c H locs 0 0 (MQ below (kQi D cyI cyZ A [(a_this, .inr (7, [.ref a_now, .ref a_history, .int i_saved, .ref a_kept, .ref a_isKept, .ref a_text, .int i_length, .int i_next, .ref a_read, .ref a_uses, .ref a_entry, .ref a_passed, .ref a_draft, .ref a_label, .ref a_met, .ref a_bracket, .ref a_matrix])), (a_now, .inl (cyI, 34, .inl f_now)), (a_matrix, .inl (cyI, 136, .inl o_matrix))] r) (([.ref a_this, .int v1, .int v2, .int v3] : List Value).toArray) s 0 0 A) (F0 m 57 ls []) := by
            intro n_2
            induction n_2 with
            | zero =>
              intro _ _ _ _ _ hf
              exact (it2_z hf).elim
            | succ n_2 ih_2 =>
              intro v5_2 f_matrix_2 H locs ls hf hP hD hS hl
              replace hf := it2_s hf
              rw [kX10_eliminate_L2] at hf
              refine lv_iload hx hb dX10_eliminate_57 (lv_at hl 5 rfl) ?_
              refine lv_bipush (v := 17) hx hb dX10_eliminate_59 (by decide) ?_
              refine lv_icmp_ge (tgt := 124) hx hb dX10_eliminate_61 (by decide) (fun c_18 => ?_) (fun c_18 => ?_)
              · replace hf := kt_p hf c_18
                refine lv_aload_n hx hb dX10_eliminate_124 rfl (lv_at hl 0 rfl) ?_
                refine va_get (D := D) (ci := 7) (v := .ref a_matrix) (C := RX10) (T := TX10) (N := 17) hx hb hts qX10_eliminate_X10 hown hK hP 0 rfl rfl 16 (Nat.le_of_ble_eq_true rfl) (hts (.fieldLink RX10 50 "KnotDiagramModel" "matrix" "[I") qX10_eliminate_0) (fun _ h9 => h9) rfl dX10_eliminate_125 ?_
                refine lv_bipush (v := 17) hx hb dX10_eliminate_128 (by decide) ?_
                refine lv_iload_n hx hb dX10_eliminate_130 rfl (lv_at hl 1 rfl) ?_
                refine lv_imul hx hb dX10_eliminate_131 ?_
                refine lv_iload_n hx hb dX10_eliminate_132 rfl (lv_at hl 2 rfl) ?_
                refine lv_iadd hx hb dX10_eliminate_133 ?_
                obtain ⟨hi_2, hf⟩ := ck_s hf
                refine va_iald hx hb hK hP 2 0 rfl rfl hi_2 dX10_eliminate_134 ?_
                refine lv_iload_n hx hb dX10_eliminate_135 rfl (lv_at hl 3 rfl) ?_
                obtain ⟨r_3, hc_3, hf⟩ := bnd1_s hf
                refine kcSi (As := [.int (f_matrix_2 ((17 * v1) + v2).toNatClampNeg), .int v3]) (rest := []) (w2 := [(a_this, .inr (7, [.ref a_now, .ref a_history, .int i_saved, .ref a_kept, .ref a_isKept, .ref a_text, .int i_length, .int i_next, .ref a_read, .ref a_uses, .ref a_entry, .ref a_passed, .ref a_draft, .ref a_label, .ref a_met, .ref a_bracket, .ref a_matrix])), (a_now, .inl (cyI, 34, .inl f_now)), (a_matrix, .inl (cyI, 136, .inl f_matrix_2))]) S hK hP hD hS hA hN (mX10_inverse l D cyI cyZ H.size (f_matrix_2 ((17 * v1) + v2).toNatClampNeg) v3 r_3 hc_3) (va_cwS 2 hts gX10_eliminate_X10_inverse rfl rfl rfl (by decide +kernel) ⟨Nat.le_of_ble_eq_true rfl, Nat.le_of_ble_eq_true rfl⟩) [] [0, 1, 2] [0, 1, 2] rfl rfl rfl rfl (by decide) rfl rfl hl.1 (Nat.le_of_ble_eq_true rfl) dX10_eliminate_136 ⟨Nat.le_of_ble_eq_true rfl, Nat.le_of_ble_eq_true rfl⟩ (fun H locs hP hD hS => ?_)
                refine lv_istore (lv' := [(5, .int r_3), (0, .ref a_this), (1, .int v1), (2, .int v2), (3, .int v3), (4, .int v4_1)]) hx hb dX10_eliminate_139 hl (by decide) rfl (fun ls hl => ?_)
                refine lv_iload_n hx hb dX10_eliminate_141 rfl (lv_at hl 2 rfl) ?_
                refine lv_iconst (v := 1) hx hb dX10_eliminate_142 (by decide) ?_
                refine lv_iadd hx hb dX10_eliminate_143 ?_
                refine lv_istore (lv' := [(6, .int (v1 + 1)), (5, .int r_3), (0, .ref a_this), (1, .int v1), (2, .int v2), (3, .int v3), (4, .int v4_1)]) hx hb dX10_eliminate_144 hl (by decide) rfl (fun ls hl => ?_)
                have hL_3 : ∀ (n : Nat) (v6_3 : Int32) (f_matrix_3 : Nat → Int32) (H : Heap) (locs : List Loc) (ls : Array Slot), it2 (kX10_eliminate_L3 f_now v2 v3 v1 r_3) n v6_3 f_matrix_3 = some (r, o_matrix) → va_P D vwCl [(a_this, .inr (7, [.ref a_now, .ref a_history, .int i_saved, .ref a_kept, .ref a_isKept, .ref a_text, .int i_length, .int i_next, .ref a_read, .ref a_uses, .ref a_entry, .ref a_passed, .ref a_draft, .ref a_label, .ref a_met, .ref a_bracket, .ref a_matrix])), (a_now, .inl (cyI, 34, .inl f_now)), (a_matrix, .inl (cyI, 136, .inl f_matrix_3))] H → va_D A [(a_this, .inr (7, [.ref a_now, .ref a_history, .int i_saved, .ref a_kept, .ref a_isKept, .ref a_text, .int i_length, .int i_next, .ref a_read, .ref a_uses, .ref a_entry, .ref a_passed, .ref a_draft, .ref a_label, .ref a_met, .ref a_bracket, .ref a_matrix])), (a_now, .inl (cyI, 34, .inl f_now)), (a_matrix, .inl (cyI, 136, .inl f_matrix_3))] → va_S A s.heap H locs → lv_has ls 10 [(0, .ref a_this), (1, .int v1), (2, .int v2), (3, .int v3), (5, .int r_3), (6, .int v6_3)] → W p l e (headSpec wsX10_eliminate rmX10_eliminate).room s m (([.ref a_this, .int v1, .int v2, .int v3] : List Value).toArray) below meth c H locs 0 0 (MQ below (kQi D cyI cyZ A [(a_this, .inr (7, [.ref a_now, .ref a_history, .int i_saved, .ref a_kept, .ref a_isKept, .ref a_text, .int i_length, .int i_next, .ref a_read, .ref a_uses, .ref a_entry, .ref a_passed, .ref a_draft, .ref a_label, .ref a_met, .ref a_bracket, .ref a_matrix])), (a_now, .inl (cyI, 34, .inl f_now)), (a_matrix, .inl (cyI, 136, .inl o_matrix))] r) (([.ref a_this, .int v1, .int v2, .int v3] : List Value).toArray) s 0 0 A) (F0 m 146 ls []) := by
                  intro n_3
                  induction n_3 with
                  | zero =>
                    intro _ _ _ _ _ hf
                    exact (it2_z hf).elim
                  | succ n_3 ih_3 =>
                    intro v6_3 f_matrix_3 H locs ls hf hP hD hS hl
                    replace hf := it2_s hf
                    rw [kX10_eliminate_L3] at hf
                    refine lv_iload hx hb dX10_eliminate_146 (lv_at hl 5 rfl) ?_
                    refine lv_aload_n hx hb dX10_eliminate_148 rfl (lv_at hl 0 rfl) ?_
                    obtain ⟨r_4, hc_4, hf⟩ := bnd1_s hf
                    refine kcVi (As := []) (rest := [.int v6_3]) (w2 := [(a_this, .inr (7, [.ref a_now, .ref a_history, .int i_saved, .ref a_kept, .ref a_isKept, .ref a_text, .int i_length, .int i_next, .ref a_read, .ref a_uses, .ref a_entry, .ref a_passed, .ref a_draft, .ref a_label, .ref a_met, .ref a_bracket, .ref a_matrix])), (a_now, .inl (cyI, 34, .inl f_now)), (a_matrix, .inl (cyI, 136, .inl f_matrix_3))]) S hK hP hD hS hA hN (mX10_crossings l D cyI cyZ H.size a_this a_now a_history a_kept a_isKept a_text a_read a_uses a_entry a_passed a_draft a_label a_met a_bracket a_matrix i_saved i_length i_next f_now r_4 hc_4) (cwV 0 hts gX10_eliminate_X10_crossings rfl rfl rfl (by decide +kernel) ⟨Nat.le_of_ble_eq_true rfl, Nat.le_of_ble_eq_true rfl⟩) 7 0 rfl rfl [0, 1] [2] [1, 2, 0] rfl rfl rfl rfl (by decide) rfl rfl hl.1 (Nat.le_of_ble_eq_true rfl) dX10_eliminate_149 ⟨Nat.le_of_ble_eq_true rfl, Nat.le_of_ble_eq_true rfl⟩ (fun H locs hP hD hS => ?_)
                    refine lv_icmp_ge (tgt := 248) hx hb dX10_eliminate_152 (by decide) (fun c_13 => ?_) (fun c_13 => ?_)
                    · replace hf := kt_p hf c_13
                      refine lv_iconst (v := 1) hx hb dX10_eliminate_248 (by decide) ?_
                      obtain ⟨rfl, rfl⟩ := some2_s hf
                      exact kRz hx hb hr hlocks hP hK hD hS zn1 rfl dX10_eliminate_249
                    · replace hf := kt_n hf c_13
                      refine lv_aload_n hx hb dX10_eliminate_155 rfl (lv_at hl 0 rfl) ?_
                      refine va_get (D := D) (ci := 7) (v := .ref a_matrix) (C := RX10) (T := TX10) (N := 17) hx hb hts qX10_eliminate_X10 hown hK hP 0 rfl rfl 16 (Nat.le_of_ble_eq_true rfl) (hts (.fieldLink RX10 50 "KnotDiagramModel" "matrix" "[I") qX10_eliminate_0) (fun _ h9 => h9) rfl dX10_eliminate_156 ?_
                      refine lv_bipush (v := 17) hx hb dX10_eliminate_159 (by decide) ?_
                      refine lv_iload hx hb dX10_eliminate_161 (lv_at hl 5 rfl) ?_
                      refine lv_imul hx hb dX10_eliminate_163 ?_
                      refine lv_iload_n hx hb dX10_eliminate_164 rfl (lv_at hl 2 rfl) ?_
                      refine lv_iadd hx hb dX10_eliminate_165 ?_
                      obtain ⟨hi_5, hf⟩ := ck_s hf
                      refine va_iald hx hb hK hP 2 0 rfl rfl hi_5 dX10_eliminate_166 ?_
                      refine lv_iload hx hb dX10_eliminate_167 (lv_at hl 4 rfl) ?_
                      refine lv_imul hx hb dX10_eliminate_169 ?_
                      refine lv_iload_n hx hb dX10_eliminate_170 rfl (lv_at hl 3 rfl) ?_
                      obtain ⟨hz_6, hf⟩ := cz_s hf
                      refine k_irem hx hb dX10_eliminate_171 hz_6 ?_
                      refine lv_istore (lv' := [(7, .int (irem ((f_matrix_3 ((17 * v6_3) + v2).toNatClampNeg) * r_3) v3)), (0, .ref a_this), (1, .int v1), (2, .int v2), (3, .int v3), (5, .int r_3), (6, .int v6_3)]) hx hb dX10_eliminate_172 hl (by decide) rfl (fun ls hl => ?_)
                      refine lv_iconst (v := 0) hx hb dX10_eliminate_174 (by decide) ?_
                      refine lv_istore (lv' := [(8, .int 0), (7, .int (irem ((f_matrix_3 ((17 * v6_3) + v2).toNatClampNeg) * r_3) v3)), (0, .ref a_this), (1, .int v1), (2, .int v2), (3, .int v3), (5, .int r_3), (6, .int v6_3)]) hx hb dX10_eliminate_175 hl (by decide) rfl (fun ls hl => ?_)
                      have hL_4 : ∀ (n : Nat) (v8_4 : Int32) (f_matrix_4 : Nat → Int32) (H : Heap) (locs : List Loc) (ls : Array Slot), it2 (kX10_eliminate_L4 (it2 (kX10_eliminate_L3 f_now v2 v3 v1 r_3) n_3) v6_3 v1 v3 f_matrix_3 v2 r_3) n v8_4 f_matrix_4 = some (r, o_matrix) → va_P D vwCl [(a_this, .inr (7, [.ref a_now, .ref a_history, .int i_saved, .ref a_kept, .ref a_isKept, .ref a_text, .int i_length, .int i_next, .ref a_read, .ref a_uses, .ref a_entry, .ref a_passed, .ref a_draft, .ref a_label, .ref a_met, .ref a_bracket, .ref a_matrix])), (a_now, .inl (cyI, 34, .inl f_now)), (a_matrix, .inl (cyI, 136, .inl f_matrix_4))] H → va_D A [(a_this, .inr (7, [.ref a_now, .ref a_history, .int i_saved, .ref a_kept, .ref a_isKept, .ref a_text, .int i_length, .int i_next, .ref a_read, .ref a_uses, .ref a_entry, .ref a_passed, .ref a_draft, .ref a_label, .ref a_met, .ref a_bracket, .ref a_matrix])), (a_now, .inl (cyI, 34, .inl f_now)), (a_matrix, .inl (cyI, 136, .inl f_matrix_4))] → va_S A s.heap H locs → lv_has ls 10 [(0, .ref a_this), (1, .int v1), (2, .int v2), (3, .int v3), (5, .int r_3), (6, .int v6_3), (7, .int (irem ((f_matrix_3 ((17 * v6_3) + v2).toNatClampNeg) * r_3) v3)), (8, .int v8_4)] → W p l e (headSpec wsX10_eliminate rmX10_eliminate).room s m (([.ref a_this, .int v1, .int v2, .int v3] : List Value).toArray) below meth c H locs 0 0 (MQ below (kQi D cyI cyZ A [(a_this, .inr (7, [.ref a_now, .ref a_history, .int i_saved, .ref a_kept, .ref a_isKept, .ref a_text, .int i_length, .int i_next, .ref a_read, .ref a_uses, .ref a_entry, .ref a_passed, .ref a_draft, .ref a_label, .ref a_met, .ref a_bracket, .ref a_matrix])), (a_now, .inl (cyI, 34, .inl f_now)), (a_matrix, .inl (cyI, 136, .inl o_matrix))] r) (([.ref a_this, .int v1, .int v2, .int v3] : List Value).toArray) s 0 0 A) (F0 m 177 ls []) := by
                        intro n_4
                        induction n_4 with
                        | zero =>
                          intro _ _ _ _ _ hf
                          exact (it2_z hf).elim
                        | succ n_4 ih_4 =>
                          intro v8_4 f_matrix_4 H locs ls hf hP hD hS hl
                          replace hf := it2_s hf
                          rw [kX10_eliminate_L4] at hf
                          refine lv_iload hx hb dX10_eliminate_177 (lv_at hl 7 rfl) ?_
                          refine lv_bipush (v := 17) hx hb dX10_eliminate_179 (by decide) ?_
                          refine lv_icmp_ge (tgt := 242) hx hb dX10_eliminate_181 (by decide) (fun c_12 => ?_) (fun c_12 => ?_)
                          · replace hf := kt_p hf c_12
                            refine lv_iinc (v := (v6_3 + 1)) (lv' := [(6, .int (v6_3 + 1)), (0, .ref a_this), (1, .int v1), (2, .int v2), (3, .int v3), (5, .int r_3), (7, .int (irem ((f_matrix_3 ((17 * v6_3) + v2).toNatClampNeg) * r_3) v3)), (8, .int v8_4)]) hx hb dX10_eliminate_242 hl (k := 5) rfl rfl (by decide) rfl (fun ls hl => ?_)
                            refine lv_goto (tgt := 146) hx hb dX10_eliminate_245 (by decide) ?_
                            exact ih_3 (v6_3 + 1) f_matrix_4 H locs ls hf hP hD hS (lv_sub hl [1, 2, 3, 4, 5, 0] rfl)
                          · replace hf := kt_n hf c_12
                            refine lv_aload_n hx hb dX10_eliminate_184 rfl (lv_at hl 0 rfl) ?_
                            refine va_get (D := D) (ci := 7) (v := .ref a_matrix) (C := RX10) (T := TX10) (N := 17) hx hb hts qX10_eliminate_X10 hown hK hP 0 rfl rfl 16 (Nat.le_of_ble_eq_true rfl) (hts (.fieldLink RX10 50 "KnotDiagramModel" "matrix" "[I") qX10_eliminate_0) (fun _ h9 => h9) rfl dX10_eliminate_185 ?_
                            refine lv_bipush (v := 17) hx hb dX10_eliminate_188 (by decide) ?_
                            refine lv_iload hx hb dX10_eliminate_190 (lv_at hl 5 rfl) ?_
                            refine lv_imul hx hb dX10_eliminate_192 ?_
                            refine lv_iload hx hb dX10_eliminate_193 (lv_at hl 7 rfl) ?_
                            refine lv_iadd hx hb dX10_eliminate_195 ?_
                            obtain ⟨hi_7, hf⟩ := ck_s hf
                            refine va_iald hx hb hK hP 2 0 rfl rfl hi_7 dX10_eliminate_196 ?_
                            refine lv_iload hx hb dX10_eliminate_197 (lv_at hl 6 rfl) ?_
                            refine lv_aload_n hx hb dX10_eliminate_199 rfl (lv_at hl 0 rfl) ?_
                            refine va_get (D := D) (ci := 7) (v := .ref a_matrix) (C := RX10) (T := TX10) (N := 17) hx hb hts qX10_eliminate_X10 hown hK hP 0 rfl rfl 16 (Nat.le_of_ble_eq_true rfl) (hts (.fieldLink RX10 50 "KnotDiagramModel" "matrix" "[I") qX10_eliminate_0) (fun _ h9 => h9) rfl dX10_eliminate_200 ?_
                            refine lv_bipush (v := 17) hx hb dX10_eliminate_203 (by decide) ?_
                            refine lv_iload_n hx hb dX10_eliminate_205 rfl (lv_at hl 1 rfl) ?_
                            refine lv_imul hx hb dX10_eliminate_206 ?_
                            refine lv_iload hx hb dX10_eliminate_207 (lv_at hl 7 rfl) ?_
                            refine lv_iadd hx hb dX10_eliminate_209 ?_
                            obtain ⟨hi_8, hf⟩ := ck_s hf
                            refine va_iald hx hb hK hP 2 0 rfl rfl hi_8 dX10_eliminate_210 ?_
                            refine lv_imul hx hb dX10_eliminate_211 ?_
                            refine lv_iload_n hx hb dX10_eliminate_212 rfl (lv_at hl 3 rfl) ?_
                            obtain ⟨hz_9, hf⟩ := cz_s hf
                            refine k_irem hx hb dX10_eliminate_213 hz_9 ?_
                            refine lv_isub hx hb dX10_eliminate_214 ?_
                            refine lv_istore (lv' := [(9, .int ((f_matrix_4 ((17 * v6_3) + v8_4).toNatClampNeg) - (irem ((irem ((f_matrix_3 ((17 * v6_3) + v2).toNatClampNeg) * r_3) v3) * (f_matrix_4 ((17 * v1) + v8_4).toNatClampNeg)) v3))), (0, .ref a_this), (1, .int v1), (2, .int v2), (3, .int v3), (5, .int r_3), (6, .int v6_3), (7, .int (irem ((f_matrix_3 ((17 * v6_3) + v2).toNatClampNeg) * r_3) v3)), (8, .int v8_4)]) hx hb dX10_eliminate_215 hl (by decide) rfl (fun ls hl => ?_)
                            refine lv_aload_n hx hb dX10_eliminate_217 rfl (lv_at hl 1 rfl) ?_
                            refine va_get (D := D) (ci := 7) (v := .ref a_matrix) (C := RX10) (T := TX10) (N := 17) hx hb hts qX10_eliminate_X10 hown hK hP 0 rfl rfl 16 (Nat.le_of_ble_eq_true rfl) (hts (.fieldLink RX10 50 "KnotDiagramModel" "matrix" "[I") qX10_eliminate_0) (fun _ h9 => h9) rfl dX10_eliminate_218 ?_
                            refine lv_bipush (v := 17) hx hb dX10_eliminate_221 (by decide) ?_
                            refine lv_iload hx hb dX10_eliminate_223 (lv_at hl 6 rfl) ?_
                            refine lv_imul hx hb dX10_eliminate_225 ?_
                            refine lv_iload hx hb dX10_eliminate_226 (lv_at hl 8 rfl) ?_
                            refine lv_iadd hx hb dX10_eliminate_228 ?_
                            refine lv_iload hx hb dX10_eliminate_229 (lv_at hl 0 rfl) ?_
                            refine lv_iload_n hx hb dX10_eliminate_231 rfl (lv_at hl 4 rfl) ?_
                            refine lv_iadd hx hb dX10_eliminate_232 ?_
                            refine lv_iload_n hx hb dX10_eliminate_233 rfl (lv_at hl 4 rfl) ?_
                            obtain ⟨hz_10, hf⟩ := cz_s hf
                            refine k_irem hx hb dX10_eliminate_234 hz_10 ?_
                            obtain ⟨hi_11, hf⟩ := ck_s hf
                            refine va_iast hx hb hK hP hD hS 2 0 rfl rfl hi_11 dX10_eliminate_235 (fun H locs hP hD hS => ?_)
                            replace hP : va_P D vwCl [(a_this, .inr (7, [.ref a_now, .ref a_history, .int i_saved, .ref a_kept, .ref a_isKept, .ref a_text, .int i_length, .int i_next, .ref a_read, .ref a_uses, .ref a_entry, .ref a_passed, .ref a_draft, .ref a_label, .ref a_met, .ref a_bracket, .ref a_matrix])), (a_now, .inl (cyI, 34, .inl f_now)), (a_matrix, .inl (cyI, 136, .inl (upd f_matrix_4 ((17 * v6_3) + v8_4).toNatClampNeg (irem (((f_matrix_4 ((17 * v6_3) + v8_4).toNatClampNeg) - (irem ((irem ((f_matrix_3 ((17 * v6_3) + v2).toNatClampNeg) * r_3) v3) * (f_matrix_4 ((17 * v1) + v8_4).toNatClampNeg)) v3)) + v3) v3))))] H := hP
                            replace hD : va_D A [(a_this, .inr (7, [.ref a_now, .ref a_history, .int i_saved, .ref a_kept, .ref a_isKept, .ref a_text, .int i_length, .int i_next, .ref a_read, .ref a_uses, .ref a_entry, .ref a_passed, .ref a_draft, .ref a_label, .ref a_met, .ref a_bracket, .ref a_matrix])), (a_now, .inl (cyI, 34, .inl f_now)), (a_matrix, .inl (cyI, 136, .inl (upd f_matrix_4 ((17 * v6_3) + v8_4).toNatClampNeg (irem (((f_matrix_4 ((17 * v6_3) + v8_4).toNatClampNeg) - (irem ((irem ((f_matrix_3 ((17 * v6_3) + v2).toNatClampNeg) * r_3) v3) * (f_matrix_4 ((17 * v1) + v8_4).toNatClampNeg)) v3)) + v3) v3))))] := hD
                            refine lv_iinc (v := (v8_4 + 1)) (lv' := [(8, .int (v8_4 + 1)), (9, .int ((f_matrix_4 ((17 * v6_3) + v8_4).toNatClampNeg) - (irem ((irem ((f_matrix_3 ((17 * v6_3) + v2).toNatClampNeg) * r_3) v3) * (f_matrix_4 ((17 * v1) + v8_4).toNatClampNeg)) v3))), (0, .ref a_this), (1, .int v1), (2, .int v2), (3, .int v3), (5, .int r_3), (6, .int v6_3), (7, .int (irem ((f_matrix_3 ((17 * v6_3) + v2).toNatClampNeg) * r_3) v3))]) hx hb dX10_eliminate_236 hl (k := 8) rfl rfl (by decide) rfl (fun ls hl => ?_)
                            refine lv_goto (tgt := 177) hx hb dX10_eliminate_239 (by decide) ?_
                            exact ih_4 (v8_4 + 1) (upd f_matrix_4 ((17 * v6_3) + v8_4).toNatClampNeg (irem (((f_matrix_4 ((17 * v6_3) + v8_4).toNatClampNeg) - (irem ((irem ((f_matrix_3 ((17 * v6_3) + v2).toNatClampNeg) * r_3) v3) * (f_matrix_4 ((17 * v1) + v8_4).toNatClampNeg)) v3)) + v3) v3)) H locs ls hf hP hD hS (lv_sub hl [2, 3, 4, 5, 6, 7, 8, 0] rfl)
                      exact hL_4 400 0 f_matrix_3 H locs ls hf hP hD hS (lv_sub hl [2, 3, 4, 5, 6, 7, 1, 0] rfl)
                exact hL_3 400 (v1 + 1) f_matrix_2 H locs ls hf hP hD hS (lv_sub hl [2, 3, 4, 5, 1, 0] rfl)
              · replace hf := kt_n hf c_18
                refine lv_aload_n hx hb dX10_eliminate_64 rfl (lv_at hl 0 rfl) ?_
                refine va_get (D := D) (ci := 7) (v := .ref a_matrix) (C := RX10) (T := TX10) (N := 17) hx hb hts qX10_eliminate_X10 hown hK hP 0 rfl rfl 16 (Nat.le_of_ble_eq_true rfl) (hts (.fieldLink RX10 50 "KnotDiagramModel" "matrix" "[I") qX10_eliminate_0) (fun _ h9 => h9) rfl dX10_eliminate_65 ?_
                refine lv_bipush (v := 17) hx hb dX10_eliminate_68 (by decide) ?_
                refine lv_iload_n hx hb dX10_eliminate_70 rfl (lv_at hl 1 rfl) ?_
                refine lv_imul hx hb dX10_eliminate_71 ?_
                refine lv_iload hx hb dX10_eliminate_72 (lv_at hl 5 rfl) ?_
                refine lv_iadd hx hb dX10_eliminate_74 ?_
                obtain ⟨hi_14, hf⟩ := ck_s hf
                refine va_iald hx hb hK hP 2 0 rfl rfl hi_14 dX10_eliminate_75 ?_
                refine lv_istore (lv' := [(6, .int (f_matrix_2 ((17 * v1) + v5_2).toNatClampNeg)), (0, .ref a_this), (1, .int v1), (2, .int v2), (3, .int v3), (4, .int v4_1), (5, .int v5_2)]) hx hb dX10_eliminate_76 hl (by decide) rfl (fun ls hl => ?_)
                refine lv_aload_n hx hb dX10_eliminate_78 rfl (lv_at hl 1 rfl) ?_
                refine va_get (D := D) (ci := 7) (v := .ref a_matrix) (C := RX10) (T := TX10) (N := 17) hx hb hts qX10_eliminate_X10 hown hK hP 0 rfl rfl 16 (Nat.le_of_ble_eq_true rfl) (hts (.fieldLink RX10 50 "KnotDiagramModel" "matrix" "[I") qX10_eliminate_0) (fun _ h9 => h9) rfl dX10_eliminate_79 ?_
                refine lv_bipush (v := 17) hx hb dX10_eliminate_82 (by decide) ?_
                refine lv_iload_n hx hb dX10_eliminate_84 rfl (lv_at hl 2 rfl) ?_
                refine lv_imul hx hb dX10_eliminate_85 ?_
                refine lv_iload hx hb dX10_eliminate_86 (lv_at hl 6 rfl) ?_
                refine lv_iadd hx hb dX10_eliminate_88 ?_
                refine lv_aload_n hx hb dX10_eliminate_89 rfl (lv_at hl 1 rfl) ?_
                refine va_get (D := D) (ci := 7) (v := .ref a_matrix) (C := RX10) (T := TX10) (N := 17) hx hb hts qX10_eliminate_X10 hown hK hP 0 rfl rfl 16 (Nat.le_of_ble_eq_true rfl) (hts (.fieldLink RX10 50 "KnotDiagramModel" "matrix" "[I") qX10_eliminate_0) (fun _ h9 => h9) rfl dX10_eliminate_90 ?_
                refine lv_bipush (v := 17) hx hb dX10_eliminate_93 (by decide) ?_
                refine lv_iload hx hb dX10_eliminate_95 (lv_at hl 5 rfl) ?_
                refine lv_imul hx hb dX10_eliminate_97 ?_
                refine lv_iload hx hb dX10_eliminate_98 (lv_at hl 6 rfl) ?_
                refine lv_iadd hx hb dX10_eliminate_100 ?_
                obtain ⟨hi_15, hf⟩ := ck_s hf
                refine va_iald hx hb hK hP 2 0 rfl rfl hi_15 dX10_eliminate_101 ?_
                obtain ⟨hi_16, hf⟩ := ck_s hf
                refine va_iast hx hb hK hP hD hS 2 0 rfl rfl hi_16 dX10_eliminate_102 (fun H locs hP hD hS => ?_)
                replace hP : va_P D vwCl [(a_this, .inr (7, [.ref a_now, .ref a_history, .int i_saved, .ref a_kept, .ref a_isKept, .ref a_text, .int i_length, .int i_next, .ref a_read, .ref a_uses, .ref a_entry, .ref a_passed, .ref a_draft, .ref a_label, .ref a_met, .ref a_bracket, .ref a_matrix])), (a_now, .inl (cyI, 34, .inl f_now)), (a_matrix, .inl (cyI, 136, .inl (upd f_matrix_2 ((17 * v1) + v5_2).toNatClampNeg (f_matrix_2 ((17 * v4_1) + v5_2).toNatClampNeg))))] H := hP
                replace hD : va_D A [(a_this, .inr (7, [.ref a_now, .ref a_history, .int i_saved, .ref a_kept, .ref a_isKept, .ref a_text, .int i_length, .int i_next, .ref a_read, .ref a_uses, .ref a_entry, .ref a_passed, .ref a_draft, .ref a_label, .ref a_met, .ref a_bracket, .ref a_matrix])), (a_now, .inl (cyI, 34, .inl f_now)), (a_matrix, .inl (cyI, 136, .inl (upd f_matrix_2 ((17 * v1) + v5_2).toNatClampNeg (f_matrix_2 ((17 * v4_1) + v5_2).toNatClampNeg))))] := hD
                refine lv_aload_n hx hb dX10_eliminate_103 rfl (lv_at hl 1 rfl) ?_
                refine va_get (D := D) (ci := 7) (v := .ref a_matrix) (C := RX10) (T := TX10) (N := 17) hx hb hts qX10_eliminate_X10 hown hK hP 0 rfl rfl 16 (Nat.le_of_ble_eq_true rfl) (hts (.fieldLink RX10 50 "KnotDiagramModel" "matrix" "[I") qX10_eliminate_0) (fun _ h9 => h9) rfl dX10_eliminate_104 ?_
                refine lv_bipush (v := 17) hx hb dX10_eliminate_107 (by decide) ?_
                refine lv_iload hx hb dX10_eliminate_109 (lv_at hl 5 rfl) ?_
                refine lv_imul hx hb dX10_eliminate_111 ?_
                refine lv_iload hx hb dX10_eliminate_112 (lv_at hl 6 rfl) ?_
                refine lv_iadd hx hb dX10_eliminate_114 ?_
                refine lv_iload hx hb dX10_eliminate_115 (lv_at hl 0 rfl) ?_
                obtain ⟨hi_17, hf⟩ := ck_s hf
                refine va_iast hx hb hK hP hD hS 2 0 rfl rfl hi_17 dX10_eliminate_117 (fun H locs hP hD hS => ?_)
                replace hP : va_P D vwCl [(a_this, .inr (7, [.ref a_now, .ref a_history, .int i_saved, .ref a_kept, .ref a_isKept, .ref a_text, .int i_length, .int i_next, .ref a_read, .ref a_uses, .ref a_entry, .ref a_passed, .ref a_draft, .ref a_label, .ref a_met, .ref a_bracket, .ref a_matrix])), (a_now, .inl (cyI, 34, .inl f_now)), (a_matrix, .inl (cyI, 136, .inl (upd (upd f_matrix_2 ((17 * v1) + v5_2).toNatClampNeg (f_matrix_2 ((17 * v4_1) + v5_2).toNatClampNeg)) ((17 * v4_1) + v5_2).toNatClampNeg (f_matrix_2 ((17 * v1) + v5_2).toNatClampNeg))))] H := hP
                replace hD : va_D A [(a_this, .inr (7, [.ref a_now, .ref a_history, .int i_saved, .ref a_kept, .ref a_isKept, .ref a_text, .int i_length, .int i_next, .ref a_read, .ref a_uses, .ref a_entry, .ref a_passed, .ref a_draft, .ref a_label, .ref a_met, .ref a_bracket, .ref a_matrix])), (a_now, .inl (cyI, 34, .inl f_now)), (a_matrix, .inl (cyI, 136, .inl (upd (upd f_matrix_2 ((17 * v1) + v5_2).toNatClampNeg (f_matrix_2 ((17 * v4_1) + v5_2).toNatClampNeg)) ((17 * v4_1) + v5_2).toNatClampNeg (f_matrix_2 ((17 * v1) + v5_2).toNatClampNeg))))] := hD
                refine lv_iinc (v := (v5_2 + 1)) (lv' := [(5, .int (v5_2 + 1)), (6, .int (f_matrix_2 ((17 * v1) + v5_2).toNatClampNeg)), (0, .ref a_this), (1, .int v1), (2, .int v2), (3, .int v3), (4, .int v4_1)]) hx hb dX10_eliminate_118 hl (k := 6) rfl rfl (by decide) rfl (fun ls hl => ?_)
                refine lv_goto (tgt := 57) hx hb dX10_eliminate_121 (by decide) ?_
                exact ih_2 (v5_2 + 1) (upd (upd f_matrix_2 ((17 * v1) + v5_2).toNatClampNeg (f_matrix_2 ((17 * v4_1) + v5_2).toNatClampNeg)) ((17 * v4_1) + v5_2).toNatClampNeg (f_matrix_2 ((17 * v1) + v5_2).toNatClampNeg)) H locs ls hf hP hD hS (lv_sub hl [2, 3, 4, 5, 6, 0] rfl)
          exact hL_2 400 0 f_matrix H locs ls hf hP hD hS (lv_sub hl [1, 2, 3, 4, 5, 0] rfl)
        · replace hf := kt_n hf c_19
          refine lv_iconst (v := 0) hx hb dX10_eliminate_52 (by decide) ?_
          obtain ⟨rfl, rfl⟩ := some2_s hf
          exact kRz hx hb hr hlocks hP hK hD hS zn0 rfl dX10_eliminate_53
      · replace hf := kt_n hf c_22
        refine lv_aload_n hx hb dX10_eliminate_17 rfl (lv_at hl 0 rfl) ?_
        refine va_get (D := D) (ci := 7) (v := .ref a_matrix) (C := RX10) (T := TX10) (N := 17) hx hb hts qX10_eliminate_X10 hown hK hP 0 rfl rfl 16 (Nat.le_of_ble_eq_true rfl) (hts (.fieldLink RX10 50 "KnotDiagramModel" "matrix" "[I") qX10_eliminate_0) (fun _ h9 => h9) rfl dX10_eliminate_18 ?_
        refine lv_bipush (v := 17) hx hb dX10_eliminate_21 (by decide) ?_
        refine lv_iload hx hb dX10_eliminate_23 (lv_at hl 5 rfl) ?_
        refine lv_imul hx hb dX10_eliminate_25 ?_
        refine lv_iload_n hx hb dX10_eliminate_26 rfl (lv_at hl 2 rfl) ?_
        refine lv_iadd hx hb dX10_eliminate_27 ?_
        obtain ⟨hi_20, hf⟩ := ck_s hf
        refine va_iald hx hb hK hP 2 0 rfl rfl hi_20 dX10_eliminate_28 ?_
        refine lv_if_eq (tgt := 37) hx hb dX10_eliminate_29 (by decide) (fun c_21 => ?_) (fun c_21 => ?_)
        · replace hf := kt_p hf c_21
          refine lv_iload hx hb dX10_eliminate_37 (lv_at hl 4 rfl) ?_
          refine lv_istore (lv' := [(4, .int v4_1), (0, .ref a_this), (1, .int v1), (2, .int v2), (3, .int v3), (5, .int v5_1)]) hx hb dX10_eliminate_39 hl (by decide) rfl (fun ls hl => ?_)
          refine lv_iinc (v := (v5_1 + (-1))) (lv' := [(5, .int (v5_1 + (-1))), (4, .int v4_1), (0, .ref a_this), (1, .int v1), (2, .int v2), (3, .int v3)]) hx hb dX10_eliminate_41 hl (k := 5) rfl rfl (by decide) rfl (fun ls hl => ?_)
          refine lv_goto (tgt := 11) hx hb dX10_eliminate_44 (by decide) ?_
          exact ih_1 v4_1 (v5_1 + (-1)) H locs ls hf hP hD hS (lv_sub hl [2, 3, 4, 5, 1, 0] rfl)
        · replace hf := kt_n hf c_21
          refine lv_iload hx hb dX10_eliminate_32 (lv_at hl 5 rfl) ?_
          refine lv_goto (tgt := 39) hx hb dX10_eliminate_34 (by decide) ?_
          refine lv_istore (lv' := [(4, .int v5_1), (0, .ref a_this), (1, .int v1), (2, .int v2), (3, .int v3), (5, .int v5_1)]) hx hb dX10_eliminate_39 hl (by decide) rfl (fun ls hl => ?_)
          refine lv_iinc (v := (v5_1 + (-1))) (lv' := [(5, .int (v5_1 + (-1))), (4, .int v5_1), (0, .ref a_this), (1, .int v1), (2, .int v2), (3, .int v3)]) hx hb dX10_eliminate_41 hl (k := 5) rfl rfl (by decide) rfl (fun ls hl => ?_)
          refine lv_goto (tgt := 11) hx hb dX10_eliminate_44 (by decide) ?_
          exact ih_1 v5_1 (v5_1 + (-1)) H locs ls hf hP hD hS (lv_sub hl [2, 3, 4, 5, 1, 0] rfl)
  exact hL_1 400 (-1) (r_1 - 1) H locs ls hf hP hD hS (lv_sub hl [2, 3, 4, 5, 1, 0] rfl)
def kX10_colouringDimension_J4 (f_now : Nat → Int32) (f_label_2 : Nat → Int32) (v2_3 : Int32) (f_matrix_3 : Nat → Int32)  : Option (Int32 × (Nat → Int32) × (Nat → Int32)) :=
  bnd1 (kX10_classes f_now f_label_2) (fun r_4 => ck 1 34 (some (((r_4 + (f_now (1 : Int32).toNatClampNeg)) - v2_3), f_label_2, f_matrix_3)))
def kX10_colouringDimension_J5 (K_3 : Int32 → Int32 → (Nat → Int32) → Option (Int32 × (Nat → Int32) × (Nat → Int32))) (v2_3 : Int32) (v3_3 : Int32) (o_matrix_7 : Nat → Int32) (t1_5 : Int32) : Option (Int32 × (Nat → Int32) × (Nat → Int32)) :=
  K_3 (v2_3 + t1_5) (v3_3 + 1) o_matrix_7
def kX10_colouringDimension_L3 (f_now : Nat → Int32) (f_label_2 : Nat → Int32) (v1 : Int32) (K_3 : Int32 → Int32 → (Nat → Int32) → Option (Int32 × (Nat → Int32) × (Nat → Int32))) (v2_3 : Int32) (v3_3 : Int32) (f_matrix_3 : Nat → Int32) : Option (Int32 × (Nat → Int32) × (Nat → Int32)) :=
  if 16 < v3_3 then kX10_colouringDimension_J4 f_now f_label_2 v2_3 f_matrix_3 else bnd1 (kX10_crossings f_now) (fun r_6 => if r_6 ≤ v2_3 then kX10_colouringDimension_J4 f_now f_label_2 v2_3 f_matrix_3 else bnd2 (kX10_eliminate v2_3 v3_3 v1 f_now f_matrix_3) (fun r_7 o_matrix_7 => if r_7 = 0 then kX10_colouringDimension_J5 K_3 v2_3 v3_3 o_matrix_7 0 else kX10_colouringDimension_J5 K_3 v2_3 v3_3 o_matrix_7 1))
def kX10_colouringDimension_L2 (f_now : Nat → Int32) (v1 : Int32) (f_matrix : Nat → Int32) (K_2 : Int32 → (Nat → Int32) → Option (Int32 × (Nat → Int32) × (Nat → Int32))) (v2_2 : Int32) (f_label_2 : Nat → Int32) : Option (Int32 × (Nat → Int32) × (Nat → Int32)) :=
  bnd1 (kX10_crossings f_now) (fun r_2 => if r_2 ≤ v2_2 then bnd1 (kX10_layEquations v1 f_now f_label_2 f_matrix) (fun o_matrix_3 => it3 (kX10_colouringDimension_L3 f_now f_label_2 v1) 400 0 1 o_matrix_3) else bnd1 (kX10_unite ((4 * v2_2) + 1) ((4 * v2_2) + 3) f_now f_label_2) (fun o_label_11 => K_2 (v2_2 + 1) o_label_11))
def kX10_colouringDimension_J1 (f_label : Nat → Int32) (f_now : Nat → Int32) (v1 : Int32) (f_matrix : Nat → Int32)  : Option (Int32 × (Nat → Int32) × (Nat → Int32)) :=
  bnd1 (kX10_beginClasses f_label) (fun o_label_1 => it2 (kX10_colouringDimension_L2 f_now v1 f_matrix) 400 0 o_label_1)
def kX10_colouringDimension (v1 : Int32) (f_now : Nat → Int32) (f_label : Nat → Int32) (f_matrix : Nat → Int32) : Option (Int32 × (Nat → Int32) × (Nat → Int32)) :=
  if v1 = 3 then kX10_colouringDimension_J1 f_label f_now v1 f_matrix else if v1 = 5 then kX10_colouringDimension_J1 f_label f_now v1 f_matrix else if v1 = 7 then kX10_colouringDimension_J1 f_label f_now v1 f_matrix else if v1 = 11 then kX10_colouringDimension_J1 f_label f_now v1 f_matrix else some ((-1000001), f_label, f_matrix)
def rmX10_colouringDimension : Room := { frames := 3, cells := 0, slots := 0, locals := 68 }
theorem qX10_colouringDimension_0 : (.fieldLink RX10 7 "KnotDiagramModel" "now" "[I" : Cond) ∈ wsX10_colouringDimension := by decide +kernel
theorem qX10_colouringDimension_1 : (.constant RX10 68 (-1000001) : Cond) ∈ wsX10_colouringDimension := by decide +kernel
theorem qX10_colouringDimension_X10 : ∀ w ∈ wsX100, w ∈ wsX10_colouringDimension := by decide +kernel
set_option maxHeartbeats 4000000 in
set_option maxRecDepth 100000 in
theorem mX10_colouringDimension (l : Launch) (D : va_G) (cyI cyZ : ClassId) (sz : Nat) (a_this a_now a_history a_kept a_isKept a_text a_read a_uses a_entry a_passed a_draft a_label a_met a_bracket a_matrix : Nat) (v1 : Int32) (i_saved : Int32) (i_length : Int32) (i_next : Int32) (f_now : Nat → Int32) (f_label : Nat → Int32) (f_matrix : Nat → Int32) (r : Int32) (o_label : Nat → Int32) (o_matrix : Nat → Int32) (hf : kX10_colouringDimension v1 f_now f_label f_matrix = some (r, o_label, o_matrix)) : Met l yX10_colouringDimension wsX10_colouringDimension rmX10_colouringDimension (kPre D cyI cyZ [.ref a_this, .int v1] [(a_this, .inr (7, [.ref a_now, .ref a_history, .int i_saved, .ref a_kept, .ref a_isKept, .ref a_text, .int i_length, .int i_next, .ref a_read, .ref a_uses, .ref a_entry, .ref a_passed, .ref a_draft, .ref a_label, .ref a_met, .ref a_bracket, .ref a_matrix])), (a_now, .inl (cyI, 34, .inl f_now)), (a_label, .inl (cyI, 17, .inl f_label)), (a_matrix, .inl (cyI, 136, .inl f_matrix))] sz) (kQi D cyI cyZ (va_A [(a_this, .inr (7, [.ref a_now, .ref a_history, .int i_saved, .ref a_kept, .ref a_isKept, .ref a_text, .int i_length, .int i_next, .ref a_read, .ref a_uses, .ref a_entry, .ref a_passed, .ref a_draft, .ref a_label, .ref a_met, .ref a_bracket, .ref a_matrix])), (a_now, .inl (cyI, 34, .inl f_now)), (a_label, .inl (cyI, 17, .inl f_label)), (a_matrix, .inl (cyI, 136, .inl f_matrix))] sz) [(a_this, .inr (7, [.ref a_now, .ref a_history, .int i_saved, .ref a_kept, .ref a_isKept, .ref a_text, .int i_length, .int i_next, .ref a_read, .ref a_uses, .ref a_entry, .ref a_passed, .ref a_draft, .ref a_label, .ref a_met, .ref a_bracket, .ref a_matrix])), (a_now, .inl (cyI, 34, .inl f_now)), (a_label, .inl (cyI, 17, .inl o_label)), (a_matrix, .inl (cyI, 136, .inl o_matrix))] r) 0 0 (va_A [(a_this, .inr (7, [.ref a_now, .ref a_history, .int i_saved, .ref a_kept, .ref a_isKept, .ref a_text, .int i_length, .int i_next, .ref a_read, .ref a_uses, .ref a_entry, .ref a_passed, .ref a_draft, .ref a_label, .ref a_met, .ref a_bracket, .ref a_matrix])), (a_now, .inl (cyI, 34, .inl f_now)), (a_label, .inl (cyI, 17, .inl f_label)), (a_matrix, .inl (cyI, 136, .inl f_matrix))] sz) := by
  refine Met.ofW (cc := cX10_colouringDimension) (maxL := 4) (ret := (some .int)) (by decide) rfl ?_
  intro p e s m args below meth c s₁ B hml hv
  obtain ⟨rfl, hsz, hP, hK, hD0, hN⟩ := hv
  have hx := B.exec
  have hb := B.bytes
  have hr := B.returns
  have hts := atoms_spec (ws := wsX10_colouringDimension) B.pre
  have hown : s.vm.findClass RX10 = some m.cls := findClass_of_methodNamed B.named
  have hlocks := B.notSynchronized
  subst hsz
  have hD := hD0.self (sz := s.heap.size)
  generalize hAe : va_A [(a_this, .inr (7, [.ref a_now, .ref a_history, .int i_saved, .ref a_kept, .ref a_isKept, .ref a_text, .int i_length, .int i_next, .ref a_read, .ref a_uses, .ref a_entry, .ref a_passed, .ref a_draft, .ref a_label, .ref a_met, .ref a_bracket, .ref a_matrix])), (a_now, .inl (cyI, 34, .inl f_now)), (a_label, .inl (cyI, 17, .inl f_label)), (a_matrix, .inl (cyI, 136, .inl f_matrix))] s.heap.size = A at hD ⊢
  have hA : ∀ q : Nat, s.heap.size ≤ q → A q := fun q h => by rw [← hAe]; exact Or.inr h
  clear hAe hD0
  have hS : va_S A s.heap s.heap [] := va_S.rf
  have S : CallFix p m c cX10_colouringDimension 4 s (([.ref a_this, .int v1] : List Value).toArray) wsX10_colouringDimension RX10 := ⟨hx, hb, hml, hown, hts⟩
  have hl := lv_entry ([.ref a_this, .int v1]) (n := 4) (Nat.le_of_ble_eq_true rfl)
  rw [lg_entry_eq]
  generalize (lg_sl ([.ref a_this, .int v1]) ++ List.replicate (4 - (lg_sl ([.ref a_this, .int v1])).length) Slot.unset).toArray = ls at hl ⊢
  replace hl : lv_has ls 4 [(0, .ref a_this), (1, .int v1)] := hl
  generalize ([] : List Loc) = locs at hS ⊢
  delta kX10_colouringDimension at hf
  obtain ⟨H, hH⟩ : ∃ H, H = s.heap := ⟨_, rfl⟩
  have hS : va_S A s.heap H locs := by rw [hH]; exact hS
  have hP : va_P D vwCl [(a_this, .inr (7, [.ref a_now, .ref a_history, .int i_saved, .ref a_kept, .ref a_isKept, .ref a_text, .int i_length, .int i_next, .ref a_read, .ref a_uses, .ref a_entry, .ref a_passed, .ref a_draft, .ref a_label, .ref a_met, .ref a_bracket, .ref a_matrix])), (a_now, .inl (cyI, 34, .inl f_now)), (a_label, .inl (cyI, 17, .inl f_label)), (a_matrix, .inl (cyI, 136, .inl f_matrix))] H := by rw [hH]; exact hP
  suffices hgo : W p l e (headSpec wsX10_colouringDimension rmX10_colouringDimension).room s m (([.ref a_this, .int v1] : List Value).toArray) below meth c H locs 0 0 (MQ below (kQi D cyI cyZ A [(a_this, .inr (7, [.ref a_now, .ref a_history, .int i_saved, .ref a_kept, .ref a_isKept, .ref a_text, .int i_length, .int i_next, .ref a_read, .ref a_uses, .ref a_entry, .ref a_passed, .ref a_draft, .ref a_label, .ref a_met, .ref a_bracket, .ref a_matrix])), (a_now, .inl (cyI, 34, .inl f_now)), (a_label, .inl (cyI, 17, .inl o_label)), (a_matrix, .inl (cyI, 136, .inl o_matrix))] r) (([.ref a_this, .int v1] : List Value).toArray) s 0 0 A) (F0 m 0 ls []) by rw [hH] at hgo; exact hgo
  clear hH
  refine lv_iload_n hx hb dX10_colouringDimension_0 rfl (lv_at hl 1 rfl) ?_
  refine lv_iconst (v := 3) hx hb dX10_colouringDimension_1 (by decide) ?_
  have hJ_1 : ∀  (H : Heap) (locs : List Loc) (ls : Array Slot), kX10_colouringDimension_J1 f_label f_now v1 f_matrix  = some (r, o_label, o_matrix) → va_P D vwCl [(a_this, .inr (7, [.ref a_now, .ref a_history, .int i_saved, .ref a_kept, .ref a_isKept, .ref a_text, .int i_length, .int i_next, .ref a_read, .ref a_uses, .ref a_entry, .ref a_passed, .ref a_draft, .ref a_label, .ref a_met, .ref a_bracket, .ref a_matrix])), (a_now, .inl (cyI, 34, .inl f_now)), (a_label, .inl (cyI, 17, .inl f_label)), (a_matrix, .inl (cyI, 136, .inl f_matrix))] H → va_D A [(a_this, .inr (7, [.ref a_now, .ref a_history, .int i_saved, .ref a_kept, .ref a_isKept, .ref a_text, .int i_length, .int i_next, .ref a_read, .ref a_uses, .ref a_entry, .ref a_passed, .ref a_draft, .ref a_label, .ref a_met, .ref a_bracket, .ref a_matrix])), (a_now, .inl (cyI, 34, .inl f_now)), (a_label, .inl (cyI, 17, .inl f_label)), (a_matrix, .inl (cyI, 136, .inl f_matrix))] → va_S A s.heap H locs → lv_has ls 4 [(0, .ref a_this), (1, .int v1)] → W p l e (headSpec wsX10_colouringDimension rmX10_colouringDimension).room s m (([.ref a_this, .int v1] : List Value).toArray) below meth c H locs 0 0 (MQ below (kQi D cyI cyZ A [(a_this, .inr (7, [.ref a_now, .ref a_history, .int i_saved, .ref a_kept, .ref a_isKept, .ref a_text, .int i_length, .int i_next, .ref a_read, .ref a_uses, .ref a_entry, .ref a_passed, .ref a_draft, .ref a_label, .ref a_met, .ref a_bracket, .ref a_matrix])), (a_now, .inl (cyI, 34, .inl f_now)), (a_label, .inl (cyI, 17, .inl o_label)), (a_matrix, .inl (cyI, 136, .inl o_matrix))] r) (([.ref a_this, .int v1] : List Value).toArray) s 0 0 A) (F0 m 25 ls []) := by
    intro  H locs ls hf hP hD hS hl
    delta kX10_colouringDimension_J1 at hf
    refine lv_aload_n hx hb dX10_colouringDimension_25 rfl (lv_at hl 0 rfl) ?_
    obtain ⟨o_label_1, hc_1, hf⟩ := bnd1_s hf
    refine kcVv (As := []) (rest := []) (w2 := [(a_this, .inr (7, [.ref a_now, .ref a_history, .int i_saved, .ref a_kept, .ref a_isKept, .ref a_text, .int i_length, .int i_next, .ref a_read, .ref a_uses, .ref a_entry, .ref a_passed, .ref a_draft, .ref a_label, .ref a_met, .ref a_bracket, .ref a_matrix])), (a_now, .inl (cyI, 34, .inl f_now)), (a_label, .inl (cyI, 17, .inl o_label_1)), (a_matrix, .inl (cyI, 136, .inl f_matrix))]) S hK hP hD hS hA hN (mX10_beginClasses l D cyI cyZ H.size a_this a_now a_history a_kept a_isKept a_text a_read a_uses a_entry a_passed a_draft a_label a_met a_bracket a_matrix i_saved i_length i_next f_label o_label_1 hc_1) (cwV 0 hts gX10_colouringDimension_X10_beginClasses rfl rfl rfl (by decide +kernel) ⟨Nat.le_of_ble_eq_true rfl, Nat.le_of_ble_eq_true rfl⟩) 7 0 rfl rfl [0, 2] [1, 3] [2, 0, 3, 1] rfl rfl rfl rfl (by decide) rfl rfl hl.1 (Nat.le_of_ble_eq_true rfl) dX10_colouringDimension_26 ⟨Nat.le_of_ble_eq_true rfl, Nat.le_of_ble_eq_true rfl⟩ (fun H locs hP hD hS => ?_)
    refine lv_iconst (v := 0) hx hb dX10_colouringDimension_29 (by decide) ?_
    refine lv_istore_n (lv' := [(2, .int 0), (0, .ref a_this), (1, .int v1)]) hx hb dX10_colouringDimension_30 rfl hl (by decide) rfl (fun ls hl => ?_)
    have hL_2 : ∀ (n : Nat) (v2_2 : Int32) (f_label_2 : Nat → Int32) (H : Heap) (locs : List Loc) (ls : Array Slot), it2 (kX10_colouringDimension_L2 f_now v1 f_matrix) n v2_2 f_label_2 = some (r, o_label, o_matrix) → va_P D vwCl [(a_this, .inr (7, [.ref a_now, .ref a_history, .int i_saved, .ref a_kept, .ref a_isKept, .ref a_text, .int i_length, .int i_next, .ref a_read, .ref a_uses, .ref a_entry, .ref a_passed, .ref a_draft, .ref a_label, .ref a_met, .ref a_bracket, .ref a_matrix])), (a_now, .inl (cyI, 34, .inl f_now)), (a_label, .inl (cyI, 17, .inl f_label_2)), (a_matrix, .inl (cyI, 136, .inl f_matrix))] H → va_D A [(a_this, .inr (7, [.ref a_now, .ref a_history, .int i_saved, .ref a_kept, .ref a_isKept, .ref a_text, .int i_length, .int i_next, .ref a_read, .ref a_uses, .ref a_entry, .ref a_passed, .ref a_draft, .ref a_label, .ref a_met, .ref a_bracket, .ref a_matrix])), (a_now, .inl (cyI, 34, .inl f_now)), (a_label, .inl (cyI, 17, .inl f_label_2)), (a_matrix, .inl (cyI, 136, .inl f_matrix))] → va_S A s.heap H locs → lv_has ls 4 [(0, .ref a_this), (1, .int v1), (2, .int v2_2)] → W p l e (headSpec wsX10_colouringDimension rmX10_colouringDimension).room s m (([.ref a_this, .int v1] : List Value).toArray) below meth c H locs 0 0 (MQ below (kQi D cyI cyZ A [(a_this, .inr (7, [.ref a_now, .ref a_history, .int i_saved, .ref a_kept, .ref a_isKept, .ref a_text, .int i_length, .int i_next, .ref a_read, .ref a_uses, .ref a_entry, .ref a_passed, .ref a_draft, .ref a_label, .ref a_met, .ref a_bracket, .ref a_matrix])), (a_now, .inl (cyI, 34, .inl f_now)), (a_label, .inl (cyI, 17, .inl o_label)), (a_matrix, .inl (cyI, 136, .inl o_matrix))] r) (([.ref a_this, .int v1] : List Value).toArray) s 0 0 A) (F0 m 31 ls []) := by
      intro n_2
      induction n_2 with
      | zero =>
        intro _ _ _ _ _ hf
        exact (it2_z hf).elim
      | succ n_2 ih_2 =>
        intro v2_2 f_label_2 H locs ls hf hP hD hS hl
        replace hf := it2_s hf
        rw [kX10_colouringDimension_L2] at hf
        refine lv_iload_n hx hb dX10_colouringDimension_31 rfl (lv_at hl 2 rfl) ?_
        refine lv_aload_n hx hb dX10_colouringDimension_32 rfl (lv_at hl 0 rfl) ?_
        obtain ⟨r_2, hc_2, hf⟩ := bnd1_s hf
        refine kcVi (As := []) (rest := [.int v2_2]) (w2 := [(a_this, .inr (7, [.ref a_now, .ref a_history, .int i_saved, .ref a_kept, .ref a_isKept, .ref a_text, .int i_length, .int i_next, .ref a_read, .ref a_uses, .ref a_entry, .ref a_passed, .ref a_draft, .ref a_label, .ref a_met, .ref a_bracket, .ref a_matrix])), (a_now, .inl (cyI, 34, .inl f_now)), (a_label, .inl (cyI, 17, .inl f_label_2)), (a_matrix, .inl (cyI, 136, .inl f_matrix))]) S hK hP hD hS hA hN (mX10_crossings l D cyI cyZ H.size a_this a_now a_history a_kept a_isKept a_text a_read a_uses a_entry a_passed a_draft a_label a_met a_bracket a_matrix i_saved i_length i_next f_now r_2 hc_2) (cwV 0 hts gX10_colouringDimension_X10_crossings rfl rfl rfl (by decide +kernel) ⟨Nat.le_of_ble_eq_true rfl, Nat.le_of_ble_eq_true rfl⟩) 7 0 rfl rfl [0, 1] [2, 3] [2, 3, 0, 1] rfl rfl rfl rfl (by decide) rfl rfl hl.1 (Nat.le_of_ble_eq_true rfl) dX10_colouringDimension_33 ⟨Nat.le_of_ble_eq_true rfl, Nat.le_of_ble_eq_true rfl⟩ (fun H locs hP hD hS => ?_)
        refine lv_icmp_ge (tgt := 59) hx hb dX10_colouringDimension_36 (by decide) (fun c_12 => ?_) (fun c_12 => ?_)
        · replace hf := kt_p hf c_12
          refine lv_aload_n hx hb dX10_colouringDimension_59 rfl (lv_at hl 0 rfl) ?_
          refine lv_iload_n hx hb dX10_colouringDimension_60 rfl (lv_at hl 1 rfl) ?_
          obtain ⟨o_matrix_3, hc_3, hf⟩ := bnd1_s hf
          refine kcVv (As := [.int v1]) (rest := []) (w2 := [(a_this, .inr (7, [.ref a_now, .ref a_history, .int i_saved, .ref a_kept, .ref a_isKept, .ref a_text, .int i_length, .int i_next, .ref a_read, .ref a_uses, .ref a_entry, .ref a_passed, .ref a_draft, .ref a_label, .ref a_met, .ref a_bracket, .ref a_matrix])), (a_now, .inl (cyI, 34, .inl f_now)), (a_label, .inl (cyI, 17, .inl f_label_2)), (a_matrix, .inl (cyI, 136, .inl o_matrix_3))]) S hK hP hD hS hA hN (mX10_layEquations l D cyI cyZ H.size a_this a_now a_history a_kept a_isKept a_text a_read a_uses a_entry a_passed a_draft a_label a_met a_bracket a_matrix v1 i_saved i_length i_next f_now f_label_2 f_matrix o_matrix_3 hc_3) (cwV 1 hts gX10_colouringDimension_X10_layEquations rfl rfl rfl (by decide +kernel) ⟨Nat.le_of_ble_eq_true rfl, Nat.le_of_ble_eq_true rfl⟩) 7 0 rfl rfl [0, 1, 2, 3] [] [0, 1, 2, 3] rfl rfl rfl rfl (by decide) rfl rfl hl.1 (Nat.le_of_ble_eq_true rfl) dX10_colouringDimension_61 ⟨Nat.le_of_ble_eq_true rfl, Nat.le_of_ble_eq_true rfl⟩ (fun H locs hP hD hS => ?_)
          refine lv_iconst (v := 0) hx hb dX10_colouringDimension_64 (by decide) ?_
          refine lv_istore_n (lv' := [(2, .int 0), (0, .ref a_this), (1, .int v1)]) hx hb dX10_colouringDimension_65 rfl hl (by decide) rfl (fun ls hl => ?_)
          refine lv_iconst (v := 1) hx hb dX10_colouringDimension_66 (by decide) ?_
          refine lv_istore_n (lv' := [(3, .int 1), (2, .int 0), (0, .ref a_this), (1, .int v1)]) hx hb dX10_colouringDimension_67 rfl hl (by decide) rfl (fun ls hl => ?_)
          have hL_3 : ∀ (n : Nat) (v2_3 : Int32) (v3_3 : Int32) (f_matrix_3 : Nat → Int32) (H : Heap) (locs : List Loc) (ls : Array Slot), it3 (kX10_colouringDimension_L3 f_now f_label_2 v1) n v2_3 v3_3 f_matrix_3 = some (r, o_label, o_matrix) → va_P D vwCl [(a_this, .inr (7, [.ref a_now, .ref a_history, .int i_saved, .ref a_kept, .ref a_isKept, .ref a_text, .int i_length, .int i_next, .ref a_read, .ref a_uses, .ref a_entry, .ref a_passed, .ref a_draft, .ref a_label, .ref a_met, .ref a_bracket, .ref a_matrix])), (a_now, .inl (cyI, 34, .inl f_now)), (a_label, .inl (cyI, 17, .inl f_label_2)), (a_matrix, .inl (cyI, 136, .inl f_matrix_3))] H → va_D A [(a_this, .inr (7, [.ref a_now, .ref a_history, .int i_saved, .ref a_kept, .ref a_isKept, .ref a_text, .int i_length, .int i_next, .ref a_read, .ref a_uses, .ref a_entry, .ref a_passed, .ref a_draft, .ref a_label, .ref a_met, .ref a_bracket, .ref a_matrix])), (a_now, .inl (cyI, 34, .inl f_now)), (a_label, .inl (cyI, 17, .inl f_label_2)), (a_matrix, .inl (cyI, 136, .inl f_matrix_3))] → va_S A s.heap H locs → lv_has ls 4 [(0, .ref a_this), (1, .int v1), (2, .int v2_3), (3, .int v3_3)] → W p l e (headSpec wsX10_colouringDimension rmX10_colouringDimension).room s m (([.ref a_this, .int v1] : List Value).toArray) below meth c H locs 0 0 (MQ below (kQi D cyI cyZ A [(a_this, .inr (7, [.ref a_now, .ref a_history, .int i_saved, .ref a_kept, .ref a_isKept, .ref a_text, .int i_length, .int i_next, .ref a_read, .ref a_uses, .ref a_entry, .ref a_passed, .ref a_draft, .ref a_label, .ref a_met, .ref a_bracket, .ref a_matrix])), (a_now, .inl (cyI, 34, .inl f_now)), (a_label, .inl (cyI, 17, .inl o_label)), (a_matrix, .inl (cyI, 136, .inl o_matrix))] r) (([.ref a_this, .int v1] : List Value).toArray) s 0 0 A) (F0 m 68 ls []) := by
            intro n_3
            induction n_3 with
            | zero =>
              intro _ _ _ _ _ _ hf
              exact (it3_z hf).elim
            | succ n_3 ih_3 =>
              intro v2_3 v3_3 f_matrix_3 H locs ls hf hP hD hS hl
              replace hf := it3_s hf
              rw [kX10_colouringDimension_L3] at hf
              refine lv_iload_n hx hb dX10_colouringDimension_68 rfl (lv_at hl 3 rfl) ?_
              refine lv_bipush (v := 16) hx hb dX10_colouringDimension_69 (by decide) ?_
              have hJ_4 : ∀  (H : Heap) (locs : List Loc) (ls : Array Slot), kX10_colouringDimension_J4 f_now f_label_2 v2_3 f_matrix_3  = some (r, o_label, o_matrix) → va_P D vwCl [(a_this, .inr (7, [.ref a_now, .ref a_history, .int i_saved, .ref a_kept, .ref a_isKept, .ref a_text, .int i_length, .int i_next, .ref a_read, .ref a_uses, .ref a_entry, .ref a_passed, .ref a_draft, .ref a_label, .ref a_met, .ref a_bracket, .ref a_matrix])), (a_now, .inl (cyI, 34, .inl f_now)), (a_label, .inl (cyI, 17, .inl f_label_2)), (a_matrix, .inl (cyI, 136, .inl f_matrix_3))] H → va_D A [(a_this, .inr (7, [.ref a_now, .ref a_history, .int i_saved, .ref a_kept, .ref a_isKept, .ref a_text, .int i_length, .int i_next, .ref a_read, .ref a_uses, .ref a_entry, .ref a_passed, .ref a_draft, .ref a_label, .ref a_met, .ref a_bracket, .ref a_matrix])), (a_now, .inl (cyI, 34, .inl f_now)), (a_label, .inl (cyI, 17, .inl f_label_2)), (a_matrix, .inl (cyI, 136, .inl f_matrix_3))] → va_S A s.heap H locs → lv_has ls 4 [(0, .ref a_this), (2, .int v2_3)] → W p l e (headSpec wsX10_colouringDimension rmX10_colouringDimension).room s m (([.ref a_this, .int v1] : List Value).toArray) below meth c H locs 0 0 (MQ below (kQi D cyI cyZ A [(a_this, .inr (7, [.ref a_now, .ref a_history, .int i_saved, .ref a_kept, .ref a_isKept, .ref a_text, .int i_length, .int i_next, .ref a_read, .ref a_uses, .ref a_entry, .ref a_passed, .ref a_draft, .ref a_label, .ref a_met, .ref a_bracket, .ref a_matrix])), (a_now, .inl (cyI, 34, .inl f_now)), (a_label, .inl (cyI, 17, .inl o_label)), (a_matrix, .inl (cyI, 136, .inl o_matrix))] r) (([.ref a_this, .int v1] : List Value).toArray) s 0 0 A) (F0 m 106 ls []) := by
                intro  H locs ls hf hP hD hS hl
                delta kX10_colouringDimension_J4 at hf
                refine lv_aload_n hx hb dX10_colouringDimension_106 rfl (lv_at hl 0 rfl) ?_
                obtain ⟨r_4, hc_4, hf⟩ := bnd1_s hf
                refine kcVi (As := []) (rest := []) (w2 := [(a_this, .inr (7, [.ref a_now, .ref a_history, .int i_saved, .ref a_kept, .ref a_isKept, .ref a_text, .int i_length, .int i_next, .ref a_read, .ref a_uses, .ref a_entry, .ref a_passed, .ref a_draft, .ref a_label, .ref a_met, .ref a_bracket, .ref a_matrix])), (a_now, .inl (cyI, 34, .inl f_now)), (a_label, .inl (cyI, 17, .inl f_label_2)), (a_matrix, .inl (cyI, 136, .inl f_matrix_3))]) S hK hP hD hS hA hN (mX10_classes l D cyI cyZ H.size a_this a_now a_history a_kept a_isKept a_text a_read a_uses a_entry a_passed a_draft a_label a_met a_bracket a_matrix i_saved i_length i_next f_now f_label_2 r_4 hc_4) (cwV 0 hts gX10_colouringDimension_X10_classes rfl rfl rfl (by decide +kernel) ⟨Nat.le_of_ble_eq_true rfl, Nat.le_of_ble_eq_true rfl⟩) 7 0 rfl rfl [0, 1, 2] [3] [1, 2, 3, 0] rfl rfl rfl rfl (by decide) rfl rfl hl.1 (Nat.le_of_ble_eq_true rfl) dX10_colouringDimension_107 ⟨Nat.le_of_ble_eq_true rfl, Nat.le_of_ble_eq_true rfl⟩ (fun H locs hP hD hS => ?_)
                refine lv_aload_n hx hb dX10_colouringDimension_110 rfl (lv_at hl 0 rfl) ?_
                refine va_get (D := D) (ci := 7) (v := .ref a_now) (C := RX10) (T := TX10) (N := 17) hx hb hts qX10_colouringDimension_X10 hown hK hP 0 rfl rfl 0 (Nat.le_of_ble_eq_true rfl) (hts (.fieldLink RX10 7 "KnotDiagramModel" "now" "[I") qX10_colouringDimension_0) (fun _ h9 => h9) rfl dX10_colouringDimension_111 ?_
                refine lv_iconst (v := 1) hx hb dX10_colouringDimension_114 (by decide) ?_
                obtain ⟨hi_5, hf⟩ := ck_s hf
                refine va_iald hx hb hK hP 1 0 rfl rfl hi_5 dX10_colouringDimension_115 ?_
                refine lv_iadd hx hb dX10_colouringDimension_116 ?_
                refine lv_iload_n hx hb dX10_colouringDimension_117 rfl (lv_at hl 1 rfl) ?_
                refine lv_isub hx hb dX10_colouringDimension_118 ?_
                obtain ⟨rfl, rfl, rfl⟩ := some3_s hf
                exact kRi hx hb hr hlocks hP hK hD hS rfl dX10_colouringDimension_119
              refine lv_icmp_gt (tgt := 106) hx hb dX10_colouringDimension_71 (by decide) (fun c_10 => ?_) (fun c_10 => ?_)
              · replace hf := kt_p hf c_10
                exact hJ_4 H locs ls hf hP hD hS (lv_sub hl [0, 2] rfl)
              · replace hf := kt_n hf c_10
                refine lv_iload_n hx hb dX10_colouringDimension_74 rfl (lv_at hl 2 rfl) ?_
                refine lv_aload_n hx hb dX10_colouringDimension_75 rfl (lv_at hl 0 rfl) ?_
                obtain ⟨r_6, hc_6, hf⟩ := bnd1_s hf
                refine kcVi (As := []) (rest := [.int v2_3]) (w2 := [(a_this, .inr (7, [.ref a_now, .ref a_history, .int i_saved, .ref a_kept, .ref a_isKept, .ref a_text, .int i_length, .int i_next, .ref a_read, .ref a_uses, .ref a_entry, .ref a_passed, .ref a_draft, .ref a_label, .ref a_met, .ref a_bracket, .ref a_matrix])), (a_now, .inl (cyI, 34, .inl f_now)), (a_label, .inl (cyI, 17, .inl f_label_2)), (a_matrix, .inl (cyI, 136, .inl f_matrix_3))]) S hK hP hD hS hA hN (mX10_crossings l D cyI cyZ H.size a_this a_now a_history a_kept a_isKept a_text a_read a_uses a_entry a_passed a_draft a_label a_met a_bracket a_matrix i_saved i_length i_next f_now r_6 hc_6) (cwV 0 hts gX10_colouringDimension_X10_crossings rfl rfl rfl (by decide +kernel) ⟨Nat.le_of_ble_eq_true rfl, Nat.le_of_ble_eq_true rfl⟩) 7 0 rfl rfl [0, 1] [2, 3] [2, 3, 0, 1] rfl rfl rfl rfl (by decide) rfl rfl hl.1 (Nat.le_of_ble_eq_true rfl) dX10_colouringDimension_76 ⟨Nat.le_of_ble_eq_true rfl, Nat.le_of_ble_eq_true rfl⟩ (fun H locs hP hD hS => ?_)
                refine lv_icmp_ge (tgt := 106) hx hb dX10_colouringDimension_79 (by decide) (fun c_9 => ?_) (fun c_9 => ?_)
                · replace hf := kt_p hf c_9
                  exact hJ_4 H locs ls hf hP hD hS (lv_sub hl [0, 2] rfl)
                · replace hf := kt_n hf c_9
                  refine lv_iload_n hx hb dX10_colouringDimension_82 rfl (lv_at hl 2 rfl) ?_
                  refine lv_aload_n hx hb dX10_colouringDimension_83 rfl (lv_at hl 0 rfl) ?_
                  refine lv_iload_n hx hb dX10_colouringDimension_84 rfl (lv_at hl 2 rfl) ?_
                  refine lv_iload_n hx hb dX10_colouringDimension_85 rfl (lv_at hl 3 rfl) ?_
                  refine lv_iload_n hx hb dX10_colouringDimension_86 rfl (lv_at hl 1 rfl) ?_
                  obtain ⟨r_7, o_matrix_7, hc_7, hf⟩ := bnd2_s hf
                  refine kcVi (As := [.int v2_3, .int v3_3, .int v1]) (rest := [.int v2_3]) (w2 := [(a_this, .inr (7, [.ref a_now, .ref a_history, .int i_saved, .ref a_kept, .ref a_isKept, .ref a_text, .int i_length, .int i_next, .ref a_read, .ref a_uses, .ref a_entry, .ref a_passed, .ref a_draft, .ref a_label, .ref a_met, .ref a_bracket, .ref a_matrix])), (a_now, .inl (cyI, 34, .inl f_now)), (a_label, .inl (cyI, 17, .inl f_label_2)), (a_matrix, .inl (cyI, 136, .inl o_matrix_7))]) S hK hP hD hS hA hN (mX10_eliminate l D cyI cyZ H.size a_this a_now a_history a_kept a_isKept a_text a_read a_uses a_entry a_passed a_draft a_label a_met a_bracket a_matrix v2_3 v3_3 v1 i_saved i_length i_next f_now f_matrix_3 r_7 o_matrix_7 hc_7) (cwV 3 hts gX10_colouringDimension_X10_eliminate rfl rfl rfl (by decide +kernel) ⟨Nat.le_of_ble_eq_true rfl, Nat.le_of_ble_eq_true rfl⟩) 7 0 rfl rfl [0, 1, 3] [2] [1, 2, 0, 3] rfl rfl rfl rfl (by decide) rfl rfl hl.1 (Nat.le_of_ble_eq_true rfl) dX10_colouringDimension_87 ⟨Nat.le_of_ble_eq_true rfl, Nat.le_of_ble_eq_true rfl⟩ (fun H locs hP hD hS => ?_)
                  have hJ_5 : ∀ (t1_5 : Int32) (H : Heap) (locs : List Loc) (ls : Array Slot), kX10_colouringDimension_J5 (it3 (kX10_colouringDimension_L3 f_now f_label_2 v1) n_3) v2_3 v3_3 o_matrix_7 t1_5 = some (r, o_label, o_matrix) → va_P D vwCl [(a_this, .inr (7, [.ref a_now, .ref a_history, .int i_saved, .ref a_kept, .ref a_isKept, .ref a_text, .int i_length, .int i_next, .ref a_read, .ref a_uses, .ref a_entry, .ref a_passed, .ref a_draft, .ref a_label, .ref a_met, .ref a_bracket, .ref a_matrix])), (a_now, .inl (cyI, 34, .inl f_now)), (a_label, .inl (cyI, 17, .inl f_label_2)), (a_matrix, .inl (cyI, 136, .inl o_matrix_7))] H → va_D A [(a_this, .inr (7, [.ref a_now, .ref a_history, .int i_saved, .ref a_kept, .ref a_isKept, .ref a_text, .int i_length, .int i_next, .ref a_read, .ref a_uses, .ref a_entry, .ref a_passed, .ref a_draft, .ref a_label, .ref a_met, .ref a_bracket, .ref a_matrix])), (a_now, .inl (cyI, 34, .inl f_now)), (a_label, .inl (cyI, 17, .inl f_label_2)), (a_matrix, .inl (cyI, 136, .inl o_matrix_7))] → va_S A s.heap H locs → lv_has ls 4 [(0, .ref a_this), (1, .int v1), (3, .int v3_3)] → W p l e (headSpec wsX10_colouringDimension rmX10_colouringDimension).room s m (([.ref a_this, .int v1] : List Value).toArray) below meth c H locs 0 0 (MQ below (kQi D cyI cyZ A [(a_this, .inr (7, [.ref a_now, .ref a_history, .int i_saved, .ref a_kept, .ref a_isKept, .ref a_text, .int i_length, .int i_next, .ref a_read, .ref a_uses, .ref a_entry, .ref a_passed, .ref a_draft, .ref a_label, .ref a_met, .ref a_bracket, .ref a_matrix])), (a_now, .inl (cyI, 34, .inl f_now)), (a_label, .inl (cyI, 17, .inl o_label)), (a_matrix, .inl (cyI, 136, .inl o_matrix))] r) (([.ref a_this, .int v1] : List Value).toArray) s 0 0 A) (F0 m 98 ls [.int t1_5, .int v2_3]) := by
                    intro t1_5 H locs ls hf hP hD hS hl
                    delta kX10_colouringDimension_J5 at hf
                    refine lv_iadd hx hb dX10_colouringDimension_98 ?_
                    refine lv_istore_n (lv' := [(2, .int (v2_3 + t1_5)), (0, .ref a_this), (1, .int v1), (3, .int v3_3)]) hx hb dX10_colouringDimension_99 rfl hl (by decide) rfl (fun ls hl => ?_)
                    refine lv_iinc (v := (v3_3 + 1)) (lv' := [(3, .int (v3_3 + 1)), (2, .int (v2_3 + t1_5)), (0, .ref a_this), (1, .int v1)]) hx hb dX10_colouringDimension_100 hl (k := 3) rfl rfl (by decide) rfl (fun ls hl => ?_)
                    refine lv_goto (tgt := 68) hx hb dX10_colouringDimension_103 (by decide) ?_
                    exact ih_3 (v2_3 + t1_5) (v3_3 + 1) o_matrix_7 H locs ls hf hP hD hS (lv_sub hl [2, 3, 1, 0] rfl)
                  refine lv_if_eq (tgt := 97) hx hb dX10_colouringDimension_90 (by decide) (fun c_8 => ?_) (fun c_8 => ?_)
                  · replace hf := kt_p hf c_8
                    refine lv_iconst (v := 0) hx hb dX10_colouringDimension_97 (by decide) ?_
                    exact hJ_5 0 H locs ls hf hP hD hS (lv_sub hl [0, 1, 3] rfl)
                  · replace hf := kt_n hf c_8
                    refine lv_iconst (v := 1) hx hb dX10_colouringDimension_93 (by decide) ?_
                    refine lv_goto (tgt := 98) hx hb dX10_colouringDimension_94 (by decide) ?_
                    exact hJ_5 1 H locs ls hf hP hD hS (lv_sub hl [0, 1, 3] rfl)
          exact hL_3 400 0 1 o_matrix_3 H locs ls hf hP hD hS (lv_sub hl [2, 3, 1, 0] rfl)
        · replace hf := kt_n hf c_12
          refine lv_aload_n hx hb dX10_colouringDimension_39 rfl (lv_at hl 0 rfl) ?_
          refine lv_iconst (v := 4) hx hb dX10_colouringDimension_40 (by decide) ?_
          refine lv_iload_n hx hb dX10_colouringDimension_41 rfl (lv_at hl 2 rfl) ?_
          refine lv_imul hx hb dX10_colouringDimension_42 ?_
          refine lv_iconst (v := 1) hx hb dX10_colouringDimension_43 (by decide) ?_
          refine lv_iadd hx hb dX10_colouringDimension_44 ?_
          refine lv_iconst (v := 4) hx hb dX10_colouringDimension_45 (by decide) ?_
          refine lv_iload_n hx hb dX10_colouringDimension_46 rfl (lv_at hl 2 rfl) ?_
          refine lv_imul hx hb dX10_colouringDimension_47 ?_
          refine lv_iconst (v := 3) hx hb dX10_colouringDimension_48 (by decide) ?_
          refine lv_iadd hx hb dX10_colouringDimension_49 ?_
          obtain ⟨o_label_11, hc_11, hf⟩ := bnd1_s hf
          refine kcVv (As := [.int ((4 * v2_2) + 1), .int ((4 * v2_2) + 3)]) (rest := []) (w2 := [(a_this, .inr (7, [.ref a_now, .ref a_history, .int i_saved, .ref a_kept, .ref a_isKept, .ref a_text, .int i_length, .int i_next, .ref a_read, .ref a_uses, .ref a_entry, .ref a_passed, .ref a_draft, .ref a_label, .ref a_met, .ref a_bracket, .ref a_matrix])), (a_now, .inl (cyI, 34, .inl f_now)), (a_label, .inl (cyI, 17, .inl o_label_11)), (a_matrix, .inl (cyI, 136, .inl f_matrix))]) S hK hP hD hS hA hN (mX10_unite l D cyI cyZ H.size a_this a_now a_history a_kept a_isKept a_text a_read a_uses a_entry a_passed a_draft a_label a_met a_bracket a_matrix ((4 * v2_2) + 1) ((4 * v2_2) + 3) i_saved i_length i_next f_now f_label_2 o_label_11 hc_11) (cwV 2 hts gX10_colouringDimension_X10_unite rfl rfl rfl (by decide +kernel) ⟨Nat.le_of_ble_eq_true rfl, Nat.le_of_ble_eq_true rfl⟩) 7 0 rfl rfl [0, 1, 2] [3] [1, 2, 3, 0] rfl rfl rfl rfl (by decide) rfl rfl hl.1 (Nat.le_of_ble_eq_true rfl) dX10_colouringDimension_50 ⟨Nat.le_of_ble_eq_true rfl, Nat.le_of_ble_eq_true rfl⟩ (fun H locs hP hD hS => ?_)
          refine lv_iinc (v := (v2_2 + 1)) (lv' := [(2, .int (v2_2 + 1)), (0, .ref a_this), (1, .int v1)]) hx hb dX10_colouringDimension_53 hl (k := 2) rfl rfl (by decide) rfl (fun ls hl => ?_)
          refine lv_goto (tgt := 31) hx hb dX10_colouringDimension_56 (by decide) ?_
          exact ih_2 (v2_2 + 1) o_label_11 H locs ls hf hP hD hS (lv_sub hl [1, 2, 0] rfl)
    exact hL_2 400 0 o_label_1 H locs ls hf hP hD hS (lv_sub hl [1, 2, 0] rfl)
  refine lv_icmp_eq (tgt := 25) hx hb dX10_colouringDimension_2 (by decide) (fun c_16 => ?_) (fun c_16 => ?_)
  · replace hf := kt_p hf c_16
    exact hJ_1 H locs ls hf hP hD hS (lv_sub hl [0, 1] rfl)
  · replace hf := kt_n hf c_16
    refine lv_iload_n hx hb dX10_colouringDimension_5 rfl (lv_at hl 1 rfl) ?_
    refine lv_iconst (v := 5) hx hb dX10_colouringDimension_6 (by decide) ?_
    refine lv_icmp_eq (tgt := 25) hx hb dX10_colouringDimension_7 (by decide) (fun c_15 => ?_) (fun c_15 => ?_)
    · replace hf := kt_p hf c_15
      exact hJ_1 H locs ls hf hP hD hS (lv_sub hl [0, 1] rfl)
    · replace hf := kt_n hf c_15
      refine lv_iload_n hx hb dX10_colouringDimension_10 rfl (lv_at hl 1 rfl) ?_
      refine lv_bipush (v := 7) hx hb dX10_colouringDimension_11 (by decide) ?_
      refine lv_icmp_eq (tgt := 25) hx hb dX10_colouringDimension_13 (by decide) (fun c_14 => ?_) (fun c_14 => ?_)
      · replace hf := kt_p hf c_14
        exact hJ_1 H locs ls hf hP hD hS (lv_sub hl [0, 1] rfl)
      · replace hf := kt_n hf c_14
        refine lv_iload_n hx hb dX10_colouringDimension_16 rfl (lv_at hl 1 rfl) ?_
        refine lv_bipush (v := 11) hx hb dX10_colouringDimension_17 (by decide) ?_
        refine lv_icmp_eq (tgt := 25) hx hb dX10_colouringDimension_19 (by decide) (fun c_13 => ?_) (fun c_13 => ?_)
        · replace hf := kt_p hf c_13
          exact hJ_1 H locs ls hf hP hD hS (lv_sub hl [0, 1] rfl)
        · replace hf := kt_n hf c_13
          refine lv_ldc (v := (-1000001)) hx hb hown (hts (.constant RX10 68 (-1000001)) qX10_colouringDimension_1) dX10_colouringDimension_22 ?_
          obtain ⟨rfl, rfl, rfl⟩ := some3_s hf
          exact kRi hx hb hr hlocks hP hK hD hS rfl dX10_colouringDimension_24
def kX10_undo (i_saved : Int32) (f_now : Nat → Int32) (f_history : Nat → Int32) : Option (Int32 × Int32 × (Nat → Int32)) :=
  if i_saved = 0 then some ((-1000002), i_saved, f_now) else bnd1 (kX10_become 272 (34 * (i_saved - 1)) f_now f_history) (fun o_now_1 => some ((i_saved - 1), (i_saved - 1), o_now_1))
def rmX10_undo : Room := { frames := 1, cells := 0, slots := 0, locals := 23 }
theorem qX10_undo_0 : (.fieldLink RX10 94 "KnotDiagramModel" "saved" "I" : Cond) ∈ wsX10_undo := by decide +kernel
theorem qX10_undo_1 : (.fieldLink RX10 13 "KnotDiagramModel" "history" "[I" : Cond) ∈ wsX10_undo := by decide +kernel
theorem qX10_undo_2 : (.constant RX10 133 (-1000002) : Cond) ∈ wsX10_undo := by decide +kernel
theorem qX10_undo_X10 : ∀ w ∈ wsX100, w ∈ wsX10_undo := by decide +kernel
set_option maxHeartbeats 4000000 in
set_option maxRecDepth 100000 in
theorem mX10_undo (l : Launch) (D : va_G) (cyI cyZ : ClassId) (sz : Nat) (a_this a_now a_history a_kept a_isKept a_text a_read a_uses a_entry a_passed a_draft a_label a_met a_bracket a_matrix : Nat) (i_saved : Int32) (i_length : Int32) (i_next : Int32) (f_now : Nat → Int32) (f_history : Nat → Int32) (r : Int32) (o_saved : Int32) (o_now : Nat → Int32) (hf : kX10_undo i_saved f_now f_history = some (r, o_saved, o_now)) : Met l yX10_undo wsX10_undo rmX10_undo (kPre D cyI cyZ [.ref a_this] [(a_this, .inr (7, [.ref a_now, .ref a_history, .int i_saved, .ref a_kept, .ref a_isKept, .ref a_text, .int i_length, .int i_next, .ref a_read, .ref a_uses, .ref a_entry, .ref a_passed, .ref a_draft, .ref a_label, .ref a_met, .ref a_bracket, .ref a_matrix])), (a_now, .inl (cyI, 34, .inl f_now)), (a_history, .inl (cyI, 272, .inl f_history))] sz) (kQi D cyI cyZ (va_A [(a_this, .inr (7, [.ref a_now, .ref a_history, .int i_saved, .ref a_kept, .ref a_isKept, .ref a_text, .int i_length, .int i_next, .ref a_read, .ref a_uses, .ref a_entry, .ref a_passed, .ref a_draft, .ref a_label, .ref a_met, .ref a_bracket, .ref a_matrix])), (a_now, .inl (cyI, 34, .inl f_now)), (a_history, .inl (cyI, 272, .inl f_history))] sz) [(a_this, .inr (7, [.ref a_now, .ref a_history, .int o_saved, .ref a_kept, .ref a_isKept, .ref a_text, .int i_length, .int i_next, .ref a_read, .ref a_uses, .ref a_entry, .ref a_passed, .ref a_draft, .ref a_label, .ref a_met, .ref a_bracket, .ref a_matrix])), (a_now, .inl (cyI, 34, .inl o_now)), (a_history, .inl (cyI, 272, .inl f_history))] r) 0 0 (va_A [(a_this, .inr (7, [.ref a_now, .ref a_history, .int i_saved, .ref a_kept, .ref a_isKept, .ref a_text, .int i_length, .int i_next, .ref a_read, .ref a_uses, .ref a_entry, .ref a_passed, .ref a_draft, .ref a_label, .ref a_met, .ref a_bracket, .ref a_matrix])), (a_now, .inl (cyI, 34, .inl f_now)), (a_history, .inl (cyI, 272, .inl f_history))] sz) := by
  refine Met.ofW (cc := cX10_undo) (maxL := 1) (ret := (some .int)) (by decide) rfl ?_
  intro p e s m args below meth c s₁ B hml hv
  obtain ⟨rfl, hsz, hP, hK, hD0, hN⟩ := hv
  have hx := B.exec
  have hb := B.bytes
  have hr := B.returns
  have hts := atoms_spec (ws := wsX10_undo) B.pre
  have hown : s.vm.findClass RX10 = some m.cls := findClass_of_methodNamed B.named
  have hlocks := B.notSynchronized
  subst hsz
  have hD := hD0.self (sz := s.heap.size)
  generalize hAe : va_A [(a_this, .inr (7, [.ref a_now, .ref a_history, .int i_saved, .ref a_kept, .ref a_isKept, .ref a_text, .int i_length, .int i_next, .ref a_read, .ref a_uses, .ref a_entry, .ref a_passed, .ref a_draft, .ref a_label, .ref a_met, .ref a_bracket, .ref a_matrix])), (a_now, .inl (cyI, 34, .inl f_now)), (a_history, .inl (cyI, 272, .inl f_history))] s.heap.size = A at hD ⊢
  have hA : ∀ q : Nat, s.heap.size ≤ q → A q := fun q h => by rw [← hAe]; exact Or.inr h
  clear hAe hD0
  have hS : va_S A s.heap s.heap [] := va_S.rf
  have S : CallFix p m c cX10_undo 1 s (([.ref a_this] : List Value).toArray) wsX10_undo RX10 := ⟨hx, hb, hml, hown, hts⟩
  have hl := lv_entry ([.ref a_this]) (n := 1) (Nat.le_of_ble_eq_true rfl)
  rw [lg_entry_eq]
  generalize (lg_sl ([.ref a_this]) ++ List.replicate (1 - (lg_sl ([.ref a_this])).length) Slot.unset).toArray = ls at hl ⊢
  replace hl : lv_has ls 1 [(0, .ref a_this)] := hl
  generalize ([] : List Loc) = locs at hS ⊢
  delta kX10_undo at hf
  obtain ⟨H, hH⟩ : ∃ H, H = s.heap := ⟨_, rfl⟩
  have hS : va_S A s.heap H locs := by rw [hH]; exact hS
  have hP : va_P D vwCl [(a_this, .inr (7, [.ref a_now, .ref a_history, .int i_saved, .ref a_kept, .ref a_isKept, .ref a_text, .int i_length, .int i_next, .ref a_read, .ref a_uses, .ref a_entry, .ref a_passed, .ref a_draft, .ref a_label, .ref a_met, .ref a_bracket, .ref a_matrix])), (a_now, .inl (cyI, 34, .inl f_now)), (a_history, .inl (cyI, 272, .inl f_history))] H := by rw [hH]; exact hP
  suffices hgo : W p l e (headSpec wsX10_undo rmX10_undo).room s m (([.ref a_this] : List Value).toArray) below meth c H locs 0 0 (MQ below (kQi D cyI cyZ A [(a_this, .inr (7, [.ref a_now, .ref a_history, .int o_saved, .ref a_kept, .ref a_isKept, .ref a_text, .int i_length, .int i_next, .ref a_read, .ref a_uses, .ref a_entry, .ref a_passed, .ref a_draft, .ref a_label, .ref a_met, .ref a_bracket, .ref a_matrix])), (a_now, .inl (cyI, 34, .inl o_now)), (a_history, .inl (cyI, 272, .inl f_history))] r) (([.ref a_this] : List Value).toArray) s 0 0 A) (F0 m 0 ls []) by rw [hH] at hgo; exact hgo
  clear hH
  refine lv_aload_n hx hb dX10_undo_0 rfl (lv_at hl 0 rfl) ?_
  refine va_get (D := D) (ci := 7) (v := .int i_saved) (C := RX10) (T := TX10) (N := 17) hx hb hts qX10_undo_X10 hown hK hP 0 rfl rfl 2 (Nat.le_of_ble_eq_true rfl) (hts (.fieldLink RX10 94 "KnotDiagramModel" "saved" "I") qX10_undo_0) (fun _ h9 => h9) rfl dX10_undo_1 ?_
  refine lv_if_ne (tgt := 10) hx hb dX10_undo_4 (by decide) (fun c_2 => ?_) (fun c_2 => ?_)
  · replace hf := kt_n hf c_2
    refine lv_aload_n hx hb dX10_undo_10 rfl (lv_at hl 0 rfl) ?_
    refine lv_dup hx hb dX10_undo_11 rfl ?_
    refine va_get (D := D) (ci := 7) (v := .int i_saved) (C := RX10) (T := TX10) (N := 17) hx hb hts qX10_undo_X10 hown hK hP 0 rfl rfl 2 (Nat.le_of_ble_eq_true rfl) (hts (.fieldLink RX10 94 "KnotDiagramModel" "saved" "I") qX10_undo_0) (fun _ h9 => h9) rfl dX10_undo_12 ?_
    refine lv_iconst (v := 1) hx hb dX10_undo_15 (by decide) ?_
    refine lv_isub hx hb dX10_undo_16 ?_
    refine va_put (D := D) (ci := 7) (v := .int (i_saved - 1)) (ty := .int) (C := RX10) (T := TX10) (N := 17) hx hb hts qX10_undo_X10 tyX10 tyX10_ok nmX10 hown hK hP hD hS 0 rfl rfl 2 (Nat.le_of_ble_eq_true rfl) (hts (.fieldLink RX10 94 "KnotDiagramModel" "saved" "I") qX10_undo_0) (fun _ h9 => h9) rfl (by decide +kernel) rfl rfl (Nat.le_of_ble_eq_true rfl) dX10_undo_17 (fun H locs hP hD hS => ?_)
    replace hP : va_P D vwCl [(a_this, .inr (7, [.ref a_now, .ref a_history, .int (i_saved - 1), .ref a_kept, .ref a_isKept, .ref a_text, .int i_length, .int i_next, .ref a_read, .ref a_uses, .ref a_entry, .ref a_passed, .ref a_draft, .ref a_label, .ref a_met, .ref a_bracket, .ref a_matrix])), (a_now, .inl (cyI, 34, .inl f_now)), (a_history, .inl (cyI, 272, .inl f_history))] H := hP
    replace hD : va_D A [(a_this, .inr (7, [.ref a_now, .ref a_history, .int (i_saved - 1), .ref a_kept, .ref a_isKept, .ref a_text, .int i_length, .int i_next, .ref a_read, .ref a_uses, .ref a_entry, .ref a_passed, .ref a_draft, .ref a_label, .ref a_met, .ref a_bracket, .ref a_matrix])), (a_now, .inl (cyI, 34, .inl f_now)), (a_history, .inl (cyI, 272, .inl f_history))] := hD
    refine lv_aload_n hx hb dX10_undo_20 rfl (lv_at hl 0 rfl) ?_
    refine lv_aload_n hx hb dX10_undo_21 rfl (lv_at hl 0 rfl) ?_
    refine va_get (D := D) (ci := 7) (v := .ref a_history) (C := RX10) (T := TX10) (N := 17) hx hb hts qX10_undo_X10 hown hK hP 0 rfl rfl 1 (Nat.le_of_ble_eq_true rfl) (hts (.fieldLink RX10 13 "KnotDiagramModel" "history" "[I") qX10_undo_1) (fun _ h9 => h9) rfl dX10_undo_22 ?_
    refine lv_bipush (v := 34) hx hb dX10_undo_25 (by decide) ?_
    refine lv_aload_n hx hb dX10_undo_27 rfl (lv_at hl 0 rfl) ?_
    refine va_get (D := D) (ci := 7) (v := .int (i_saved - 1)) (C := RX10) (T := TX10) (N := 17) hx hb hts qX10_undo_X10 hown hK hP 0 rfl rfl 2 (Nat.le_of_ble_eq_true rfl) (hts (.fieldLink RX10 94 "KnotDiagramModel" "saved" "I") qX10_undo_0) (fun _ h9 => h9) rfl dX10_undo_28 ?_
    refine lv_imul hx hb dX10_undo_31 ?_
    obtain ⟨o_now_1, hc_1, hf⟩ := bnd1_s hf
    refine kcVv (As := [.ref a_history, .int (34 * (i_saved - 1))]) (rest := []) (w2 := [(a_this, .inr (7, [.ref a_now, .ref a_history, .int (i_saved - 1), .ref a_kept, .ref a_isKept, .ref a_text, .int i_length, .int i_next, .ref a_read, .ref a_uses, .ref a_entry, .ref a_passed, .ref a_draft, .ref a_label, .ref a_met, .ref a_bracket, .ref a_matrix])), (a_now, .inl (cyI, 34, .inl o_now_1)), (a_history, .inl (cyI, 272, .inl f_history))]) S hK hP hD hS hA hN (mX10_become l D cyI cyZ H.size a_this a_history a_now a_history a_kept a_isKept a_text a_read a_uses a_entry a_passed a_draft a_label a_met a_bracket a_matrix 272 (34 * (i_saved - 1)) (i_saved - 1) i_length i_next f_now f_history o_now_1 hc_1) (cwV 2 hts gX10_undo_X10_become rfl rfl rfl (by decide +kernel) ⟨Nat.le_of_ble_eq_true rfl, Nat.le_of_ble_eq_true rfl⟩) 7 0 rfl rfl [0, 1, 2] [] [0, 1, 2] rfl rfl rfl rfl (by decide) rfl rfl hl.1 (Nat.le_of_ble_eq_true rfl) dX10_undo_32 ⟨Nat.le_of_ble_eq_true rfl, Nat.le_of_ble_eq_true rfl⟩ (fun H locs hP hD hS => ?_)
    refine lv_aload_n hx hb dX10_undo_35 rfl (lv_at hl 0 rfl) ?_
    refine va_get (D := D) (ci := 7) (v := .int (i_saved - 1)) (C := RX10) (T := TX10) (N := 17) hx hb hts qX10_undo_X10 hown hK hP 0 rfl rfl 2 (Nat.le_of_ble_eq_true rfl) (hts (.fieldLink RX10 94 "KnotDiagramModel" "saved" "I") qX10_undo_0) (fun _ h9 => h9) rfl dX10_undo_36 ?_
    obtain ⟨rfl, rfl, rfl⟩ := some3_s hf
    exact kRi hx hb hr hlocks hP hK hD hS rfl dX10_undo_39
  · replace hf := kt_p hf c_2
    refine lv_ldc (v := (-1000002)) hx hb hown (hts (.constant RX10 133 (-1000002)) qX10_undo_2) dX10_undo_7 ?_
    obtain ⟨rfl, rfl, rfl⟩ := some3_s hf
    exact kRi hx hb hr hlocks hP hK hD hS rfl dX10_undo_9
def kX10_undoDepth (i_saved : Int32) : Option (Int32) :=
  some i_saved
def rmX10_undoDepth : Room := { frames := 0, cells := 0, slots := 0, locals := 0 }
theorem qX10_undoDepth_0 : (.fieldLink RX10 94 "KnotDiagramModel" "saved" "I" : Cond) ∈ wsX10_undoDepth := by decide +kernel
theorem qX10_undoDepth_X10 : ∀ w ∈ wsX100, w ∈ wsX10_undoDepth := by decide +kernel
set_option maxHeartbeats 4000000 in
set_option maxRecDepth 100000 in
theorem mX10_undoDepth (l : Launch) (D : va_G) (cyI cyZ : ClassId) (sz : Nat) (a_this a_now a_history a_kept a_isKept a_text a_read a_uses a_entry a_passed a_draft a_label a_met a_bracket a_matrix : Nat) (i_saved : Int32) (i_length : Int32) (i_next : Int32) (r : Int32) (hf : kX10_undoDepth i_saved = some r) : Met l yX10_undoDepth wsX10_undoDepth rmX10_undoDepth (kPre D cyI cyZ [.ref a_this] [(a_this, .inr (7, [.ref a_now, .ref a_history, .int i_saved, .ref a_kept, .ref a_isKept, .ref a_text, .int i_length, .int i_next, .ref a_read, .ref a_uses, .ref a_entry, .ref a_passed, .ref a_draft, .ref a_label, .ref a_met, .ref a_bracket, .ref a_matrix]))] sz) (kQi D cyI cyZ (va_A [(a_this, .inr (7, [.ref a_now, .ref a_history, .int i_saved, .ref a_kept, .ref a_isKept, .ref a_text, .int i_length, .int i_next, .ref a_read, .ref a_uses, .ref a_entry, .ref a_passed, .ref a_draft, .ref a_label, .ref a_met, .ref a_bracket, .ref a_matrix]))] sz) [(a_this, .inr (7, [.ref a_now, .ref a_history, .int i_saved, .ref a_kept, .ref a_isKept, .ref a_text, .int i_length, .int i_next, .ref a_read, .ref a_uses, .ref a_entry, .ref a_passed, .ref a_draft, .ref a_label, .ref a_met, .ref a_bracket, .ref a_matrix]))] r) 0 0 (va_A [(a_this, .inr (7, [.ref a_now, .ref a_history, .int i_saved, .ref a_kept, .ref a_isKept, .ref a_text, .int i_length, .int i_next, .ref a_read, .ref a_uses, .ref a_entry, .ref a_passed, .ref a_draft, .ref a_label, .ref a_met, .ref a_bracket, .ref a_matrix]))] sz) := by
  refine Met.ofW (cc := cX10_undoDepth) (maxL := 1) (ret := (some .int)) (by decide) rfl ?_
  intro p e s m args below meth c s₁ B hml hv
  obtain ⟨rfl, hsz, hP, hK, hD0, hN⟩ := hv
  have hx := B.exec
  have hb := B.bytes
  have hr := B.returns
  have hts := atoms_spec (ws := wsX10_undoDepth) B.pre
  have hown : s.vm.findClass RX10 = some m.cls := findClass_of_methodNamed B.named
  have hlocks := B.notSynchronized
  subst hsz
  have hD := hD0.self (sz := s.heap.size)
  generalize hAe : va_A [(a_this, .inr (7, [.ref a_now, .ref a_history, .int i_saved, .ref a_kept, .ref a_isKept, .ref a_text, .int i_length, .int i_next, .ref a_read, .ref a_uses, .ref a_entry, .ref a_passed, .ref a_draft, .ref a_label, .ref a_met, .ref a_bracket, .ref a_matrix]))] s.heap.size = A at hD ⊢
  have hA : ∀ q : Nat, s.heap.size ≤ q → A q := fun q h => by rw [← hAe]; exact Or.inr h
  clear hAe hD0
  have hS : va_S A s.heap s.heap [] := va_S.rf
  have S : CallFix p m c cX10_undoDepth 1 s (([.ref a_this] : List Value).toArray) wsX10_undoDepth RX10 := ⟨hx, hb, hml, hown, hts⟩
  have hl := lv_entry ([.ref a_this]) (n := 1) (Nat.le_of_ble_eq_true rfl)
  rw [lg_entry_eq]
  generalize (lg_sl ([.ref a_this]) ++ List.replicate (1 - (lg_sl ([.ref a_this])).length) Slot.unset).toArray = ls at hl ⊢
  replace hl : lv_has ls 1 [(0, .ref a_this)] := hl
  generalize ([] : List Loc) = locs at hS ⊢
  delta kX10_undoDepth at hf
  obtain ⟨H, hH⟩ : ∃ H, H = s.heap := ⟨_, rfl⟩
  have hS : va_S A s.heap H locs := by rw [hH]; exact hS
  have hP : va_P D vwCl [(a_this, .inr (7, [.ref a_now, .ref a_history, .int i_saved, .ref a_kept, .ref a_isKept, .ref a_text, .int i_length, .int i_next, .ref a_read, .ref a_uses, .ref a_entry, .ref a_passed, .ref a_draft, .ref a_label, .ref a_met, .ref a_bracket, .ref a_matrix]))] H := by rw [hH]; exact hP
  suffices hgo : W p l e (headSpec wsX10_undoDepth rmX10_undoDepth).room s m (([.ref a_this] : List Value).toArray) below meth c H locs 0 0 (MQ below (kQi D cyI cyZ A [(a_this, .inr (7, [.ref a_now, .ref a_history, .int i_saved, .ref a_kept, .ref a_isKept, .ref a_text, .int i_length, .int i_next, .ref a_read, .ref a_uses, .ref a_entry, .ref a_passed, .ref a_draft, .ref a_label, .ref a_met, .ref a_bracket, .ref a_matrix]))] r) (([.ref a_this] : List Value).toArray) s 0 0 A) (F0 m 0 ls []) by rw [hH] at hgo; exact hgo
  clear hH
  refine lv_aload_n hx hb dX10_undoDepth_0 rfl (lv_at hl 0 rfl) ?_
  refine va_get (D := D) (ci := 7) (v := .int i_saved) (C := RX10) (T := TX10) (N := 17) hx hb hts qX10_undoDepth_X10 hown hK hP 0 rfl rfl 2 (Nat.le_of_ble_eq_true rfl) (hts (.fieldLink RX10 94 "KnotDiagramModel" "saved" "I") qX10_undoDepth_0) (fun _ h9 => h9) rfl dX10_undoDepth_1 ?_
  obtain rfl := some1_s hf
  exact kRi hx hb hr hlocks hP hK hD hS rfl dX10_undoDepth_4
def kX10_isSlot (v0 : Int32) : Option (Int32) :=
  bnd1 (kX10_in v0 0 1) (fun r_1 => zr r_1 (some r_1))
def rmX10_isSlot : Room := { frames := 1, cells := 0, slots := 0, locals := 22 }
set_option maxHeartbeats 4000000 in
set_option maxRecDepth 100000 in
theorem mX10_isSlot (l : Launch) (D : va_G) (cyI cyZ : ClassId) (sz : Nat) (v0 : Int32) (r : Int32) (hf : kX10_isSlot v0 = some r) : Met l yX10_isSlot wsX10_isSlot rmX10_isSlot (kPre D cyI cyZ [.int v0] [] sz) (kQi D cyI cyZ (va_A [] sz) [] r) 0 0 (va_A [] sz) := by
  refine Met.ofW (cc := cX10_isSlot) (maxL := 1) (ret := (some .boolean)) (by decide) rfl ?_
  intro p e s m args below meth c s₁ B hml hv
  obtain ⟨rfl, hsz, hP, hK, hD0, hN⟩ := hv
  have hx := B.exec
  have hb := B.bytes
  have hr := B.returns
  have hts := atoms_spec (ws := wsX10_isSlot) B.pre
  have hown : s.vm.findClass RX10 = some m.cls := findClass_of_methodNamed B.named
  have hlocks := B.notSynchronized
  subst hsz
  have hD := hD0.self (sz := s.heap.size)
  generalize hAe : va_A [] s.heap.size = A at hD ⊢
  have hA : ∀ q : Nat, s.heap.size ≤ q → A q := fun q h => by rw [← hAe]; exact Or.inr h
  clear hAe hD0
  have hS : va_S A s.heap s.heap [] := va_S.rf
  have S : CallFix p m c cX10_isSlot 1 s (([.int v0] : List Value).toArray) wsX10_isSlot RX10 := ⟨hx, hb, hml, hown, hts⟩
  have hl := lv_entry ([.int v0]) (n := 1) (Nat.le_of_ble_eq_true rfl)
  rw [lg_entry_eq]
  generalize (lg_sl ([.int v0]) ++ List.replicate (1 - (lg_sl ([.int v0])).length) Slot.unset).toArray = ls at hl ⊢
  replace hl : lv_has ls 1 [(0, .int v0)] := hl
  generalize ([] : List Loc) = locs at hS ⊢
  delta kX10_isSlot at hf
  obtain ⟨H, hH⟩ : ∃ H, H = s.heap := ⟨_, rfl⟩
  have hS : va_S A s.heap H locs := by rw [hH]; exact hS
  have hP : va_P D vwCl [] H := by rw [hH]; exact hP
  suffices hgo : W p l e (headSpec wsX10_isSlot rmX10_isSlot).room s m (([.int v0] : List Value).toArray) below meth c H locs 0 0 (MQ below (kQi D cyI cyZ A [] r) (([.int v0] : List Value).toArray) s 0 0 A) (F0 m 0 ls []) by rw [hH] at hgo; exact hgo
  clear hH
  refine lv_iload_n hx hb dX10_isSlot_0 rfl (lv_at hl 0 rfl) ?_
  refine lv_iconst (v := 0) hx hb dX10_isSlot_1 (by decide) ?_
  refine lv_iconst (v := 1) hx hb dX10_isSlot_2 (by decide) ?_
  obtain ⟨r_1, hc_1, hf⟩ := bnd1_s hf
  refine kcSi (As := [.int v0, .int 0, .int 1]) (rest := []) (w2 := []) S hK hP hD hS hA hN (mX10_in l D cyI cyZ H.size v0 0 1 r_1 hc_1) (va_cwS 3 hts gX10_isSlot_X10_in rfl rfl rfl (by decide +kernel) ⟨Nat.le_of_ble_eq_true rfl, Nat.le_of_ble_eq_true rfl⟩) [] [] [] rfl rfl rfl rfl (by decide) rfl rfl hl.1 (Nat.le_of_ble_eq_true rfl) dX10_isSlot_3 ⟨Nat.le_of_ble_eq_true rfl, Nat.le_of_ble_eq_true rfl⟩ (fun H locs hP hD hS => ?_)
  obtain ⟨hz, hf⟩ := zr_s hf
  obtain rfl := some1_s hf
  exact kRz hx hb hr hlocks hP hK hD hS hz rfl dX10_isSlot_6
def kX10_save_L1 (v1 : Int32) (f_now : Nat → Int32) (f_isKept : Nat → Int32) (K_1 : Int32 → (Nat → Int32) → Option (Int32 × (Nat → Int32) × (Nat → Int32))) (v2_1 : Int32) (f_kept_1 : Nat → Int32) : Option (Int32 × (Nat → Int32) × (Nat → Int32)) :=
  if 34 ≤ v2_1 then ck v1 2 (bnd1 (kX10_crossings f_now) (fun r_3 => some (r_3, f_kept_1, (upd f_isKept v1.toNatClampNeg (1 &&& 1))))) else ck v2_1 34 (ck ((34 * v1) + v2_1) 68 (K_1 (v2_1 + 1) (upd f_kept_1 ((34 * v1) + v2_1).toNatClampNeg (f_now v2_1.toNatClampNeg))))
def kX10_save (v1 : Int32) (f_now : Nat → Int32) (f_kept : Nat → Int32) (f_isKept : Nat → Int32) : Option (Int32 × (Nat → Int32) × (Nat → Int32)) :=
  bnd1 (kX10_isSlot v1) (fun r_1 => if r_1 = 0 then some ((-1000001), f_kept, f_isKept) else it2 (kX10_save_L1 v1 f_now f_isKept) 400 0 f_kept)
def rmX10_save : Room := { frames := 2, cells := 0, slots := 0, locals := 42 }
theorem qX10_save_0 : (.fieldLink RX10 19 "KnotDiagramModel" "isKept" "[Z" : Cond) ∈ wsX10_save := by decide +kernel
theorem qX10_save_1 : (.fieldLink RX10 16 "KnotDiagramModel" "kept" "[I" : Cond) ∈ wsX10_save := by decide +kernel
theorem qX10_save_2 : (.fieldLink RX10 7 "KnotDiagramModel" "now" "[I" : Cond) ∈ wsX10_save := by decide +kernel
theorem qX10_save_3 : (.constant RX10 68 (-1000001) : Cond) ∈ wsX10_save := by decide +kernel
theorem qX10_save_X10 : ∀ w ∈ wsX100, w ∈ wsX10_save := by decide +kernel
set_option maxHeartbeats 4000000 in
set_option maxRecDepth 100000 in
theorem mX10_save (l : Launch) (D : va_G) (cyI cyZ : ClassId) (sz : Nat) (a_this a_now a_history a_kept a_isKept a_text a_read a_uses a_entry a_passed a_draft a_label a_met a_bracket a_matrix : Nat) (v1 : Int32) (i_saved : Int32) (i_length : Int32) (i_next : Int32) (f_now : Nat → Int32) (f_kept : Nat → Int32) (f_isKept : Nat → Int32) (r : Int32) (o_kept : Nat → Int32) (o_isKept : Nat → Int32) (hf : kX10_save v1 f_now f_kept f_isKept = some (r, o_kept, o_isKept)) : Met l yX10_save wsX10_save rmX10_save (kPre D cyI cyZ [.ref a_this, .int v1] [(a_this, .inr (7, [.ref a_now, .ref a_history, .int i_saved, .ref a_kept, .ref a_isKept, .ref a_text, .int i_length, .int i_next, .ref a_read, .ref a_uses, .ref a_entry, .ref a_passed, .ref a_draft, .ref a_label, .ref a_met, .ref a_bracket, .ref a_matrix])), (a_now, .inl (cyI, 34, .inl f_now)), (a_kept, .inl (cyI, 68, .inl f_kept)), (a_isKept, .inl (cyZ, 2, .inl f_isKept))] sz) (kQi D cyI cyZ (va_A [(a_this, .inr (7, [.ref a_now, .ref a_history, .int i_saved, .ref a_kept, .ref a_isKept, .ref a_text, .int i_length, .int i_next, .ref a_read, .ref a_uses, .ref a_entry, .ref a_passed, .ref a_draft, .ref a_label, .ref a_met, .ref a_bracket, .ref a_matrix])), (a_now, .inl (cyI, 34, .inl f_now)), (a_kept, .inl (cyI, 68, .inl f_kept)), (a_isKept, .inl (cyZ, 2, .inl f_isKept))] sz) [(a_this, .inr (7, [.ref a_now, .ref a_history, .int i_saved, .ref a_kept, .ref a_isKept, .ref a_text, .int i_length, .int i_next, .ref a_read, .ref a_uses, .ref a_entry, .ref a_passed, .ref a_draft, .ref a_label, .ref a_met, .ref a_bracket, .ref a_matrix])), (a_now, .inl (cyI, 34, .inl f_now)), (a_kept, .inl (cyI, 68, .inl o_kept)), (a_isKept, .inl (cyZ, 2, .inl o_isKept))] r) 0 0 (va_A [(a_this, .inr (7, [.ref a_now, .ref a_history, .int i_saved, .ref a_kept, .ref a_isKept, .ref a_text, .int i_length, .int i_next, .ref a_read, .ref a_uses, .ref a_entry, .ref a_passed, .ref a_draft, .ref a_label, .ref a_met, .ref a_bracket, .ref a_matrix])), (a_now, .inl (cyI, 34, .inl f_now)), (a_kept, .inl (cyI, 68, .inl f_kept)), (a_isKept, .inl (cyZ, 2, .inl f_isKept))] sz) := by
  refine Met.ofW (cc := cX10_save) (maxL := 3) (ret := (some .int)) (by decide) rfl ?_
  intro p e s m args below meth c s₁ B hml hv
  obtain ⟨rfl, hsz, hP, hK, hD0, hN⟩ := hv
  have hx := B.exec
  have hb := B.bytes
  have hr := B.returns
  have hts := atoms_spec (ws := wsX10_save) B.pre
  have hown : s.vm.findClass RX10 = some m.cls := findClass_of_methodNamed B.named
  have hlocks := B.notSynchronized
  subst hsz
  have hD := hD0.self (sz := s.heap.size)
  generalize hAe : va_A [(a_this, .inr (7, [.ref a_now, .ref a_history, .int i_saved, .ref a_kept, .ref a_isKept, .ref a_text, .int i_length, .int i_next, .ref a_read, .ref a_uses, .ref a_entry, .ref a_passed, .ref a_draft, .ref a_label, .ref a_met, .ref a_bracket, .ref a_matrix])), (a_now, .inl (cyI, 34, .inl f_now)), (a_kept, .inl (cyI, 68, .inl f_kept)), (a_isKept, .inl (cyZ, 2, .inl f_isKept))] s.heap.size = A at hD ⊢
  have hA : ∀ q : Nat, s.heap.size ≤ q → A q := fun q h => by rw [← hAe]; exact Or.inr h
  clear hAe hD0
  have hS : va_S A s.heap s.heap [] := va_S.rf
  have S : CallFix p m c cX10_save 3 s (([.ref a_this, .int v1] : List Value).toArray) wsX10_save RX10 := ⟨hx, hb, hml, hown, hts⟩
  have hl := lv_entry ([.ref a_this, .int v1]) (n := 3) (Nat.le_of_ble_eq_true rfl)
  rw [lg_entry_eq]
  generalize (lg_sl ([.ref a_this, .int v1]) ++ List.replicate (3 - (lg_sl ([.ref a_this, .int v1])).length) Slot.unset).toArray = ls at hl ⊢
  replace hl : lv_has ls 3 [(0, .ref a_this), (1, .int v1)] := hl
  generalize ([] : List Loc) = locs at hS ⊢
  delta kX10_save at hf
  obtain ⟨H, hH⟩ : ∃ H, H = s.heap := ⟨_, rfl⟩
  have hS : va_S A s.heap H locs := by rw [hH]; exact hS
  have hP : va_P D vwCl [(a_this, .inr (7, [.ref a_now, .ref a_history, .int i_saved, .ref a_kept, .ref a_isKept, .ref a_text, .int i_length, .int i_next, .ref a_read, .ref a_uses, .ref a_entry, .ref a_passed, .ref a_draft, .ref a_label, .ref a_met, .ref a_bracket, .ref a_matrix])), (a_now, .inl (cyI, 34, .inl f_now)), (a_kept, .inl (cyI, 68, .inl f_kept)), (a_isKept, .inl (cyZ, 2, .inl f_isKept))] H := by rw [hH]; exact hP
  suffices hgo : W p l e (headSpec wsX10_save rmX10_save).room s m (([.ref a_this, .int v1] : List Value).toArray) below meth c H locs 0 0 (MQ below (kQi D cyI cyZ A [(a_this, .inr (7, [.ref a_now, .ref a_history, .int i_saved, .ref a_kept, .ref a_isKept, .ref a_text, .int i_length, .int i_next, .ref a_read, .ref a_uses, .ref a_entry, .ref a_passed, .ref a_draft, .ref a_label, .ref a_met, .ref a_bracket, .ref a_matrix])), (a_now, .inl (cyI, 34, .inl f_now)), (a_kept, .inl (cyI, 68, .inl o_kept)), (a_isKept, .inl (cyZ, 2, .inl o_isKept))] r) (([.ref a_this, .int v1] : List Value).toArray) s 0 0 A) (F0 m 0 ls []) by rw [hH] at hgo; exact hgo
  clear hH
  refine lv_iload_n hx hb dX10_save_0 rfl (lv_at hl 1 rfl) ?_
  obtain ⟨r_1, hc_1, hf⟩ := bnd1_s hf
  refine kcSi (As := [.int v1]) (rest := []) (w2 := [(a_this, .inr (7, [.ref a_now, .ref a_history, .int i_saved, .ref a_kept, .ref a_isKept, .ref a_text, .int i_length, .int i_next, .ref a_read, .ref a_uses, .ref a_entry, .ref a_passed, .ref a_draft, .ref a_label, .ref a_met, .ref a_bracket, .ref a_matrix])), (a_now, .inl (cyI, 34, .inl f_now)), (a_kept, .inl (cyI, 68, .inl f_kept)), (a_isKept, .inl (cyZ, 2, .inl f_isKept))]) S hK hP hD hS hA hN (mX10_isSlot l D cyI cyZ H.size v1 r_1 hc_1) (va_cwS 1 hts gX10_save_X10_isSlot rfl rfl rfl (by decide +kernel) ⟨Nat.le_of_ble_eq_true rfl, Nat.le_of_ble_eq_true rfl⟩) [] [0, 1, 2, 3] [0, 1, 2, 3] rfl rfl rfl rfl (by decide) rfl rfl hl.1 (Nat.le_of_ble_eq_true rfl) dX10_save_1 ⟨Nat.le_of_ble_eq_true rfl, Nat.le_of_ble_eq_true rfl⟩ (fun H locs hP hD hS => ?_)
  refine lv_if_ne (tgt := 10) hx hb dX10_save_4 (by decide) (fun c_7 => ?_) (fun c_7 => ?_)
  · replace hf := kt_n hf c_7
    refine lv_iconst (v := 0) hx hb dX10_save_10 (by decide) ?_
    refine lv_istore_n (lv' := [(2, .int 0), (0, .ref a_this), (1, .int v1)]) hx hb dX10_save_11 rfl hl (by decide) rfl (fun ls hl => ?_)
    have hL_1 : ∀ (n : Nat) (v2_1 : Int32) (f_kept_1 : Nat → Int32) (H : Heap) (locs : List Loc) (ls : Array Slot), it2 (kX10_save_L1 v1 f_now f_isKept) n v2_1 f_kept_1 = some (r, o_kept, o_isKept) → va_P D vwCl [(a_this, .inr (7, [.ref a_now, .ref a_history, .int i_saved, .ref a_kept, .ref a_isKept, .ref a_text, .int i_length, .int i_next, .ref a_read, .ref a_uses, .ref a_entry, .ref a_passed, .ref a_draft, .ref a_label, .ref a_met, .ref a_bracket, .ref a_matrix])), (a_now, .inl (cyI, 34, .inl f_now)), (a_kept, .inl (cyI, 68, .inl f_kept_1)), (a_isKept, .inl (cyZ, 2, .inl f_isKept))] H → va_D A [(a_this, .inr (7, [.ref a_now, .ref a_history, .int i_saved, .ref a_kept, .ref a_isKept, .ref a_text, .int i_length, .int i_next, .ref a_read, .ref a_uses, .ref a_entry, .ref a_passed, .ref a_draft, .ref a_label, .ref a_met, .ref a_bracket, .ref a_matrix])), (a_now, .inl (cyI, 34, .inl f_now)), (a_kept, .inl (cyI, 68, .inl f_kept_1)), (a_isKept, .inl (cyZ, 2, .inl f_isKept))] → va_S A s.heap H locs → lv_has ls 3 [(0, .ref a_this), (1, .int v1), (2, .int v2_1)] → W p l e (headSpec wsX10_save rmX10_save).room s m (([.ref a_this, .int v1] : List Value).toArray) below meth c H locs 0 0 (MQ below (kQi D cyI cyZ A [(a_this, .inr (7, [.ref a_now, .ref a_history, .int i_saved, .ref a_kept, .ref a_isKept, .ref a_text, .int i_length, .int i_next, .ref a_read, .ref a_uses, .ref a_entry, .ref a_passed, .ref a_draft, .ref a_label, .ref a_met, .ref a_bracket, .ref a_matrix])), (a_now, .inl (cyI, 34, .inl f_now)), (a_kept, .inl (cyI, 68, .inl o_kept)), (a_isKept, .inl (cyZ, 2, .inl o_isKept))] r) (([.ref a_this, .int v1] : List Value).toArray) s 0 0 A) (F0 m 12 ls []) := by
      intro n_1
      induction n_1 with
      | zero =>
        intro _ _ _ _ _ hf
        exact (it2_z hf).elim
      | succ n_1 ih_1 =>
        intro v2_1 f_kept_1 H locs ls hf hP hD hS hl
        replace hf := it2_s hf
        rw [kX10_save_L1] at hf
        refine lv_iload_n hx hb dX10_save_12 rfl (lv_at hl 2 rfl) ?_
        refine lv_bipush (v := 34) hx hb dX10_save_13 (by decide) ?_
        refine lv_icmp_ge (tgt := 41) hx hb dX10_save_15 (by decide) (fun c_6 => ?_) (fun c_6 => ?_)
        · replace hf := kt_p hf c_6
          refine lv_aload_n hx hb dX10_save_41 rfl (lv_at hl 0 rfl) ?_
          refine va_get (D := D) (ci := 7) (v := .ref a_isKept) (C := RX10) (T := TX10) (N := 17) hx hb hts qX10_save_X10 hown hK hP 0 rfl rfl 4 (Nat.le_of_ble_eq_true rfl) (hts (.fieldLink RX10 19 "KnotDiagramModel" "isKept" "[Z") qX10_save_0) (fun _ h9 => h9) rfl dX10_save_42 ?_
          refine lv_iload_n hx hb dX10_save_45 rfl (lv_at hl 1 rfl) ?_
          refine lv_iconst (v := 1) hx hb dX10_save_46 (by decide) ?_
          obtain ⟨hi_2, hf⟩ := ck_s hf
          refine va_zast hx hb hK hP hD hS 3 1 rfl rfl hi_2 dX10_save_47 (fun H locs hP hD hS => ?_)
          replace hP : va_P D vwCl [(a_this, .inr (7, [.ref a_now, .ref a_history, .int i_saved, .ref a_kept, .ref a_isKept, .ref a_text, .int i_length, .int i_next, .ref a_read, .ref a_uses, .ref a_entry, .ref a_passed, .ref a_draft, .ref a_label, .ref a_met, .ref a_bracket, .ref a_matrix])), (a_now, .inl (cyI, 34, .inl f_now)), (a_kept, .inl (cyI, 68, .inl f_kept_1)), (a_isKept, .inl (cyZ, 2, .inl (upd f_isKept v1.toNatClampNeg (1 &&& 1))))] H := hP
          replace hD : va_D A [(a_this, .inr (7, [.ref a_now, .ref a_history, .int i_saved, .ref a_kept, .ref a_isKept, .ref a_text, .int i_length, .int i_next, .ref a_read, .ref a_uses, .ref a_entry, .ref a_passed, .ref a_draft, .ref a_label, .ref a_met, .ref a_bracket, .ref a_matrix])), (a_now, .inl (cyI, 34, .inl f_now)), (a_kept, .inl (cyI, 68, .inl f_kept_1)), (a_isKept, .inl (cyZ, 2, .inl (upd f_isKept v1.toNatClampNeg (1 &&& 1))))] := hD
          refine lv_aload_n hx hb dX10_save_48 rfl (lv_at hl 0 rfl) ?_
          obtain ⟨r_3, hc_3, hf⟩ := bnd1_s hf
          refine kcVi (As := []) (rest := []) (w2 := [(a_this, .inr (7, [.ref a_now, .ref a_history, .int i_saved, .ref a_kept, .ref a_isKept, .ref a_text, .int i_length, .int i_next, .ref a_read, .ref a_uses, .ref a_entry, .ref a_passed, .ref a_draft, .ref a_label, .ref a_met, .ref a_bracket, .ref a_matrix])), (a_now, .inl (cyI, 34, .inl f_now)), (a_kept, .inl (cyI, 68, .inl f_kept_1)), (a_isKept, .inl (cyZ, 2, .inl (upd f_isKept v1.toNatClampNeg (1 &&& 1))))]) S hK hP hD hS hA hN (mX10_crossings l D cyI cyZ H.size a_this a_now a_history a_kept a_isKept a_text a_read a_uses a_entry a_passed a_draft a_label a_met a_bracket a_matrix i_saved i_length i_next f_now r_3 hc_3) (cwV 0 hts gX10_save_X10_crossings rfl rfl rfl (by decide +kernel) ⟨Nat.le_of_ble_eq_true rfl, Nat.le_of_ble_eq_true rfl⟩) 7 0 rfl rfl [0, 1] [2, 3] [2, 3, 0, 1] rfl rfl rfl rfl (by decide) rfl rfl hl.1 (Nat.le_of_ble_eq_true rfl) dX10_save_49 ⟨Nat.le_of_ble_eq_true rfl, Nat.le_of_ble_eq_true rfl⟩ (fun H locs hP hD hS => ?_)
          obtain ⟨rfl, rfl, rfl⟩ := some3_s hf
          exact kRi hx hb hr hlocks hP hK hD hS rfl dX10_save_52
        · replace hf := kt_n hf c_6
          refine lv_aload_n hx hb dX10_save_18 rfl (lv_at hl 0 rfl) ?_
          refine va_get (D := D) (ci := 7) (v := .ref a_kept) (C := RX10) (T := TX10) (N := 17) hx hb hts qX10_save_X10 hown hK hP 0 rfl rfl 3 (Nat.le_of_ble_eq_true rfl) (hts (.fieldLink RX10 16 "KnotDiagramModel" "kept" "[I") qX10_save_1) (fun _ h9 => h9) rfl dX10_save_19 ?_
          refine lv_bipush (v := 34) hx hb dX10_save_22 (by decide) ?_
          refine lv_iload_n hx hb dX10_save_24 rfl (lv_at hl 1 rfl) ?_
          refine lv_imul hx hb dX10_save_25 ?_
          refine lv_iload_n hx hb dX10_save_26 rfl (lv_at hl 2 rfl) ?_
          refine lv_iadd hx hb dX10_save_27 ?_
          refine lv_aload_n hx hb dX10_save_28 rfl (lv_at hl 0 rfl) ?_
          refine va_get (D := D) (ci := 7) (v := .ref a_now) (C := RX10) (T := TX10) (N := 17) hx hb hts qX10_save_X10 hown hK hP 0 rfl rfl 0 (Nat.le_of_ble_eq_true rfl) (hts (.fieldLink RX10 7 "KnotDiagramModel" "now" "[I") qX10_save_2) (fun _ h9 => h9) rfl dX10_save_29 ?_
          refine lv_iload_n hx hb dX10_save_32 rfl (lv_at hl 2 rfl) ?_
          obtain ⟨hi_4, hf⟩ := ck_s hf
          refine va_iald hx hb hK hP 1 0 rfl rfl hi_4 dX10_save_33 ?_
          obtain ⟨hi_5, hf⟩ := ck_s hf
          refine va_iast hx hb hK hP hD hS 2 0 rfl rfl hi_5 dX10_save_34 (fun H locs hP hD hS => ?_)
          replace hP : va_P D vwCl [(a_this, .inr (7, [.ref a_now, .ref a_history, .int i_saved, .ref a_kept, .ref a_isKept, .ref a_text, .int i_length, .int i_next, .ref a_read, .ref a_uses, .ref a_entry, .ref a_passed, .ref a_draft, .ref a_label, .ref a_met, .ref a_bracket, .ref a_matrix])), (a_now, .inl (cyI, 34, .inl f_now)), (a_kept, .inl (cyI, 68, .inl (upd f_kept_1 ((34 * v1) + v2_1).toNatClampNeg (f_now v2_1.toNatClampNeg)))), (a_isKept, .inl (cyZ, 2, .inl f_isKept))] H := hP
          replace hD : va_D A [(a_this, .inr (7, [.ref a_now, .ref a_history, .int i_saved, .ref a_kept, .ref a_isKept, .ref a_text, .int i_length, .int i_next, .ref a_read, .ref a_uses, .ref a_entry, .ref a_passed, .ref a_draft, .ref a_label, .ref a_met, .ref a_bracket, .ref a_matrix])), (a_now, .inl (cyI, 34, .inl f_now)), (a_kept, .inl (cyI, 68, .inl (upd f_kept_1 ((34 * v1) + v2_1).toNatClampNeg (f_now v2_1.toNatClampNeg)))), (a_isKept, .inl (cyZ, 2, .inl f_isKept))] := hD
          refine lv_iinc (v := (v2_1 + 1)) (lv' := [(2, .int (v2_1 + 1)), (0, .ref a_this), (1, .int v1)]) hx hb dX10_save_35 hl (k := 2) rfl rfl (by decide) rfl (fun ls hl => ?_)
          refine lv_goto (tgt := 12) hx hb dX10_save_38 (by decide) ?_
          exact ih_1 (v2_1 + 1) (upd f_kept_1 ((34 * v1) + v2_1).toNatClampNeg (f_now v2_1.toNatClampNeg)) H locs ls hf hP hD hS (lv_sub hl [1, 2, 0] rfl)
    exact hL_1 400 0 f_kept H locs ls hf hP hD hS (lv_sub hl [1, 2, 0] rfl)
  · replace hf := kt_p hf c_7
    refine lv_ldc (v := (-1000001)) hx hb hown (hts (.constant RX10 68 (-1000001)) qX10_save_3) dX10_save_7 ?_
    obtain ⟨rfl, rfl, rfl⟩ := some3_s hf
    exact kRi hx hb hr hlocks hP hK hD hS rfl dX10_save_9
def kX10_restore (v1 : Int32) (i_saved : Int32) (f_now : Nat → Int32) (f_kept : Nat → Int32) (f_isKept : Nat → Int32) : Option (Int32 × Int32 × (Nat → Int32)) :=
  bnd1 (kX10_isSlot v1) (fun r_1 => if r_1 = 0 then some ((-1000001), i_saved, f_now) else ck v1 2 (if (f_isKept v1.toNatClampNeg) = 0 then some ((-1000002), i_saved, f_now) else bnd1 (kX10_become 68 (34 * v1) f_now f_kept) (fun o_now_3 => bnd1 (kX10_crossings o_now_3) (fun r_4 => some (r_4, 0, o_now_3)))))
def rmX10_restore : Room := { frames := 2, cells := 0, slots := 0, locals := 42 }
theorem qX10_restore_0 : (.fieldLink RX10 19 "KnotDiagramModel" "isKept" "[Z" : Cond) ∈ wsX10_restore := by decide +kernel
theorem qX10_restore_1 : (.fieldLink RX10 16 "KnotDiagramModel" "kept" "[I" : Cond) ∈ wsX10_restore := by decide +kernel
theorem qX10_restore_2 : (.fieldLink RX10 94 "KnotDiagramModel" "saved" "I" : Cond) ∈ wsX10_restore := by decide +kernel
theorem qX10_restore_3 : (.constant RX10 133 (-1000002) : Cond) ∈ wsX10_restore := by decide +kernel
theorem qX10_restore_4 : (.constant RX10 68 (-1000001) : Cond) ∈ wsX10_restore := by decide +kernel
theorem qX10_restore_X10 : ∀ w ∈ wsX100, w ∈ wsX10_restore := by decide +kernel
set_option maxHeartbeats 4000000 in
set_option maxRecDepth 100000 in
theorem mX10_restore (l : Launch) (D : va_G) (cyI cyZ : ClassId) (sz : Nat) (a_this a_now a_history a_kept a_isKept a_text a_read a_uses a_entry a_passed a_draft a_label a_met a_bracket a_matrix : Nat) (v1 : Int32) (i_saved : Int32) (i_length : Int32) (i_next : Int32) (f_now : Nat → Int32) (f_kept : Nat → Int32) (f_isKept : Nat → Int32) (r : Int32) (o_saved : Int32) (o_now : Nat → Int32) (hf : kX10_restore v1 i_saved f_now f_kept f_isKept = some (r, o_saved, o_now)) : Met l yX10_restore wsX10_restore rmX10_restore (kPre D cyI cyZ [.ref a_this, .int v1] [(a_this, .inr (7, [.ref a_now, .ref a_history, .int i_saved, .ref a_kept, .ref a_isKept, .ref a_text, .int i_length, .int i_next, .ref a_read, .ref a_uses, .ref a_entry, .ref a_passed, .ref a_draft, .ref a_label, .ref a_met, .ref a_bracket, .ref a_matrix])), (a_now, .inl (cyI, 34, .inl f_now)), (a_kept, .inl (cyI, 68, .inl f_kept)), (a_isKept, .inl (cyZ, 2, .inl f_isKept))] sz) (kQi D cyI cyZ (va_A [(a_this, .inr (7, [.ref a_now, .ref a_history, .int i_saved, .ref a_kept, .ref a_isKept, .ref a_text, .int i_length, .int i_next, .ref a_read, .ref a_uses, .ref a_entry, .ref a_passed, .ref a_draft, .ref a_label, .ref a_met, .ref a_bracket, .ref a_matrix])), (a_now, .inl (cyI, 34, .inl f_now)), (a_kept, .inl (cyI, 68, .inl f_kept)), (a_isKept, .inl (cyZ, 2, .inl f_isKept))] sz) [(a_this, .inr (7, [.ref a_now, .ref a_history, .int o_saved, .ref a_kept, .ref a_isKept, .ref a_text, .int i_length, .int i_next, .ref a_read, .ref a_uses, .ref a_entry, .ref a_passed, .ref a_draft, .ref a_label, .ref a_met, .ref a_bracket, .ref a_matrix])), (a_now, .inl (cyI, 34, .inl o_now)), (a_kept, .inl (cyI, 68, .inl f_kept)), (a_isKept, .inl (cyZ, 2, .inl f_isKept))] r) 0 0 (va_A [(a_this, .inr (7, [.ref a_now, .ref a_history, .int i_saved, .ref a_kept, .ref a_isKept, .ref a_text, .int i_length, .int i_next, .ref a_read, .ref a_uses, .ref a_entry, .ref a_passed, .ref a_draft, .ref a_label, .ref a_met, .ref a_bracket, .ref a_matrix])), (a_now, .inl (cyI, 34, .inl f_now)), (a_kept, .inl (cyI, 68, .inl f_kept)), (a_isKept, .inl (cyZ, 2, .inl f_isKept))] sz) := by
  refine Met.ofW (cc := cX10_restore) (maxL := 2) (ret := (some .int)) (by decide) rfl ?_
  intro p e s m args below meth c s₁ B hml hv
  obtain ⟨rfl, hsz, hP, hK, hD0, hN⟩ := hv
  have hx := B.exec
  have hb := B.bytes
  have hr := B.returns
  have hts := atoms_spec (ws := wsX10_restore) B.pre
  have hown : s.vm.findClass RX10 = some m.cls := findClass_of_methodNamed B.named
  have hlocks := B.notSynchronized
  subst hsz
  have hD := hD0.self (sz := s.heap.size)
  generalize hAe : va_A [(a_this, .inr (7, [.ref a_now, .ref a_history, .int i_saved, .ref a_kept, .ref a_isKept, .ref a_text, .int i_length, .int i_next, .ref a_read, .ref a_uses, .ref a_entry, .ref a_passed, .ref a_draft, .ref a_label, .ref a_met, .ref a_bracket, .ref a_matrix])), (a_now, .inl (cyI, 34, .inl f_now)), (a_kept, .inl (cyI, 68, .inl f_kept)), (a_isKept, .inl (cyZ, 2, .inl f_isKept))] s.heap.size = A at hD ⊢
  have hA : ∀ q : Nat, s.heap.size ≤ q → A q := fun q h => by rw [← hAe]; exact Or.inr h
  clear hAe hD0
  have hS : va_S A s.heap s.heap [] := va_S.rf
  have S : CallFix p m c cX10_restore 2 s (([.ref a_this, .int v1] : List Value).toArray) wsX10_restore RX10 := ⟨hx, hb, hml, hown, hts⟩
  have hl := lv_entry ([.ref a_this, .int v1]) (n := 2) (Nat.le_of_ble_eq_true rfl)
  rw [lg_entry_eq]
  generalize (lg_sl ([.ref a_this, .int v1]) ++ List.replicate (2 - (lg_sl ([.ref a_this, .int v1])).length) Slot.unset).toArray = ls at hl ⊢
  replace hl : lv_has ls 2 [(0, .ref a_this), (1, .int v1)] := hl
  generalize ([] : List Loc) = locs at hS ⊢
  delta kX10_restore at hf
  obtain ⟨H, hH⟩ : ∃ H, H = s.heap := ⟨_, rfl⟩
  have hS : va_S A s.heap H locs := by rw [hH]; exact hS
  have hP : va_P D vwCl [(a_this, .inr (7, [.ref a_now, .ref a_history, .int i_saved, .ref a_kept, .ref a_isKept, .ref a_text, .int i_length, .int i_next, .ref a_read, .ref a_uses, .ref a_entry, .ref a_passed, .ref a_draft, .ref a_label, .ref a_met, .ref a_bracket, .ref a_matrix])), (a_now, .inl (cyI, 34, .inl f_now)), (a_kept, .inl (cyI, 68, .inl f_kept)), (a_isKept, .inl (cyZ, 2, .inl f_isKept))] H := by rw [hH]; exact hP
  suffices hgo : W p l e (headSpec wsX10_restore rmX10_restore).room s m (([.ref a_this, .int v1] : List Value).toArray) below meth c H locs 0 0 (MQ below (kQi D cyI cyZ A [(a_this, .inr (7, [.ref a_now, .ref a_history, .int o_saved, .ref a_kept, .ref a_isKept, .ref a_text, .int i_length, .int i_next, .ref a_read, .ref a_uses, .ref a_entry, .ref a_passed, .ref a_draft, .ref a_label, .ref a_met, .ref a_bracket, .ref a_matrix])), (a_now, .inl (cyI, 34, .inl o_now)), (a_kept, .inl (cyI, 68, .inl f_kept)), (a_isKept, .inl (cyZ, 2, .inl f_isKept))] r) (([.ref a_this, .int v1] : List Value).toArray) s 0 0 A) (F0 m 0 ls []) by rw [hH] at hgo; exact hgo
  clear hH
  refine lv_iload_n hx hb dX10_restore_0 rfl (lv_at hl 1 rfl) ?_
  obtain ⟨r_1, hc_1, hf⟩ := bnd1_s hf
  refine kcSi (As := [.int v1]) (rest := []) (w2 := [(a_this, .inr (7, [.ref a_now, .ref a_history, .int i_saved, .ref a_kept, .ref a_isKept, .ref a_text, .int i_length, .int i_next, .ref a_read, .ref a_uses, .ref a_entry, .ref a_passed, .ref a_draft, .ref a_label, .ref a_met, .ref a_bracket, .ref a_matrix])), (a_now, .inl (cyI, 34, .inl f_now)), (a_kept, .inl (cyI, 68, .inl f_kept)), (a_isKept, .inl (cyZ, 2, .inl f_isKept))]) S hK hP hD hS hA hN (mX10_isSlot l D cyI cyZ H.size v1 r_1 hc_1) (va_cwS 1 hts gX10_restore_X10_isSlot rfl rfl rfl (by decide +kernel) ⟨Nat.le_of_ble_eq_true rfl, Nat.le_of_ble_eq_true rfl⟩) [] [0, 1, 2, 3] [0, 1, 2, 3] rfl rfl rfl rfl (by decide) rfl rfl hl.1 (Nat.le_of_ble_eq_true rfl) dX10_restore_1 ⟨Nat.le_of_ble_eq_true rfl, Nat.le_of_ble_eq_true rfl⟩ (fun H locs hP hD hS => ?_)
  refine lv_if_ne (tgt := 10) hx hb dX10_restore_4 (by decide) (fun c_6 => ?_) (fun c_6 => ?_)
  · replace hf := kt_n hf c_6
    refine lv_aload_n hx hb dX10_restore_10 rfl (lv_at hl 0 rfl) ?_
    refine va_get (D := D) (ci := 7) (v := .ref a_isKept) (C := RX10) (T := TX10) (N := 17) hx hb hts qX10_restore_X10 hown hK hP 0 rfl rfl 4 (Nat.le_of_ble_eq_true rfl) (hts (.fieldLink RX10 19 "KnotDiagramModel" "isKept" "[Z") qX10_restore_0) (fun _ h9 => h9) rfl dX10_restore_11 ?_
    refine lv_iload_n hx hb dX10_restore_14 rfl (lv_at hl 1 rfl) ?_
    obtain ⟨hi_2, hf⟩ := ck_s hf
    refine va_zald hx hb hK hP 3 1 rfl rfl hi_2 dX10_restore_15 ?_
    refine lv_if_ne (tgt := 22) hx hb dX10_restore_16 (by decide) (fun c_5 => ?_) (fun c_5 => ?_)
    · replace hf := kt_n hf c_5
      refine lv_aload_n hx hb dX10_restore_22 rfl (lv_at hl 0 rfl) ?_
      refine lv_aload_n hx hb dX10_restore_23 rfl (lv_at hl 0 rfl) ?_
      refine va_get (D := D) (ci := 7) (v := .ref a_kept) (C := RX10) (T := TX10) (N := 17) hx hb hts qX10_restore_X10 hown hK hP 0 rfl rfl 3 (Nat.le_of_ble_eq_true rfl) (hts (.fieldLink RX10 16 "KnotDiagramModel" "kept" "[I") qX10_restore_1) (fun _ h9 => h9) rfl dX10_restore_24 ?_
      refine lv_bipush (v := 34) hx hb dX10_restore_27 (by decide) ?_
      refine lv_iload_n hx hb dX10_restore_29 rfl (lv_at hl 1 rfl) ?_
      refine lv_imul hx hb dX10_restore_30 ?_
      obtain ⟨o_now_3, hc_3, hf⟩ := bnd1_s hf
      refine kcVv (As := [.ref a_kept, .int (34 * v1)]) (rest := []) (w2 := [(a_this, .inr (7, [.ref a_now, .ref a_history, .int i_saved, .ref a_kept, .ref a_isKept, .ref a_text, .int i_length, .int i_next, .ref a_read, .ref a_uses, .ref a_entry, .ref a_passed, .ref a_draft, .ref a_label, .ref a_met, .ref a_bracket, .ref a_matrix])), (a_now, .inl (cyI, 34, .inl o_now_3)), (a_kept, .inl (cyI, 68, .inl f_kept)), (a_isKept, .inl (cyZ, 2, .inl f_isKept))]) S hK hP hD hS hA hN (mX10_become l D cyI cyZ H.size a_this a_kept a_now a_history a_kept a_isKept a_text a_read a_uses a_entry a_passed a_draft a_label a_met a_bracket a_matrix 68 (34 * v1) i_saved i_length i_next f_now f_kept o_now_3 hc_3) (cwV 2 hts gX10_restore_X10_become rfl rfl rfl (by decide +kernel) ⟨Nat.le_of_ble_eq_true rfl, Nat.le_of_ble_eq_true rfl⟩) 7 0 rfl rfl [0, 1, 2] [3] [1, 2, 3, 0] rfl rfl rfl rfl (by decide) rfl rfl hl.1 (Nat.le_of_ble_eq_true rfl) dX10_restore_31 ⟨Nat.le_of_ble_eq_true rfl, Nat.le_of_ble_eq_true rfl⟩ (fun H locs hP hD hS => ?_)
      refine lv_aload_n hx hb dX10_restore_34 rfl (lv_at hl 0 rfl) ?_
      refine lv_iconst (v := 0) hx hb dX10_restore_35 (by decide) ?_
      refine va_put (D := D) (ci := 7) (v := .int 0) (ty := .int) (C := RX10) (T := TX10) (N := 17) hx hb hts qX10_restore_X10 tyX10 tyX10_ok nmX10 hown hK hP hD hS 0 rfl rfl 2 (Nat.le_of_ble_eq_true rfl) (hts (.fieldLink RX10 94 "KnotDiagramModel" "saved" "I") qX10_restore_2) (fun _ h9 => h9) rfl (by decide +kernel) rfl rfl (Nat.le_of_ble_eq_true rfl) dX10_restore_36 (fun H locs hP hD hS => ?_)
      replace hP : va_P D vwCl [(a_this, .inr (7, [.ref a_now, .ref a_history, .int 0, .ref a_kept, .ref a_isKept, .ref a_text, .int i_length, .int i_next, .ref a_read, .ref a_uses, .ref a_entry, .ref a_passed, .ref a_draft, .ref a_label, .ref a_met, .ref a_bracket, .ref a_matrix])), (a_now, .inl (cyI, 34, .inl o_now_3)), (a_kept, .inl (cyI, 68, .inl f_kept)), (a_isKept, .inl (cyZ, 2, .inl f_isKept))] H := hP
      replace hD : va_D A [(a_this, .inr (7, [.ref a_now, .ref a_history, .int 0, .ref a_kept, .ref a_isKept, .ref a_text, .int i_length, .int i_next, .ref a_read, .ref a_uses, .ref a_entry, .ref a_passed, .ref a_draft, .ref a_label, .ref a_met, .ref a_bracket, .ref a_matrix])), (a_now, .inl (cyI, 34, .inl o_now_3)), (a_kept, .inl (cyI, 68, .inl f_kept)), (a_isKept, .inl (cyZ, 2, .inl f_isKept))] := hD
      refine lv_aload_n hx hb dX10_restore_39 rfl (lv_at hl 0 rfl) ?_
      obtain ⟨r_4, hc_4, hf⟩ := bnd1_s hf
      refine kcVi (As := []) (rest := []) (w2 := [(a_this, .inr (7, [.ref a_now, .ref a_history, .int 0, .ref a_kept, .ref a_isKept, .ref a_text, .int i_length, .int i_next, .ref a_read, .ref a_uses, .ref a_entry, .ref a_passed, .ref a_draft, .ref a_label, .ref a_met, .ref a_bracket, .ref a_matrix])), (a_now, .inl (cyI, 34, .inl o_now_3)), (a_kept, .inl (cyI, 68, .inl f_kept)), (a_isKept, .inl (cyZ, 2, .inl f_isKept))]) S hK hP hD hS hA hN (mX10_crossings l D cyI cyZ H.size a_this a_now a_history a_kept a_isKept a_text a_read a_uses a_entry a_passed a_draft a_label a_met a_bracket a_matrix 0 i_length i_next o_now_3 r_4 hc_4) (cwV 0 hts gX10_restore_X10_crossings rfl rfl rfl (by decide +kernel) ⟨Nat.le_of_ble_eq_true rfl, Nat.le_of_ble_eq_true rfl⟩) 7 0 rfl rfl [0, 1] [2, 3] [2, 3, 0, 1] rfl rfl rfl rfl (by decide) rfl rfl hl.1 (Nat.le_of_ble_eq_true rfl) dX10_restore_40 ⟨Nat.le_of_ble_eq_true rfl, Nat.le_of_ble_eq_true rfl⟩ (fun H locs hP hD hS => ?_)
      obtain ⟨rfl, rfl, rfl⟩ := some3_s hf
      exact kRi hx hb hr hlocks hP hK hD hS rfl dX10_restore_43
    · replace hf := kt_p hf c_5
      refine lv_ldc (v := (-1000002)) hx hb hown (hts (.constant RX10 133 (-1000002)) qX10_restore_3) dX10_restore_19 ?_
      obtain ⟨rfl, rfl, rfl⟩ := some3_s hf
      exact kRi hx hb hr hlocks hP hK hD hS rfl dX10_restore_21
  · replace hf := kt_p hf c_6
    refine lv_ldc (v := (-1000001)) hx hb hown (hts (.constant RX10 68 (-1000001)) qX10_restore_4) dX10_restore_7 ?_
    obtain ⟨rfl, rfl, rfl⟩ := some3_s hf
    exact kRi hx hb hr hlocks hP hK hD hS rfl dX10_restore_9
