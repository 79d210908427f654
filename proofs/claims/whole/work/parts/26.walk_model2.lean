def kX10_orient_L3 (K_2 : Int32 → (Nat → Int32) → (Nat → Int32) → Option ((Nat → Int32) × (Nat → Int32))) (v1_2 : Int32) (f_entry_2 : Nat → Int32) (f_passed_2 : Nat → Int32) (f_now : Nat → Int32) (K_3 : Int32 → Int32 → Option ((Nat → Int32) × (Nat → Int32))) (v2_3 : Int32) (v3_3 : Int32) : Option ((Nat → Int32) × (Nat → Int32)) :=
  if v3_3 < 0 then if v2_3 < 0 then K_2 (v1_2 + 1) f_entry_2 f_passed_2 else ck v1_2 17 (if (f_passed_2 v1_2.toNatClampNeg) = 0 then bnd1 (kX10_other v2_3 f_now) (fun r_3 => bnd2 (kX10_follow r_3 f_now f_entry_2 f_passed_2) (fun o_entry_4 o_passed_4 => K_2 (v1_2 + 1) o_entry_4 o_passed_4)) else K_2 (v1_2 + 1) f_entry_2 f_passed_2) else bnd1 (kX10_arc v3_3 f_now) (fun r_7 => if r_7 = v1_2 then K_3 v3_3 (v3_3 + (-1)) else K_3 v2_3 (v3_3 + (-1)))
def kX10_orient_L2 (f_now : Nat → Int32) (K_2 : Int32 → (Nat → Int32) → (Nat → Int32) → Option ((Nat → Int32) × (Nat → Int32))) (v1_2 : Int32) (f_entry_2 : Nat → Int32) (f_passed_2 : Nat → Int32) : Option ((Nat → Int32) × (Nat → Int32)) :=
  if 16 < v1_2 then some (f_entry_2, f_passed_2) else bnd1 (kX10_ends f_now) (fun r_1 => it2 (kX10_orient_L3 K_2 v1_2 f_entry_2 f_passed_2 f_now) 400 (-1) (r_1 - 1))
def kX10_orient_L1 (f_now : Nat → Int32) (f_entry : Nat → Int32) (K_1 : Int32 → (Nat → Int32) → Option ((Nat → Int32) × (Nat → Int32))) (v1_1 : Int32) (f_passed_1 : Nat → Int32) : Option ((Nat → Int32) × (Nat → Int32)) :=
  if 16 < v1_1 then it3 (kX10_orient_L2 f_now) 400 1 f_entry f_passed_1 else ck v1_1 17 (K_1 (v1_1 + 1) (upd f_passed_1 v1_1.toNatClampNeg (0 &&& 1)))
def kX10_orient (f_now : Nat → Int32) (f_entry : Nat → Int32) (f_passed : Nat → Int32) : Option ((Nat → Int32) × (Nat → Int32)) :=
  it2 (kX10_orient_L1 f_now f_entry) 400 0 f_passed
def rmX10_orient : Room := { frames := 3, cells := 0, slots := 0, locals := 67 }
theorem qX10_orient_0 : (.fieldLink RX10 35 "KnotDiagramModel" "passed" "[Z" : Cond) ∈ wsX10_orient := by decide +kernel
theorem qX10_orient_X10 : ∀ w ∈ wsX100, w ∈ wsX10_orient := by decide +kernel
set_option maxHeartbeats 4000000 in
set_option maxRecDepth 100000 in
theorem mX10_orient (l : Launch) (D : va_G) (cyI cyZ : ClassId) (sz : Nat) (a_this a_now a_history a_kept a_isKept a_text a_read a_uses a_entry a_passed a_draft a_label a_met a_bracket a_matrix : Nat) (i_saved : Int32) (i_length : Int32) (i_next : Int32) (f_now : Nat → Int32) (f_entry : Nat → Int32) (f_passed : Nat → Int32) (o_entry : Nat → Int32) (o_passed : Nat → Int32) (hf : kX10_orient f_now f_entry f_passed = some (o_entry, o_passed)) : Met l yX10_orient wsX10_orient rmX10_orient (kPre D cyI cyZ [.ref a_this] [(a_this, .inr (7, [.ref a_now, .ref a_history, .int i_saved, .ref a_kept, .ref a_isKept, .ref a_text, .int i_length, .int i_next, .ref a_read, .ref a_uses, .ref a_entry, .ref a_passed, .ref a_draft, .ref a_label, .ref a_met, .ref a_bracket, .ref a_matrix])), (a_now, .inl (cyI, 34, .inl f_now)), (a_entry, .inl (cyI, 16, .inl f_entry)), (a_passed, .inl (cyZ, 17, .inl f_passed))] sz) (kQv D cyI cyZ (va_A [(a_this, .inr (7, [.ref a_now, .ref a_history, .int i_saved, .ref a_kept, .ref a_isKept, .ref a_text, .int i_length, .int i_next, .ref a_read, .ref a_uses, .ref a_entry, .ref a_passed, .ref a_draft, .ref a_label, .ref a_met, .ref a_bracket, .ref a_matrix])), (a_now, .inl (cyI, 34, .inl f_now)), (a_entry, .inl (cyI, 16, .inl f_entry)), (a_passed, .inl (cyZ, 17, .inl f_passed))] sz) [(a_this, .inr (7, [.ref a_now, .ref a_history, .int i_saved, .ref a_kept, .ref a_isKept, .ref a_text, .int i_length, .int i_next, .ref a_read, .ref a_uses, .ref a_entry, .ref a_passed, .ref a_draft, .ref a_label, .ref a_met, .ref a_bracket, .ref a_matrix])), (a_now, .inl (cyI, 34, .inl f_now)), (a_entry, .inl (cyI, 16, .inl o_entry)), (a_passed, .inl (cyZ, 17, .inl o_passed))]) 0 0 (va_A [(a_this, .inr (7, [.ref a_now, .ref a_history, .int i_saved, .ref a_kept, .ref a_isKept, .ref a_text, .int i_length, .int i_next, .ref a_read, .ref a_uses, .ref a_entry, .ref a_passed, .ref a_draft, .ref a_label, .ref a_met, .ref a_bracket, .ref a_matrix])), (a_now, .inl (cyI, 34, .inl f_now)), (a_entry, .inl (cyI, 16, .inl f_entry)), (a_passed, .inl (cyZ, 17, .inl f_passed))] sz) := by
  refine Met.ofW (cc := cX10_orient) (maxL := 4) (ret := none) (by decide) rfl ?_
  intro p e s m args below meth c s₁ B hml hv
  obtain ⟨rfl, hsz, hP, hK, hD0, hN⟩ := hv
  have hx := B.exec
  have hb := B.bytes
  have hr := B.returns
  have hts := atoms_spec (ws := wsX10_orient) B.pre
  have hown : s.vm.findClass RX10 = some m.cls := findClass_of_methodNamed B.named
  have hlocks := B.notSynchronized
  subst hsz
  have hD := hD0.self (sz := s.heap.size)
  generalize hAe : va_A [(a_this, .inr (7, [.ref a_now, .ref a_history, .int i_saved, .ref a_kept, .ref a_isKept, .ref a_text, .int i_length, .int i_next, .ref a_read, .ref a_uses, .ref a_entry, .ref a_passed, .ref a_draft, .ref a_label, .ref a_met, .ref a_bracket, .ref a_matrix])), (a_now, .inl (cyI, 34, .inl f_now)), (a_entry, .inl (cyI, 16, .inl f_entry)), (a_passed, .inl (cyZ, 17, .inl f_passed))] s.heap.size = A at hD ⊢
  have hA : ∀ q : Nat, s.heap.size ≤ q → A q := fun q h => by rw [← hAe]; exact Or.inr h
  clear hAe hD0
  have hS : va_S A s.heap s.heap [] := va_S.rf
  have S : CallFix p m c cX10_orient 4 s (([.ref a_this] : List Value).toArray) wsX10_orient RX10 := ⟨hx, hb, hml, hown, hts⟩
  have hl := lv_entry ([.ref a_this]) (n := 4) (Nat.le_of_ble_eq_true rfl)
  rw [lg_entry_eq]
  generalize (lg_sl ([.ref a_this]) ++ List.replicate (4 - (lg_sl ([.ref a_this])).length) Slot.unset).toArray = ls at hl ⊢
  replace hl : lv_has ls 4 [(0, .ref a_this)] := hl
  generalize ([] : List Loc) = locs at hS ⊢
  delta kX10_orient at hf
  obtain ⟨H, hH⟩ : ∃ H, H = s.heap := ⟨_, rfl⟩
  have hS : va_S A s.heap H locs := by rw [hH]; exact hS
  have hP : va_P D vwCl [(a_this, .inr (7, [.ref a_now, .ref a_history, .int i_saved, .ref a_kept, .ref a_isKept, .ref a_text, .int i_length, .int i_next, .ref a_read, .ref a_uses, .ref a_entry, .ref a_passed, .ref a_draft, .ref a_label, .ref a_met, .ref a_bracket, .ref a_matrix])), (a_now, .inl (cyI, 34, .inl f_now)), (a_entry, .inl (cyI, 16, .inl f_entry)), (a_passed, .inl (cyZ, 17, .inl f_passed))] H := by rw [hH]; exact hP
  suffices hgo : W p l e (headSpec wsX10_orient rmX10_orient).room s m (([.ref a_this] : List Value).toArray) below meth c H locs 0 0 (MQ below (kQv D cyI cyZ A [(a_this, .inr (7, [.ref a_now, .ref a_history, .int i_saved, .ref a_kept, .ref a_isKept, .ref a_text, .int i_length, .int i_next, .ref a_read, .ref a_uses, .ref a_entry, .ref a_passed, .ref a_draft, .ref a_label, .ref a_met, .ref a_bracket, .ref a_matrix])), (a_now, .inl (cyI, 34, .inl f_now)), (a_entry, .inl (cyI, 16, .inl o_entry)), (a_passed, .inl (cyZ, 17, .inl o_passed))]) (([.ref a_this] : List Value).toArray) s 0 0 A) (F0 m 0 ls []) by rw [hH] at hgo; exact hgo
  clear hH
  refine lv_iconst (v := 0) hx hb dX10_orient_0 (by decide) ?_
  refine lv_istore_n (lv' := [(1, .int 0), (0, .ref a_this)]) hx hb dX10_orient_1 rfl hl (by decide) rfl (fun ls hl => ?_)
  have hL_1 : ∀ (n : Nat) (v1_1 : Int32) (f_passed_1 : Nat → Int32) (H : Heap) (locs : List Loc) (ls : Array Slot), it2 (kX10_orient_L1 f_now f_entry) n v1_1 f_passed_1 = some (o_entry, o_passed) → va_P D vwCl [(a_this, .inr (7, [.ref a_now, .ref a_history, .int i_saved, .ref a_kept, .ref a_isKept, .ref a_text, .int i_length, .int i_next, .ref a_read, .ref a_uses, .ref a_entry, .ref a_passed, .ref a_draft, .ref a_label, .ref a_met, .ref a_bracket, .ref a_matrix])), (a_now, .inl (cyI, 34, .inl f_now)), (a_entry, .inl (cyI, 16, .inl f_entry)), (a_passed, .inl (cyZ, 17, .inl f_passed_1))] H → va_D A [(a_this, .inr (7, [.ref a_now, .ref a_history, .int i_saved, .ref a_kept, .ref a_isKept, .ref a_text, .int i_length, .int i_next, .ref a_read, .ref a_uses, .ref a_entry, .ref a_passed, .ref a_draft, .ref a_label, .ref a_met, .ref a_bracket, .ref a_matrix])), (a_now, .inl (cyI, 34, .inl f_now)), (a_entry, .inl (cyI, 16, .inl f_entry)), (a_passed, .inl (cyZ, 17, .inl f_passed_1))] → va_S A s.heap H locs → lv_has ls 4 [(0, .ref a_this), (1, .int v1_1)] → W p l e (headSpec wsX10_orient rmX10_orient).room s m (([.ref a_this] : List Value).toArray) below meth c H locs 0 0 (MQ below (kQv D cyI cyZ A [(a_this, .inr (7, [.ref a_now, .ref a_history, .int i_saved, .ref a_kept, .ref a_isKept, .ref a_text, .int i_length, .int i_next, .ref a_read, .ref a_uses, .ref a_entry, .ref a_passed, .ref a_draft, .ref a_label, .ref a_met, .ref a_bracket, .ref a_matrix])), (a_now, .inl (cyI, 34, .inl f_now)), (a_entry, .inl (cyI, 16, .inl o_entry)), (a_passed, .inl (cyZ, 17, .inl o_passed))]) (([.ref a_this] : List Value).toArray) s 0 0 A) (F0 m 2 ls []) := by
    intro n_1
    induction n_1 with
    | zero =>
      intro _ _ _ _ _ hf
      exact (it2_z hf).elim
    | succ n_1 ih_1 =>
      intro v1_1 f_passed_1 H locs ls hf hP hD hS hl
      replace hf := it2_s hf
      rw [kX10_orient_L1] at hf
      refine lv_iload_n hx hb dX10_orient_2 rfl (lv_at hl 1 rfl) ?_
      refine lv_bipush (v := 16) hx hb dX10_orient_3 (by decide) ?_
      refine lv_icmp_gt (tgt := 21) hx hb dX10_orient_5 (by decide) (fun c_12 => ?_) (fun c_12 => ?_)
      · replace hf := kt_p hf c_12
        refine lv_iconst (v := 1) hx hb dX10_orient_21 (by decide) ?_
        refine lv_istore_n (lv' := [(1, .int 1), (0, .ref a_this)]) hx hb dX10_orient_22 rfl hl (by decide) rfl (fun ls hl => ?_)
        have hL_2 : ∀ (n : Nat) (v1_2 : Int32) (f_entry_2 : Nat → Int32) (f_passed_2 : Nat → Int32) (H : Heap) (locs : List Loc) (ls : Array Slot), it3 (kX10_orient_L2 f_now) n v1_2 f_entry_2 f_passed_2 = some (o_entry, o_passed) → va_P D vwCl [(a_this, .inr (7, [.ref a_now, .ref a_history, .int i_saved, .ref a_kept, .ref a_isKept, .ref a_text, .int i_length, .int i_next, .ref a_read, .ref a_uses, .ref a_entry, .ref a_passed, .ref a_draft, .ref a_label, .ref a_met, .ref a_bracket, .ref a_matrix])), (a_now, .inl (cyI, 34, .inl f_now)), (a_entry, .inl (cyI, 16, .inl f_entry_2)), (a_passed, .inl (cyZ, 17, .inl f_passed_2))] H → va_D A [(a_this, .inr (7, [.ref a_now, .ref a_history, .int i_saved, .ref a_kept, .ref a_isKept, .ref a_text, .int i_length, .int i_next, .ref a_read, .ref a_uses, .ref a_entry, .ref a_passed, .ref a_draft, .ref a_label, .ref a_met, .ref a_bracket, .ref a_matrix])), (a_now, .inl (cyI, 34, .inl f_now)), (a_entry, .inl (cyI, 16, .inl f_entry_2)), (a_passed, .inl (cyZ, 17, .inl f_passed_2))] → va_S A s.heap H locs → lv_has ls 4 [(0, .ref a_this), (1, .int v1_2)] → W p l e (headSpec wsX10_orient rmX10_orient).room s m (([.ref a_this] : List Value).toArray) below meth c H locs 0 0 (MQ below (kQv D cyI cyZ A [(a_this, .inr (7, [.ref a_now, .ref a_history, .int i_saved, .ref a_kept, .ref a_isKept, .ref a_text, .int i_length, .int i_next, .ref a_read, .ref a_uses, .ref a_entry, .ref a_passed, .ref a_draft, .ref a_label, .ref a_met, .ref a_bracket, .ref a_matrix])), (a_now, .inl (cyI, 34, .inl f_now)), (a_entry, .inl (cyI, 16, .inl o_entry)), (a_passed, .inl (cyZ, 17, .inl o_passed))]) (([.ref a_this] : List Value).toArray) s 0 0 A) (F0 m 23 ls []) := by
          intro n_2
          induction n_2 with
          | zero =>
            intro _ _ _ _ _ _ hf
            exact (it3_z hf).elim
          | succ n_2 ih_2 =>
            intro v1_2 f_entry_2 f_passed_2 H locs ls hf hP hD hS hl
            replace hf := it3_s hf
            rw [kX10_orient_L2] at hf
            refine lv_iload_n hx hb dX10_orient_23 rfl (lv_at hl 1 rfl) ?_
            refine lv_bipush (v := 16) hx hb dX10_orient_24 (by decide) ?_
            refine lv_icmp_gt (tgt := 91) hx hb dX10_orient_26 (by decide) (fun c_10 => ?_) (fun c_10 => ?_)
            · replace hf := kt_p hf c_10
              obtain ⟨rfl, rfl⟩ := some2_s hf
              exact kRv hx hb hr hlocks hP hK hD hS dX10_orient_91
            · replace hf := kt_n hf c_10
              refine lv_iconst (v := (-1)) hx hb dX10_orient_29 (by decide) ?_
              refine lv_istore_n (lv' := [(2, .int (-1)), (0, .ref a_this), (1, .int v1_2)]) hx hb dX10_orient_30 rfl hl (by decide) rfl (fun ls hl => ?_)
              refine lv_aload_n hx hb dX10_orient_31 rfl (lv_at hl 1 rfl) ?_
              obtain ⟨r_1, hc_1, hf⟩ := bnd1_s hf
              refine kcVi (As := []) (rest := []) (w2 := [(a_this, .inr (7, [.ref a_now, .ref a_history, .int i_saved, .ref a_kept, .ref a_isKept, .ref a_text, .int i_length, .int i_next, .ref a_read, .ref a_uses, .ref a_entry, .ref a_passed, .ref a_draft, .ref a_label, .ref a_met, .ref a_bracket, .ref a_matrix])), (a_now, .inl (cyI, 34, .inl f_now)), (a_entry, .inl (cyI, 16, .inl f_entry_2)), (a_passed, .inl (cyZ, 17, .inl f_passed_2))]) S hK hP hD hS hA hN (mX10_ends l D cyI cyZ H.size a_this a_now a_history a_kept a_isKept a_text a_read a_uses a_entry a_passed a_draft a_label a_met a_bracket a_matrix i_saved i_length i_next f_now r_1 hc_1) (cwV 0 hts gX10_orient_X10_ends rfl rfl rfl (by decide +kernel) ⟨Nat.le_of_ble_eq_true rfl, Nat.le_of_ble_eq_true rfl⟩) 7 0 rfl rfl [0, 1] [2, 3] [2, 3, 0, 1] rfl rfl rfl rfl (by decide) rfl rfl hl.1 (Nat.le_of_ble_eq_true rfl) dX10_orient_32 ⟨Nat.le_of_ble_eq_true rfl, Nat.le_of_ble_eq_true rfl⟩ (fun H locs hP hD hS => ?_)
              refine lv_iconst (v := 1) hx hb dX10_orient_35 (by decide) ?_
              refine lv_isub hx hb dX10_orient_36 ?_
              refine lv_istore_n (lv' := [(3, .int (r_1 - 1)), (2, .int (-1)), (0, .ref a_this), (1, .int v1_2)]) hx hb dX10_orient_37 rfl hl (by decide) rfl (fun ls hl => ?_)
              have hL_3 : ∀ (n : Nat) (v2_3 : Int32) (v3_3 : Int32) (H : Heap) (locs : List Loc) (ls : Array Slot), it2 (kX10_orient_L3 (it3 (kX10_orient_L2 f_now) n_2) v1_2 f_entry_2 f_passed_2 f_now) n v2_3 v3_3 = some (o_entry, o_passed) → va_P D vwCl [(a_this, .inr (7, [.ref a_now, .ref a_history, .int i_saved, .ref a_kept, .ref a_isKept, .ref a_text, .int i_length, .int i_next, .ref a_read, .ref a_uses, .ref a_entry, .ref a_passed, .ref a_draft, .ref a_label, .ref a_met, .ref a_bracket, .ref a_matrix])), (a_now, .inl (cyI, 34, .inl f_now)), (a_entry, .inl (cyI, 16, .inl f_entry_2)), (a_passed, .inl (cyZ, 17, .inl f_passed_2))] H → va_D A [(a_this, .inr (7, [.ref a_now, .ref a_history, .int i_saved, .ref a_kept, .ref a_isKept, .ref a_text, .int i_length, .int i_next, .ref a_read, .ref a_uses, .ref a_entry, .ref a_passed, .ref a_draft, .ref a_label, .ref a_met, .ref a_bracket, .ref a_matrix])), (a_now, .inl (cyI, 34, .inl f_now)), (a_entry, .inl (cyI, 16, .inl f_entry_2)), (a_passed, .inl (cyZ, 17, .inl f_passed_2))] → va_S A s.heap H locs → lv_has ls 4 [(0, .ref a_this), (1, .int v1_2), (2, .int v2_3), (3, .int v3_3)] → W p l e (headSpec wsX10_orient rmX10_orient).room s m (([.ref a_this] : List Value).toArray) below meth c H locs 0 0 (MQ below (kQv D cyI cyZ A [(a_this, .inr (7, [.ref a_now, .ref a_history, .int i_saved, .ref a_kept, .ref a_isKept, .ref a_text, .int i_length, .int i_next, .ref a_read, .ref a_uses, .ref a_entry, .ref a_passed, .ref a_draft, .ref a_label, .ref a_met, .ref a_bracket, .ref a_matrix])), (a_now, .inl (cyI, 34, .inl f_now)), (a_entry, .inl (cyI, 16, .inl o_entry)), (a_passed, .inl (cyZ, 17, .inl o_passed))]) (([.ref a_this] : List Value).toArray) s 0 0 A) (F0 m 38 ls []) := by
                intro n_3
                induction n_3 with
                | zero =>
                  intro _ _ _ _ _ hf
                  exact (it2_z hf).elim
                | succ n_3 ih_3 =>
                  intro v2_3 v3_3 H locs ls hf hP hD hS hl
                  replace hf := it2_s hf
                  rw [kX10_orient_L3] at hf
                  refine lv_iload_n hx hb dX10_orient_38 rfl (lv_at hl 3 rfl) ?_
                  refine lv_if_lt (tgt := 63) hx hb dX10_orient_39 (by decide) (fun c_9 => ?_) (fun c_9 => ?_)
                  · replace hf := kt_p hf c_9
                    refine lv_iload_n hx hb dX10_orient_63 rfl (lv_at hl 2 rfl) ?_
                    refine lv_if_lt (tgt := 85) hx hb dX10_orient_64 (by decide) (fun c_6 => ?_) (fun c_6 => ?_)
                    · replace hf := kt_p hf c_6
                      refine lv_iinc (v := (v1_2 + 1)) (lv' := [(1, .int (v1_2 + 1)), (0, .ref a_this), (2, .int v2_3), (3, .int v3_3)]) hx hb dX10_orient_85 hl (k := 1) rfl rfl (by decide) rfl (fun ls hl => ?_)
                      refine lv_goto (tgt := 23) hx hb dX10_orient_88 (by decide) ?_
                      exact ih_2 (v1_2 + 1) f_entry_2 f_passed_2 H locs ls hf hP hD hS (lv_sub hl [1, 0] rfl)
                    · replace hf := kt_n hf c_6
                      refine lv_aload_n hx hb dX10_orient_67 rfl (lv_at hl 0 rfl) ?_
                      refine va_get (D := D) (ci := 7) (v := .ref a_passed) (C := RX10) (T := TX10) (N := 17) hx hb hts qX10_orient_X10 hown hK hP 0 rfl rfl 11 (Nat.le_of_ble_eq_true rfl) (hts (.fieldLink RX10 35 "KnotDiagramModel" "passed" "[Z") qX10_orient_0) (fun _ h9 => h9) rfl dX10_orient_68 ?_
                      refine lv_iload_n hx hb dX10_orient_71 rfl (lv_at hl 1 rfl) ?_
                      obtain ⟨hi_2, hf⟩ := ck_s hf
                      refine va_zald hx hb hK hP 3 1 rfl rfl hi_2 dX10_orient_72 ?_
                      refine lv_if_ne (tgt := 85) hx hb dX10_orient_73 (by decide) (fun c_5 => ?_) (fun c_5 => ?_)
                      · replace hf := kt_n hf c_5
                        refine lv_iinc (v := (v1_2 + 1)) (lv' := [(1, .int (v1_2 + 1)), (0, .ref a_this), (2, .int v2_3), (3, .int v3_3)]) hx hb dX10_orient_85 hl (k := 1) rfl rfl (by decide) rfl (fun ls hl => ?_)
                        refine lv_goto (tgt := 23) hx hb dX10_orient_88 (by decide) ?_
                        exact ih_2 (v1_2 + 1) f_entry_2 f_passed_2 H locs ls hf hP hD hS (lv_sub hl [1, 0] rfl)
                      · replace hf := kt_p hf c_5
                        refine lv_aload_n hx hb dX10_orient_76 rfl (lv_at hl 0 rfl) ?_
                        refine lv_aload_n hx hb dX10_orient_77 rfl (lv_at hl 0 rfl) ?_
                        refine lv_iload_n hx hb dX10_orient_78 rfl (lv_at hl 2 rfl) ?_
                        obtain ⟨r_3, hc_3, hf⟩ := bnd1_s hf
                        refine kcVi (As := [.int v2_3]) (rest := [.ref a_this]) (w2 := [(a_this, .inr (7, [.ref a_now, .ref a_history, .int i_saved, .ref a_kept, .ref a_isKept, .ref a_text, .int i_length, .int i_next, .ref a_read, .ref a_uses, .ref a_entry, .ref a_passed, .ref a_draft, .ref a_label, .ref a_met, .ref a_bracket, .ref a_matrix])), (a_now, .inl (cyI, 34, .inl f_now)), (a_entry, .inl (cyI, 16, .inl f_entry_2)), (a_passed, .inl (cyZ, 17, .inl f_passed_2))]) S hK hP hD hS hA hN (mX10_other l D cyI cyZ H.size a_this a_now a_history a_kept a_isKept a_text a_read a_uses a_entry a_passed a_draft a_label a_met a_bracket a_matrix v2_3 i_saved i_length i_next f_now r_3 hc_3) (cwV 1 hts gX10_orient_X10_other rfl rfl rfl (by decide +kernel) ⟨Nat.le_of_ble_eq_true rfl, Nat.le_of_ble_eq_true rfl⟩) 7 0 rfl rfl [0, 1] [2, 3] [2, 3, 0, 1] rfl rfl rfl rfl (by decide) rfl rfl hl.1 (Nat.le_of_ble_eq_true rfl) dX10_orient_79 ⟨Nat.le_of_ble_eq_true rfl, Nat.le_of_ble_eq_true rfl⟩ (fun H locs hP hD hS => ?_)
                        obtain ⟨o_entry_4, o_passed_4, hc_4, hf⟩ := bnd2_s hf
                        refine kcVv (As := [.int r_3]) (rest := []) (w2 := [(a_this, .inr (7, [.ref a_now, .ref a_history, .int i_saved, .ref a_kept, .ref a_isKept, .ref a_text, .int i_length, .int i_next, .ref a_read, .ref a_uses, .ref a_entry, .ref a_passed, .ref a_draft, .ref a_label, .ref a_met, .ref a_bracket, .ref a_matrix])), (a_now, .inl (cyI, 34, .inl f_now)), (a_entry, .inl (cyI, 16, .inl o_entry_4)), (a_passed, .inl (cyZ, 17, .inl o_passed_4))]) S hK hP hD hS hA hN (mX10_follow l D cyI cyZ H.size a_this a_now a_history a_kept a_isKept a_text a_read a_uses a_entry a_passed a_draft a_label a_met a_bracket a_matrix r_3 i_saved i_length i_next f_now f_entry_2 f_passed_2 o_entry_4 o_passed_4 hc_4) (cwV 1 hts gX10_orient_X10_follow rfl rfl rfl (by decide +kernel) ⟨Nat.le_of_ble_eq_true rfl, Nat.le_of_ble_eq_true rfl⟩) 7 0 rfl rfl [0, 1, 2, 3] [] [0, 1, 2, 3] rfl rfl rfl rfl (by decide) rfl rfl hl.1 (Nat.le_of_ble_eq_true rfl) dX10_orient_82 ⟨Nat.le_of_ble_eq_true rfl, Nat.le_of_ble_eq_true rfl⟩ (fun H locs hP hD hS => ?_)
                        refine lv_iinc (v := (v1_2 + 1)) (lv' := [(1, .int (v1_2 + 1)), (0, .ref a_this), (2, .int v2_3), (3, .int v3_3)]) hx hb dX10_orient_85 hl (k := 1) rfl rfl (by decide) rfl (fun ls hl => ?_)
                        refine lv_goto (tgt := 23) hx hb dX10_orient_88 (by decide) ?_
                        exact ih_2 (v1_2 + 1) o_entry_4 o_passed_4 H locs ls hf hP hD hS (lv_sub hl [1, 0] rfl)
                  · replace hf := kt_n hf c_9
                    refine lv_aload_n hx hb dX10_orient_42 rfl (lv_at hl 0 rfl) ?_
                    refine lv_iload_n hx hb dX10_orient_43 rfl (lv_at hl 3 rfl) ?_
                    obtain ⟨r_7, hc_7, hf⟩ := bnd1_s hf
                    refine kcVi (As := [.int v3_3]) (rest := []) (w2 := [(a_this, .inr (7, [.ref a_now, .ref a_history, .int i_saved, .ref a_kept, .ref a_isKept, .ref a_text, .int i_length, .int i_next, .ref a_read, .ref a_uses, .ref a_entry, .ref a_passed, .ref a_draft, .ref a_label, .ref a_met, .ref a_bracket, .ref a_matrix])), (a_now, .inl (cyI, 34, .inl f_now)), (a_entry, .inl (cyI, 16, .inl f_entry_2)), (a_passed, .inl (cyZ, 17, .inl f_passed_2))]) S hK hP hD hS hA hN (mX10_arc l D cyI cyZ H.size a_this a_now a_history a_kept a_isKept a_text a_read a_uses a_entry a_passed a_draft a_label a_met a_bracket a_matrix v3_3 i_saved i_length i_next f_now r_7 hc_7) (cwV 1 hts gX10_orient_X10_arc rfl rfl rfl (by decide +kernel) ⟨Nat.le_of_ble_eq_true rfl, Nat.le_of_ble_eq_true rfl⟩) 7 0 rfl rfl [0, 1] [2, 3] [2, 3, 0, 1] rfl rfl rfl rfl (by decide) rfl rfl hl.1 (Nat.le_of_ble_eq_true rfl) dX10_orient_44 ⟨Nat.le_of_ble_eq_true rfl, Nat.le_of_ble_eq_true rfl⟩ (fun H locs hP hD hS => ?_)
                    refine lv_iload_n hx hb dX10_orient_47 rfl (lv_at hl 1 rfl) ?_
                    refine lv_icmp_ne (tgt := 55) hx hb dX10_orient_48 (by decide) (fun c_8 => ?_) (fun c_8 => ?_)
                    · replace hf := kt_n hf c_8
                      refine lv_iload_n hx hb dX10_orient_55 rfl (lv_at hl 2 rfl) ?_
                      refine lv_istore_n (lv' := [(2, .int v2_3), (0, .ref a_this), (1, .int v1_2), (3, .int v3_3)]) hx hb dX10_orient_56 rfl hl (by decide) rfl (fun ls hl => ?_)
                      refine lv_iinc (v := (v3_3 + (-1))) (lv' := [(3, .int (v3_3 + (-1))), (2, .int v2_3), (0, .ref a_this), (1, .int v1_2)]) hx hb dX10_orient_57 hl (k := 3) rfl rfl (by decide) rfl (fun ls hl => ?_)
                      refine lv_goto (tgt := 38) hx hb dX10_orient_60 (by decide) ?_
                      exact ih_3 v2_3 (v3_3 + (-1)) H locs ls hf hP hD hS (lv_sub hl [2, 3, 1, 0] rfl)
                    · replace hf := kt_p hf c_8
                      refine lv_iload_n hx hb dX10_orient_51 rfl (lv_at hl 3 rfl) ?_
                      refine lv_goto (tgt := 56) hx hb dX10_orient_52 (by decide) ?_
                      refine lv_istore_n (lv' := [(2, .int v3_3), (0, .ref a_this), (1, .int v1_2), (3, .int v3_3)]) hx hb dX10_orient_56 rfl hl (by decide) rfl (fun ls hl => ?_)
                      refine lv_iinc (v := (v3_3 + (-1))) (lv' := [(3, .int (v3_3 + (-1))), (2, .int v3_3), (0, .ref a_this), (1, .int v1_2)]) hx hb dX10_orient_57 hl (k := 3) rfl rfl (by decide) rfl (fun ls hl => ?_)
                      refine lv_goto (tgt := 38) hx hb dX10_orient_60 (by decide) ?_
                      exact ih_3 v3_3 (v3_3 + (-1)) H locs ls hf hP hD hS (lv_sub hl [2, 3, 1, 0] rfl)
              exact hL_3 400 (-1) (r_1 - 1) H locs ls hf hP hD hS (lv_sub hl [2, 3, 1, 0] rfl)
        exact hL_2 400 1 f_entry f_passed_1 H locs ls hf hP hD hS (lv_sub hl [1, 0] rfl)
      · replace hf := kt_n hf c_12
        refine lv_aload_n hx hb dX10_orient_8 rfl (lv_at hl 0 rfl) ?_
        refine va_get (D := D) (ci := 7) (v := .ref a_passed) (C := RX10) (T := TX10) (N := 17) hx hb hts qX10_orient_X10 hown hK hP 0 rfl rfl 11 (Nat.le_of_ble_eq_true rfl) (hts (.fieldLink RX10 35 "KnotDiagramModel" "passed" "[Z") qX10_orient_0) (fun _ h9 => h9) rfl dX10_orient_9 ?_
        refine lv_iload_n hx hb dX10_orient_12 rfl (lv_at hl 1 rfl) ?_
        refine lv_iconst (v := 0) hx hb dX10_orient_13 (by decide) ?_
        obtain ⟨hi_11, hf⟩ := ck_s hf
        refine va_zast hx hb hK hP hD hS 3 1 rfl rfl hi_11 dX10_orient_14 (fun H locs hP hD hS => ?_)
        replace hP : va_P D vwCl [(a_this, .inr (7, [.ref a_now, .ref a_history, .int i_saved, .ref a_kept, .ref a_isKept, .ref a_text, .int i_length, .int i_next, .ref a_read, .ref a_uses, .ref a_entry, .ref a_passed, .ref a_draft, .ref a_label, .ref a_met, .ref a_bracket, .ref a_matrix])), (a_now, .inl (cyI, 34, .inl f_now)), (a_entry, .inl (cyI, 16, .inl f_entry)), (a_passed, .inl (cyZ, 17, .inl (upd f_passed_1 v1_1.toNatClampNeg (0 &&& 1))))] H := hP
        replace hD : va_D A [(a_this, .inr (7, [.ref a_now, .ref a_history, .int i_saved, .ref a_kept, .ref a_isKept, .ref a_text, .int i_length, .int i_next, .ref a_read, .ref a_uses, .ref a_entry, .ref a_passed, .ref a_draft, .ref a_label, .ref a_met, .ref a_bracket, .ref a_matrix])), (a_now, .inl (cyI, 34, .inl f_now)), (a_entry, .inl (cyI, 16, .inl f_entry)), (a_passed, .inl (cyZ, 17, .inl (upd f_passed_1 v1_1.toNatClampNeg (0 &&& 1))))] := hD
        refine lv_iinc (v := (v1_1 + 1)) (lv' := [(1, .int (v1_1 + 1)), (0, .ref a_this)]) hx hb dX10_orient_15 hl (k := 1) rfl rfl (by decide) rfl (fun ls hl => ?_)
        refine lv_goto (tgt := 2) hx hb dX10_orient_18 (by decide) ?_
        exact ih_1 (v1_1 + 1) (upd f_passed_1 v1_1.toNatClampNeg (0 &&& 1)) H locs ls hf hP hD hS (lv_sub hl [1, 0] rfl)
  exact hL_1 400 0 f_passed H locs ls hf hP hD hS (lv_sub hl [1, 0] rfl)
def kX10_sign_J2 (t0_1 : Int32) (t0_2 : Int32) : Option (Int32) :=
  if t0_1 = t0_2 then some 1 else some (-1)
def kX10_sign_J1 (v1 : Int32) (f_entry : Nat → Int32) (t0_1 : Int32) : Option (Int32) :=
  ck ((2 * v1) + 1) 16 (if (f_entry ((2 * v1) + 1).toNatClampNeg) = 3 then kX10_sign_J2 t0_1 1 else kX10_sign_J2 t0_1 0)
def kX10_sign (v1 : Int32) (f_entry : Nat → Int32) : Option (Int32) :=
  ck (2 * v1) 16 (if (f_entry (2 * v1).toNatClampNeg) = 0 then kX10_sign_J1 v1 f_entry 1 else kX10_sign_J1 v1 f_entry 0)
def rmX10_sign : Room := { frames := 0, cells := 0, slots := 0, locals := 0 }
theorem qX10_sign_0 : (.fieldLink RX10 32 "KnotDiagramModel" "entry" "[I" : Cond) ∈ wsX10_sign := by decide +kernel
theorem qX10_sign_X10 : ∀ w ∈ wsX100, w ∈ wsX10_sign := by decide +kernel
set_option maxHeartbeats 4000000 in
set_option maxRecDepth 100000 in
theorem mX10_sign (l : Launch) (D : va_G) (cyI cyZ : ClassId) (sz : Nat) (a_this a_now a_history a_kept a_isKept a_text a_read a_uses a_entry a_passed a_draft a_label a_met a_bracket a_matrix : Nat) (v1 : Int32) (i_saved : Int32) (i_length : Int32) (i_next : Int32) (f_entry : Nat → Int32) (r : Int32) (hf : kX10_sign v1 f_entry = some r) : Met l yX10_sign wsX10_sign rmX10_sign (kPre D cyI cyZ [.ref a_this, .int v1] [(a_this, .inr (7, [.ref a_now, .ref a_history, .int i_saved, .ref a_kept, .ref a_isKept, .ref a_text, .int i_length, .int i_next, .ref a_read, .ref a_uses, .ref a_entry, .ref a_passed, .ref a_draft, .ref a_label, .ref a_met, .ref a_bracket, .ref a_matrix])), (a_entry, .inl (cyI, 16, .inl f_entry))] sz) (kQi D cyI cyZ (va_A [(a_this, .inr (7, [.ref a_now, .ref a_history, .int i_saved, .ref a_kept, .ref a_isKept, .ref a_text, .int i_length, .int i_next, .ref a_read, .ref a_uses, .ref a_entry, .ref a_passed, .ref a_draft, .ref a_label, .ref a_met, .ref a_bracket, .ref a_matrix])), (a_entry, .inl (cyI, 16, .inl f_entry))] sz) [(a_this, .inr (7, [.ref a_now, .ref a_history, .int i_saved, .ref a_kept, .ref a_isKept, .ref a_text, .int i_length, .int i_next, .ref a_read, .ref a_uses, .ref a_entry, .ref a_passed, .ref a_draft, .ref a_label, .ref a_met, .ref a_bracket, .ref a_matrix])), (a_entry, .inl (cyI, 16, .inl f_entry))] r) 0 0 (va_A [(a_this, .inr (7, [.ref a_now, .ref a_history, .int i_saved, .ref a_kept, .ref a_isKept, .ref a_text, .int i_length, .int i_next, .ref a_read, .ref a_uses, .ref a_entry, .ref a_passed, .ref a_draft, .ref a_label, .ref a_met, .ref a_bracket, .ref a_matrix])), (a_entry, .inl (cyI, 16, .inl f_entry))] sz) := by
  refine Met.ofW (cc := cX10_sign) (maxL := 4) (ret := (some .int)) (by decide) rfl ?_
  intro p e s m args below meth c s₁ B hml hv
  obtain ⟨rfl, hsz, hP, hK, hD0, hN⟩ := hv
  have hx := B.exec
  have hb := B.bytes
  have hr := B.returns
  have hts := atoms_spec (ws := wsX10_sign) B.pre
  have hown : s.vm.findClass RX10 = some m.cls := findClass_of_methodNamed B.named
  have hlocks := B.notSynchronized
  subst hsz
  have hD := hD0.self (sz := s.heap.size)
  generalize hAe : va_A [(a_this, .inr (7, [.ref a_now, .ref a_history, .int i_saved, .ref a_kept, .ref a_isKept, .ref a_text, .int i_length, .int i_next, .ref a_read, .ref a_uses, .ref a_entry, .ref a_passed, .ref a_draft, .ref a_label, .ref a_met, .ref a_bracket, .ref a_matrix])), (a_entry, .inl (cyI, 16, .inl f_entry))] s.heap.size = A at hD ⊢
  have hA : ∀ q : Nat, s.heap.size ≤ q → A q := fun q h => by rw [← hAe]; exact Or.inr h
  clear hAe hD0
  have hS : va_S A s.heap s.heap [] := va_S.rf
  have S : CallFix p m c cX10_sign 4 s (([.ref a_this, .int v1] : List Value).toArray) wsX10_sign RX10 := ⟨hx, hb, hml, hown, hts⟩
  have hl := lv_entry ([.ref a_this, .int v1]) (n := 4) (Nat.le_of_ble_eq_true rfl)
  rw [lg_entry_eq]
  generalize (lg_sl ([.ref a_this, .int v1]) ++ List.replicate (4 - (lg_sl ([.ref a_this, .int v1])).length) Slot.unset).toArray = ls at hl ⊢
  replace hl : lv_has ls 4 [(0, .ref a_this), (1, .int v1)] := hl
  generalize ([] : List Loc) = locs at hS ⊢
  delta kX10_sign at hf
  obtain ⟨H, hH⟩ : ∃ H, H = s.heap := ⟨_, rfl⟩
  have hS : va_S A s.heap H locs := by rw [hH]; exact hS
  have hP : va_P D vwCl [(a_this, .inr (7, [.ref a_now, .ref a_history, .int i_saved, .ref a_kept, .ref a_isKept, .ref a_text, .int i_length, .int i_next, .ref a_read, .ref a_uses, .ref a_entry, .ref a_passed, .ref a_draft, .ref a_label, .ref a_met, .ref a_bracket, .ref a_matrix])), (a_entry, .inl (cyI, 16, .inl f_entry))] H := by rw [hH]; exact hP
  suffices hgo : W p l e (headSpec wsX10_sign rmX10_sign).room s m (([.ref a_this, .int v1] : List Value).toArray) below meth c H locs 0 0 (MQ below (kQi D cyI cyZ A [(a_this, .inr (7, [.ref a_now, .ref a_history, .int i_saved, .ref a_kept, .ref a_isKept, .ref a_text, .int i_length, .int i_next, .ref a_read, .ref a_uses, .ref a_entry, .ref a_passed, .ref a_draft, .ref a_label, .ref a_met, .ref a_bracket, .ref a_matrix])), (a_entry, .inl (cyI, 16, .inl f_entry))] r) (([.ref a_this, .int v1] : List Value).toArray) s 0 0 A) (F0 m 0 ls []) by rw [hH] at hgo; exact hgo
  clear hH
  refine lv_aload_n hx hb dX10_sign_0 rfl (lv_at hl 0 rfl) ?_
  refine va_get (D := D) (ci := 7) (v := .ref a_entry) (C := RX10) (T := TX10) (N := 17) hx hb hts qX10_sign_X10 hown hK hP 0 rfl rfl 10 (Nat.le_of_ble_eq_true rfl) (hts (.fieldLink RX10 32 "KnotDiagramModel" "entry" "[I") qX10_sign_0) (fun _ h9 => h9) rfl dX10_sign_1 ?_
  refine lv_iconst (v := 2) hx hb dX10_sign_4 (by decide) ?_
  refine lv_iload_n hx hb dX10_sign_5 rfl (lv_at hl 1 rfl) ?_
  refine lv_imul hx hb dX10_sign_6 ?_
  obtain ⟨hi_1, hf⟩ := ck_s hf
  refine va_iald hx hb hK hP 1 0 rfl rfl hi_1 dX10_sign_7 ?_
  have hJ_1 : ∀ (t0_1 : Int32) (H : Heap) (locs : List Loc) (ls : Array Slot), kX10_sign_J1 v1 f_entry t0_1 = some r → va_P D vwCl [(a_this, .inr (7, [.ref a_now, .ref a_history, .int i_saved, .ref a_kept, .ref a_isKept, .ref a_text, .int i_length, .int i_next, .ref a_read, .ref a_uses, .ref a_entry, .ref a_passed, .ref a_draft, .ref a_label, .ref a_met, .ref a_bracket, .ref a_matrix])), (a_entry, .inl (cyI, 16, .inl f_entry))] H → va_D A [(a_this, .inr (7, [.ref a_now, .ref a_history, .int i_saved, .ref a_kept, .ref a_isKept, .ref a_text, .int i_length, .int i_next, .ref a_read, .ref a_uses, .ref a_entry, .ref a_passed, .ref a_draft, .ref a_label, .ref a_met, .ref a_bracket, .ref a_matrix])), (a_entry, .inl (cyI, 16, .inl f_entry))] → va_S A s.heap H locs → lv_has ls 4 [(0, .ref a_this), (1, .int v1)] → W p l e (headSpec wsX10_sign rmX10_sign).room s m (([.ref a_this, .int v1] : List Value).toArray) below meth c H locs 0 0 (MQ below (kQi D cyI cyZ A [(a_this, .inr (7, [.ref a_now, .ref a_history, .int i_saved, .ref a_kept, .ref a_isKept, .ref a_text, .int i_length, .int i_next, .ref a_read, .ref a_uses, .ref a_entry, .ref a_passed, .ref a_draft, .ref a_label, .ref a_met, .ref a_bracket, .ref a_matrix])), (a_entry, .inl (cyI, 16, .inl f_entry))] r) (([.ref a_this, .int v1] : List Value).toArray) s 0 0 A) (F0 m 16 ls [.int t0_1]) := by
    intro t0_1 H locs ls hf hP hD hS hl
    delta kX10_sign_J1 at hf
    refine lv_istore_n (lv' := [(2, .int t0_1), (0, .ref a_this), (1, .int v1)]) hx hb dX10_sign_16 rfl hl (by decide) rfl (fun ls hl => ?_)
    refine lv_aload_n hx hb dX10_sign_17 rfl (lv_at hl 1 rfl) ?_
    refine va_get (D := D) (ci := 7) (v := .ref a_entry) (C := RX10) (T := TX10) (N := 17) hx hb hts qX10_sign_X10 hown hK hP 0 rfl rfl 10 (Nat.le_of_ble_eq_true rfl) (hts (.fieldLink RX10 32 "KnotDiagramModel" "entry" "[I") qX10_sign_0) (fun _ h9 => h9) rfl dX10_sign_18 ?_
    refine lv_iconst (v := 2) hx hb dX10_sign_21 (by decide) ?_
    refine lv_iload_n hx hb dX10_sign_22 rfl (lv_at hl 2 rfl) ?_
    refine lv_imul hx hb dX10_sign_23 ?_
    refine lv_iconst (v := 1) hx hb dX10_sign_24 (by decide) ?_
    refine lv_iadd hx hb dX10_sign_25 ?_
    obtain ⟨hi_2, hf⟩ := ck_s hf
    refine va_iald hx hb hK hP 1 0 rfl rfl hi_2 dX10_sign_26 ?_
    refine lv_iconst (v := 3) hx hb dX10_sign_27 (by decide) ?_
    have hJ_2 : ∀ (t0_2 : Int32) (H : Heap) (locs : List Loc) (ls : Array Slot), kX10_sign_J2 t0_1 t0_2 = some r → va_P D vwCl [(a_this, .inr (7, [.ref a_now, .ref a_history, .int i_saved, .ref a_kept, .ref a_isKept, .ref a_text, .int i_length, .int i_next, .ref a_read, .ref a_uses, .ref a_entry, .ref a_passed, .ref a_draft, .ref a_label, .ref a_met, .ref a_bracket, .ref a_matrix])), (a_entry, .inl (cyI, 16, .inl f_entry))] H → va_D A [(a_this, .inr (7, [.ref a_now, .ref a_history, .int i_saved, .ref a_kept, .ref a_isKept, .ref a_text, .int i_length, .int i_next, .ref a_read, .ref a_uses, .ref a_entry, .ref a_passed, .ref a_draft, .ref a_label, .ref a_met, .ref a_bracket, .ref a_matrix])), (a_entry, .inl (cyI, 16, .inl f_entry))] → va_S A s.heap H locs → lv_has ls 4 [(2, .int t0_1)] → W p l e (headSpec wsX10_sign rmX10_sign).room s m (([.ref a_this, .int v1] : List Value).toArray) below meth c H locs 0 0 (MQ below (kQi D cyI cyZ A [(a_this, .inr (7, [.ref a_now, .ref a_history, .int i_saved, .ref a_kept, .ref a_isKept, .ref a_text, .int i_length, .int i_next, .ref a_read, .ref a_uses, .ref a_entry, .ref a_passed, .ref a_draft, .ref a_label, .ref a_met, .ref a_bracket, .ref a_matrix])), (a_entry, .inl (cyI, 16, .inl f_entry))] r) (([.ref a_this, .int v1] : List Value).toArray) s 0 0 A) (F0 m 36 ls [.int t0_2]) := by
      intro t0_2 H locs ls hf hP hD hS hl
      delta kX10_sign_J2 at hf
      refine lv_istore_n (lv' := [(3, .int t0_2), (2, .int t0_1)]) hx hb dX10_sign_36 rfl hl (by decide) rfl (fun ls hl => ?_)
      refine lv_iload_n hx hb dX10_sign_37 rfl (lv_at hl 1 rfl) ?_
      refine lv_iload_n hx hb dX10_sign_38 rfl (lv_at hl 0 rfl) ?_
      refine lv_icmp_ne (tgt := 46) hx hb dX10_sign_39 (by decide) (fun c_3 => ?_) (fun c_3 => ?_)
      · replace hf := kt_n hf c_3
        refine lv_iconst (v := (-1)) hx hb dX10_sign_46 (by decide) ?_
        obtain rfl := some1_s hf
        exact kRi hx hb hr hlocks hP hK hD hS rfl dX10_sign_47
      · replace hf := kt_p hf c_3
        refine lv_iconst (v := 1) hx hb dX10_sign_42 (by decide) ?_
        refine lv_goto (tgt := 47) hx hb dX10_sign_43 (by decide) ?_
        obtain rfl := some1_s hf
        exact kRi hx hb hr hlocks hP hK hD hS rfl dX10_sign_47
    refine lv_icmp_ne (tgt := 35) hx hb dX10_sign_28 (by decide) (fun c_4 => ?_) (fun c_4 => ?_)
    · replace hf := kt_n hf c_4
      refine lv_iconst (v := 0) hx hb dX10_sign_35 (by decide) ?_
      exact hJ_2 0 H locs ls hf hP hD hS (lv_sub hl [0] rfl)
    · replace hf := kt_p hf c_4
      refine lv_iconst (v := 1) hx hb dX10_sign_31 (by decide) ?_
      refine lv_goto (tgt := 36) hx hb dX10_sign_32 (by decide) ?_
      exact hJ_2 1 H locs ls hf hP hD hS (lv_sub hl [0] rfl)
  refine lv_if_ne (tgt := 15) hx hb dX10_sign_8 (by decide) (fun c_5 => ?_) (fun c_5 => ?_)
  · replace hf := kt_n hf c_5
    refine lv_iconst (v := 0) hx hb dX10_sign_15 (by decide) ?_
    exact hJ_1 0 H locs ls hf hP hD hS (lv_sub hl [0, 1] rfl)
  · replace hf := kt_p hf c_5
    refine lv_iconst (v := 1) hx hb dX10_sign_11 (by decide) ?_
    refine lv_goto (tgt := 16) hx hb dX10_sign_12 (by decide) ?_
    exact hJ_1 1 H locs ls hf hP hD hS (lv_sub hl [0, 1] rfl)
def kX10_writheNow_L1 (f_now : Nat → Int32) (o_entry_1 : Nat → Int32) (o_passed_1 : Nat → Int32) (K_1 : Int32 → Int32 → Option (Int32 × (Nat → Int32) × (Nat → Int32))) (v1_1 : Int32) (v2_1 : Int32) : Option (Int32 × (Nat → Int32) × (Nat → Int32)) :=
  bnd1 (kX10_crossings f_now) (fun r_2 => if r_2 ≤ v2_1 then some (v1_1, o_entry_1, o_passed_1) else bnd1 (kX10_sign v2_1 o_entry_1) (fun r_3 => K_1 (v1_1 + r_3) (v2_1 + 1)))
def kX10_writheNow (f_now : Nat → Int32) (f_entry : Nat → Int32) (f_passed : Nat → Int32) : Option (Int32 × (Nat → Int32) × (Nat → Int32)) :=
  bnd2 (kX10_orient f_now f_entry f_passed) (fun o_entry_1 o_passed_1 => it2 (kX10_writheNow_L1 f_now o_entry_1 o_passed_1) 400 0 0)
def rmX10_writheNow : Room := { frames := 4, cells := 0, slots := 0, locals := 90 }
set_option maxHeartbeats 4000000 in
set_option maxRecDepth 100000 in
theorem mX10_writheNow (l : Launch) (D : va_G) (cyI cyZ : ClassId) (sz : Nat) (a_this a_now a_history a_kept a_isKept a_text a_read a_uses a_entry a_passed a_draft a_label a_met a_bracket a_matrix : Nat) (i_saved : Int32) (i_length : Int32) (i_next : Int32) (f_now : Nat → Int32) (f_entry : Nat → Int32) (f_passed : Nat → Int32) (r : Int32) (o_entry : Nat → Int32) (o_passed : Nat → Int32) (hf : kX10_writheNow f_now f_entry f_passed = some (r, o_entry, o_passed)) : Met l yX10_writheNow wsX10_writheNow rmX10_writheNow (kPre D cyI cyZ [.ref a_this] [(a_this, .inr (7, [.ref a_now, .ref a_history, .int i_saved, .ref a_kept, .ref a_isKept, .ref a_text, .int i_length, .int i_next, .ref a_read, .ref a_uses, .ref a_entry, .ref a_passed, .ref a_draft, .ref a_label, .ref a_met, .ref a_bracket, .ref a_matrix])), (a_now, .inl (cyI, 34, .inl f_now)), (a_entry, .inl (cyI, 16, .inl f_entry)), (a_passed, .inl (cyZ, 17, .inl f_passed))] sz) (kQi D cyI cyZ (va_A [(a_this, .inr (7, [.ref a_now, .ref a_history, .int i_saved, .ref a_kept, .ref a_isKept, .ref a_text, .int i_length, .int i_next, .ref a_read, .ref a_uses, .ref a_entry, .ref a_passed, .ref a_draft, .ref a_label, .ref a_met, .ref a_bracket, .ref a_matrix])), (a_now, .inl (cyI, 34, .inl f_now)), (a_entry, .inl (cyI, 16, .inl f_entry)), (a_passed, .inl (cyZ, 17, .inl f_passed))] sz) [(a_this, .inr (7, [.ref a_now, .ref a_history, .int i_saved, .ref a_kept, .ref a_isKept, .ref a_text, .int i_length, .int i_next, .ref a_read, .ref a_uses, .ref a_entry, .ref a_passed, .ref a_draft, .ref a_label, .ref a_met, .ref a_bracket, .ref a_matrix])), (a_now, .inl (cyI, 34, .inl f_now)), (a_entry, .inl (cyI, 16, .inl o_entry)), (a_passed, .inl (cyZ, 17, .inl o_passed))] r) 0 0 (va_A [(a_this, .inr (7, [.ref a_now, .ref a_history, .int i_saved, .ref a_kept, .ref a_isKept, .ref a_text, .int i_length, .int i_next, .ref a_read, .ref a_uses, .ref a_entry, .ref a_passed, .ref a_draft, .ref a_label, .ref a_met, .ref a_bracket, .ref a_matrix])), (a_now, .inl (cyI, 34, .inl f_now)), (a_entry, .inl (cyI, 16, .inl f_entry)), (a_passed, .inl (cyZ, 17, .inl f_passed))] sz) := by
  refine Met.ofW (cc := cX10_writheNow) (maxL := 3) (ret := (some .int)) (by decide) rfl ?_
  intro p e s m args below meth c s₁ B hml hv
  obtain ⟨rfl, hsz, hP, hK, hD0, hN⟩ := hv
  have hx := B.exec
  have hb := B.bytes
  have hr := B.returns
  have hts := atoms_spec (ws := wsX10_writheNow) B.pre
  have hown : s.vm.findClass RX10 = some m.cls := findClass_of_methodNamed B.named
  have hlocks := B.notSynchronized
  subst hsz
  have hD := hD0.self (sz := s.heap.size)
  generalize hAe : va_A [(a_this, .inr (7, [.ref a_now, .ref a_history, .int i_saved, .ref a_kept, .ref a_isKept, .ref a_text, .int i_length, .int i_next, .ref a_read, .ref a_uses, .ref a_entry, .ref a_passed, .ref a_draft, .ref a_label, .ref a_met, .ref a_bracket, .ref a_matrix])), (a_now, .inl (cyI, 34, .inl f_now)), (a_entry, .inl (cyI, 16, .inl f_entry)), (a_passed, .inl (cyZ, 17, .inl f_passed))] s.heap.size = A at hD ⊢
  have hA : ∀ q : Nat, s.heap.size ≤ q → A q := fun q h => by rw [← hAe]; exact Or.inr h
  clear hAe hD0
  have hS : va_S A s.heap s.heap [] := va_S.rf
  have S : CallFix p m c cX10_writheNow 3 s (([.ref a_this] : List Value).toArray) wsX10_writheNow RX10 := ⟨hx, hb, hml, hown, hts⟩
  have hl := lv_entry ([.ref a_this]) (n := 3) (Nat.le_of_ble_eq_true rfl)
  rw [lg_entry_eq]
  generalize (lg_sl ([.ref a_this]) ++ List.replicate (3 - (lg_sl ([.ref a_this])).length) Slot.unset).toArray = ls at hl ⊢
  replace hl : lv_has ls 3 [(0, .ref a_this)] := hl
  generalize ([] : List Loc) = locs at hS ⊢
  delta kX10_writheNow at hf
  obtain ⟨H, hH⟩ : ∃ H, H = s.heap := ⟨_, rfl⟩
  have hS : va_S A s.heap H locs := by rw [hH]; exact hS
  have hP : va_P D vwCl [(a_this, .inr (7, [.ref a_now, .ref a_history, .int i_saved, .ref a_kept, .ref a_isKept, .ref a_text, .int i_length, .int i_next, .ref a_read, .ref a_uses, .ref a_entry, .ref a_passed, .ref a_draft, .ref a_label, .ref a_met, .ref a_bracket, .ref a_matrix])), (a_now, .inl (cyI, 34, .inl f_now)), (a_entry, .inl (cyI, 16, .inl f_entry)), (a_passed, .inl (cyZ, 17, .inl f_passed))] H := by rw [hH]; exact hP
  suffices hgo : W p l e (headSpec wsX10_writheNow rmX10_writheNow).room s m (([.ref a_this] : List Value).toArray) below meth c H locs 0 0 (MQ below (kQi D cyI cyZ A [(a_this, .inr (7, [.ref a_now, .ref a_history, .int i_saved, .ref a_kept, .ref a_isKept, .ref a_text, .int i_length, .int i_next, .ref a_read, .ref a_uses, .ref a_entry, .ref a_passed, .ref a_draft, .ref a_label, .ref a_met, .ref a_bracket, .ref a_matrix])), (a_now, .inl (cyI, 34, .inl f_now)), (a_entry, .inl (cyI, 16, .inl o_entry)), (a_passed, .inl (cyZ, 17, .inl o_passed))] r) (([.ref a_this] : List Value).toArray) s 0 0 A) (F0 m 0 ls []) by rw [hH] at hgo; exact hgo
  clear hH
  refine lv_aload_n hx hb dX10_writheNow_0 rfl (lv_at hl 0 rfl) ?_
  obtain ⟨o_entry_1, o_passed_1, hc_1, hf⟩ := bnd2_s hf
  refine kcVv (As := []) (rest := []) (w2 := [(a_this, .inr (7, [.ref a_now, .ref a_history, .int i_saved, .ref a_kept, .ref a_isKept, .ref a_text, .int i_length, .int i_next, .ref a_read, .ref a_uses, .ref a_entry, .ref a_passed, .ref a_draft, .ref a_label, .ref a_met, .ref a_bracket, .ref a_matrix])), (a_now, .inl (cyI, 34, .inl f_now)), (a_entry, .inl (cyI, 16, .inl o_entry_1)), (a_passed, .inl (cyZ, 17, .inl o_passed_1))]) S hK hP hD hS hA hN (mX10_orient l D cyI cyZ H.size a_this a_now a_history a_kept a_isKept a_text a_read a_uses a_entry a_passed a_draft a_label a_met a_bracket a_matrix i_saved i_length i_next f_now f_entry f_passed o_entry_1 o_passed_1 hc_1) (cwV 0 hts gX10_writheNow_X10_orient rfl rfl rfl (by decide +kernel) ⟨Nat.le_of_ble_eq_true rfl, Nat.le_of_ble_eq_true rfl⟩) 7 0 rfl rfl [0, 1, 2, 3] [] [0, 1, 2, 3] rfl rfl rfl rfl (by decide) rfl rfl hl.1 (Nat.le_of_ble_eq_true rfl) dX10_writheNow_1 ⟨Nat.le_of_ble_eq_true rfl, Nat.le_of_ble_eq_true rfl⟩ (fun H locs hP hD hS => ?_)
  refine lv_iconst (v := 0) hx hb dX10_writheNow_4 (by decide) ?_
  refine lv_istore_n (lv' := [(1, .int 0), (0, .ref a_this)]) hx hb dX10_writheNow_5 rfl hl (by decide) rfl (fun ls hl => ?_)
  refine lv_iconst (v := 0) hx hb dX10_writheNow_6 (by decide) ?_
  refine lv_istore_n (lv' := [(2, .int 0), (1, .int 0), (0, .ref a_this)]) hx hb dX10_writheNow_7 rfl hl (by decide) rfl (fun ls hl => ?_)
  have hL_1 : ∀ (n : Nat) (v1_1 : Int32) (v2_1 : Int32) (H : Heap) (locs : List Loc) (ls : Array Slot), it2 (kX10_writheNow_L1 f_now o_entry_1 o_passed_1) n v1_1 v2_1 = some (r, o_entry, o_passed) → va_P D vwCl [(a_this, .inr (7, [.ref a_now, .ref a_history, .int i_saved, .ref a_kept, .ref a_isKept, .ref a_text, .int i_length, .int i_next, .ref a_read, .ref a_uses, .ref a_entry, .ref a_passed, .ref a_draft, .ref a_label, .ref a_met, .ref a_bracket, .ref a_matrix])), (a_now, .inl (cyI, 34, .inl f_now)), (a_entry, .inl (cyI, 16, .inl o_entry_1)), (a_passed, .inl (cyZ, 17, .inl o_passed_1))] H → va_D A [(a_this, .inr (7, [.ref a_now, .ref a_history, .int i_saved, .ref a_kept, .ref a_isKept, .ref a_text, .int i_length, .int i_next, .ref a_read, .ref a_uses, .ref a_entry, .ref a_passed, .ref a_draft, .ref a_label, .ref a_met, .ref a_bracket, .ref a_matrix])), (a_now, .inl (cyI, 34, .inl f_now)), (a_entry, .inl (cyI, 16, .inl o_entry_1)), (a_passed, .inl (cyZ, 17, .inl o_passed_1))] → va_S A s.heap H locs → lv_has ls 3 [(0, .ref a_this), (1, .int v1_1), (2, .int v2_1)] → W p l e (headSpec wsX10_writheNow rmX10_writheNow).room s m (([.ref a_this] : List Value).toArray) below meth c H locs 0 0 (MQ below (kQi D cyI cyZ A [(a_this, .inr (7, [.ref a_now, .ref a_history, .int i_saved, .ref a_kept, .ref a_isKept, .ref a_text, .int i_length, .int i_next, .ref a_read, .ref a_uses, .ref a_entry, .ref a_passed, .ref a_draft, .ref a_label, .ref a_met, .ref a_bracket, .ref a_matrix])), (a_now, .inl (cyI, 34, .inl f_now)), (a_entry, .inl (cyI, 16, .inl o_entry)), (a_passed, .inl (cyZ, 17, .inl o_passed))] r) (([.ref a_this] : List Value).toArray) s 0 0 A) (F0 m 8 ls []) := by
    intro n_1
    induction n_1 with
    | zero =>
      intro _ _ _ _ _ hf
      exact (it2_z hf).elim
    | succ n_1 ih_1 =>
      intro v1_1 v2_1 H locs ls hf hP hD hS hl
      replace hf := it2_s hf
      rw [kX10_writheNow_L1] at hf
      refine lv_iload_n hx hb dX10_writheNow_8 rfl (lv_at hl 2 rfl) ?_
      refine lv_aload_n hx hb dX10_writheNow_9 rfl (lv_at hl 0 rfl) ?_
      obtain ⟨r_2, hc_2, hf⟩ := bnd1_s hf
      refine kcVi (As := []) (rest := [.int v2_1]) (w2 := [(a_this, .inr (7, [.ref a_now, .ref a_history, .int i_saved, .ref a_kept, .ref a_isKept, .ref a_text, .int i_length, .int i_next, .ref a_read, .ref a_uses, .ref a_entry, .ref a_passed, .ref a_draft, .ref a_label, .ref a_met, .ref a_bracket, .ref a_matrix])), (a_now, .inl (cyI, 34, .inl f_now)), (a_entry, .inl (cyI, 16, .inl o_entry_1)), (a_passed, .inl (cyZ, 17, .inl o_passed_1))]) S hK hP hD hS hA hN (mX10_crossings l D cyI cyZ H.size a_this a_now a_history a_kept a_isKept a_text a_read a_uses a_entry a_passed a_draft a_label a_met a_bracket a_matrix i_saved i_length i_next f_now r_2 hc_2) (cwV 0 hts gX10_writheNow_X10_crossings rfl rfl rfl (by decide +kernel) ⟨Nat.le_of_ble_eq_true rfl, Nat.le_of_ble_eq_true rfl⟩) 7 0 rfl rfl [0, 1] [2, 3] [2, 3, 0, 1] rfl rfl rfl rfl (by decide) rfl rfl hl.1 (Nat.le_of_ble_eq_true rfl) dX10_writheNow_10 ⟨Nat.le_of_ble_eq_true rfl, Nat.le_of_ble_eq_true rfl⟩ (fun H locs hP hD hS => ?_)
      refine lv_icmp_ge (tgt := 30) hx hb dX10_writheNow_13 (by decide) (fun c_4 => ?_) (fun c_4 => ?_)
      · replace hf := kt_p hf c_4
        refine lv_iload_n hx hb dX10_writheNow_30 rfl (lv_at hl 1 rfl) ?_
        obtain ⟨rfl, rfl, rfl⟩ := some3_s hf
        exact kRi hx hb hr hlocks hP hK hD hS rfl dX10_writheNow_31
      · replace hf := kt_n hf c_4
        refine lv_iload_n hx hb dX10_writheNow_16 rfl (lv_at hl 1 rfl) ?_
        refine lv_aload_n hx hb dX10_writheNow_17 rfl (lv_at hl 0 rfl) ?_
        refine lv_iload_n hx hb dX10_writheNow_18 rfl (lv_at hl 2 rfl) ?_
        obtain ⟨r_3, hc_3, hf⟩ := bnd1_s hf
        refine kcVi (As := [.int v2_1]) (rest := [.int v1_1]) (w2 := [(a_this, .inr (7, [.ref a_now, .ref a_history, .int i_saved, .ref a_kept, .ref a_isKept, .ref a_text, .int i_length, .int i_next, .ref a_read, .ref a_uses, .ref a_entry, .ref a_passed, .ref a_draft, .ref a_label, .ref a_met, .ref a_bracket, .ref a_matrix])), (a_now, .inl (cyI, 34, .inl f_now)), (a_entry, .inl (cyI, 16, .inl o_entry_1)), (a_passed, .inl (cyZ, 17, .inl o_passed_1))]) S hK hP hD hS hA hN (mX10_sign l D cyI cyZ H.size a_this a_now a_history a_kept a_isKept a_text a_read a_uses a_entry a_passed a_draft a_label a_met a_bracket a_matrix v2_1 i_saved i_length i_next o_entry_1 r_3 hc_3) (cwV 1 hts gX10_writheNow_X10_sign rfl rfl rfl (by decide +kernel) ⟨Nat.le_of_ble_eq_true rfl, Nat.le_of_ble_eq_true rfl⟩) 7 0 rfl rfl [0, 2] [1, 3] [2, 0, 3, 1] rfl rfl rfl rfl (by decide) rfl rfl hl.1 (Nat.le_of_ble_eq_true rfl) dX10_writheNow_19 ⟨Nat.le_of_ble_eq_true rfl, Nat.le_of_ble_eq_true rfl⟩ (fun H locs hP hD hS => ?_)
        refine lv_iadd hx hb dX10_writheNow_22 ?_
        refine lv_istore_n (lv' := [(1, .int (v1_1 + r_3)), (0, .ref a_this), (2, .int v2_1)]) hx hb dX10_writheNow_23 rfl hl (by decide) rfl (fun ls hl => ?_)
        refine lv_iinc (v := (v2_1 + 1)) (lv' := [(2, .int (v2_1 + 1)), (1, .int (v1_1 + r_3)), (0, .ref a_this)]) hx hb dX10_writheNow_24 hl (k := 2) rfl rfl (by decide) rfl (fun ls hl => ?_)
        refine lv_goto (tgt := 8) hx hb dX10_writheNow_27 (by decide) ?_
        exact ih_1 (v1_1 + r_3) (v2_1 + 1) H locs ls hf hP hD hS (lv_sub hl [2, 1, 0] rfl)
  exact hL_1 400 0 0 H locs ls hf hP hD hS (lv_sub hl [2, 1, 0] rfl)
def kX10_crossingSign (v1 : Int32) (f_now : Nat → Int32) (f_entry : Nat → Int32) (f_passed : Nat → Int32) : Option (Int32 × (Nat → Int32) × (Nat → Int32)) :=
  bnd1 (kX10_isCrossing v1 f_now) (fun r_1 => if r_1 = 0 then some ((-1000001), f_entry, f_passed) else bnd2 (kX10_orient f_now f_entry f_passed) (fun o_entry_2 o_passed_2 => bnd1 (kX10_sign v1 o_entry_2) (fun r_3 => some (r_3, o_entry_2, o_passed_2))))
def rmX10_crossingSign : Room := { frames := 4, cells := 0, slots := 0, locals := 90 }
theorem qX10_crossingSign_0 : (.constant RX10 68 (-1000001) : Cond) ∈ wsX10_crossingSign := by decide +kernel
set_option maxHeartbeats 4000000 in
set_option maxRecDepth 100000 in
theorem mX10_crossingSign (l : Launch) (D : va_G) (cyI cyZ : ClassId) (sz : Nat) (a_this a_now a_history a_kept a_isKept a_text a_read a_uses a_entry a_passed a_draft a_label a_met a_bracket a_matrix : Nat) (v1 : Int32) (i_saved : Int32) (i_length : Int32) (i_next : Int32) (f_now : Nat → Int32) (f_entry : Nat → Int32) (f_passed : Nat → Int32) (r : Int32) (o_entry : Nat → Int32) (o_passed : Nat → Int32) (hf : kX10_crossingSign v1 f_now f_entry f_passed = some (r, o_entry, o_passed)) : Met l yX10_crossingSign wsX10_crossingSign rmX10_crossingSign (kPre D cyI cyZ [.ref a_this, .int v1] [(a_this, .inr (7, [.ref a_now, .ref a_history, .int i_saved, .ref a_kept, .ref a_isKept, .ref a_text, .int i_length, .int i_next, .ref a_read, .ref a_uses, .ref a_entry, .ref a_passed, .ref a_draft, .ref a_label, .ref a_met, .ref a_bracket, .ref a_matrix])), (a_now, .inl (cyI, 34, .inl f_now)), (a_entry, .inl (cyI, 16, .inl f_entry)), (a_passed, .inl (cyZ, 17, .inl f_passed))] sz) (kQi D cyI cyZ (va_A [(a_this, .inr (7, [.ref a_now, .ref a_history, .int i_saved, .ref a_kept, .ref a_isKept, .ref a_text, .int i_length, .int i_next, .ref a_read, .ref a_uses, .ref a_entry, .ref a_passed, .ref a_draft, .ref a_label, .ref a_met, .ref a_bracket, .ref a_matrix])), (a_now, .inl (cyI, 34, .inl f_now)), (a_entry, .inl (cyI, 16, .inl f_entry)), (a_passed, .inl (cyZ, 17, .inl f_passed))] sz) [(a_this, .inr (7, [.ref a_now, .ref a_history, .int i_saved, .ref a_kept, .ref a_isKept, .ref a_text, .int i_length, .int i_next, .ref a_read, .ref a_uses, .ref a_entry, .ref a_passed, .ref a_draft, .ref a_label, .ref a_met, .ref a_bracket, .ref a_matrix])), (a_now, .inl (cyI, 34, .inl f_now)), (a_entry, .inl (cyI, 16, .inl o_entry)), (a_passed, .inl (cyZ, 17, .inl o_passed))] r) 0 0 (va_A [(a_this, .inr (7, [.ref a_now, .ref a_history, .int i_saved, .ref a_kept, .ref a_isKept, .ref a_text, .int i_length, .int i_next, .ref a_read, .ref a_uses, .ref a_entry, .ref a_passed, .ref a_draft, .ref a_label, .ref a_met, .ref a_bracket, .ref a_matrix])), (a_now, .inl (cyI, 34, .inl f_now)), (a_entry, .inl (cyI, 16, .inl f_entry)), (a_passed, .inl (cyZ, 17, .inl f_passed))] sz) := by
  refine Met.ofW (cc := cX10_crossingSign) (maxL := 2) (ret := (some .int)) (by decide) rfl ?_
  intro p e s m args below meth c s₁ B hml hv
  obtain ⟨rfl, hsz, hP, hK, hD0, hN⟩ := hv
  have hx := B.exec
  have hb := B.bytes
  have hr := B.returns
  have hts := atoms_spec (ws := wsX10_crossingSign) B.pre
  have hown : s.vm.findClass RX10 = some m.cls := findClass_of_methodNamed B.named
  have hlocks := B.notSynchronized
  subst hsz
  have hD := hD0.self (sz := s.heap.size)
  generalize hAe : va_A [(a_this, .inr (7, [.ref a_now, .ref a_history, .int i_saved, .ref a_kept, .ref a_isKept, .ref a_text, .int i_length, .int i_next, .ref a_read, .ref a_uses, .ref a_entry, .ref a_passed, .ref a_draft, .ref a_label, .ref a_met, .ref a_bracket, .ref a_matrix])), (a_now, .inl (cyI, 34, .inl f_now)), (a_entry, .inl (cyI, 16, .inl f_entry)), (a_passed, .inl (cyZ, 17, .inl f_passed))] s.heap.size = A at hD ⊢
  have hA : ∀ q : Nat, s.heap.size ≤ q → A q := fun q h => by rw [← hAe]; exact Or.inr h
  clear hAe hD0
  have hS : va_S A s.heap s.heap [] := va_S.rf
  have S : CallFix p m c cX10_crossingSign 2 s (([.ref a_this, .int v1] : List Value).toArray) wsX10_crossingSign RX10 := ⟨hx, hb, hml, hown, hts⟩
  have hl := lv_entry ([.ref a_this, .int v1]) (n := 2) (Nat.le_of_ble_eq_true rfl)
  rw [lg_entry_eq]
  generalize (lg_sl ([.ref a_this, .int v1]) ++ List.replicate (2 - (lg_sl ([.ref a_this, .int v1])).length) Slot.unset).toArray = ls at hl ⊢
  replace hl : lv_has ls 2 [(0, .ref a_this), (1, .int v1)] := hl
  generalize ([] : List Loc) = locs at hS ⊢
  delta kX10_crossingSign at hf
  obtain ⟨H, hH⟩ : ∃ H, H = s.heap := ⟨_, rfl⟩
  have hS : va_S A s.heap H locs := by rw [hH]; exact hS
  have hP : va_P D vwCl [(a_this, .inr (7, [.ref a_now, .ref a_history, .int i_saved, .ref a_kept, .ref a_isKept, .ref a_text, .int i_length, .int i_next, .ref a_read, .ref a_uses, .ref a_entry, .ref a_passed, .ref a_draft, .ref a_label, .ref a_met, .ref a_bracket, .ref a_matrix])), (a_now, .inl (cyI, 34, .inl f_now)), (a_entry, .inl (cyI, 16, .inl f_entry)), (a_passed, .inl (cyZ, 17, .inl f_passed))] H := by rw [hH]; exact hP
  suffices hgo : W p l e (headSpec wsX10_crossingSign rmX10_crossingSign).room s m (([.ref a_this, .int v1] : List Value).toArray) below meth c H locs 0 0 (MQ below (kQi D cyI cyZ A [(a_this, .inr (7, [.ref a_now, .ref a_history, .int i_saved, .ref a_kept, .ref a_isKept, .ref a_text, .int i_length, .int i_next, .ref a_read, .ref a_uses, .ref a_entry, .ref a_passed, .ref a_draft, .ref a_label, .ref a_met, .ref a_bracket, .ref a_matrix])), (a_now, .inl (cyI, 34, .inl f_now)), (a_entry, .inl (cyI, 16, .inl o_entry)), (a_passed, .inl (cyZ, 17, .inl o_passed))] r) (([.ref a_this, .int v1] : List Value).toArray) s 0 0 A) (F0 m 0 ls []) by rw [hH] at hgo; exact hgo
  clear hH
  refine lv_aload_n hx hb dX10_crossingSign_0 rfl (lv_at hl 0 rfl) ?_
  refine lv_iload_n hx hb dX10_crossingSign_1 rfl (lv_at hl 1 rfl) ?_
  obtain ⟨r_1, hc_1, hf⟩ := bnd1_s hf
  refine kcVi (As := [.int v1]) (rest := []) (w2 := [(a_this, .inr (7, [.ref a_now, .ref a_history, .int i_saved, .ref a_kept, .ref a_isKept, .ref a_text, .int i_length, .int i_next, .ref a_read, .ref a_uses, .ref a_entry, .ref a_passed, .ref a_draft, .ref a_label, .ref a_met, .ref a_bracket, .ref a_matrix])), (a_now, .inl (cyI, 34, .inl f_now)), (a_entry, .inl (cyI, 16, .inl f_entry)), (a_passed, .inl (cyZ, 17, .inl f_passed))]) S hK hP hD hS hA hN (mX10_isCrossing l D cyI cyZ H.size a_this a_now a_history a_kept a_isKept a_text a_read a_uses a_entry a_passed a_draft a_label a_met a_bracket a_matrix v1 i_saved i_length i_next f_now r_1 hc_1) (cwV 1 hts gX10_crossingSign_X10_isCrossing rfl rfl rfl (by decide +kernel) ⟨Nat.le_of_ble_eq_true rfl, Nat.le_of_ble_eq_true rfl⟩) 7 0 rfl rfl [0, 1] [2, 3] [2, 3, 0, 1] rfl rfl rfl rfl (by decide) rfl rfl hl.1 (Nat.le_of_ble_eq_true rfl) dX10_crossingSign_2 ⟨Nat.le_of_ble_eq_true rfl, Nat.le_of_ble_eq_true rfl⟩ (fun H locs hP hD hS => ?_)
  refine lv_if_ne (tgt := 11) hx hb dX10_crossingSign_5 (by decide) (fun c_4 => ?_) (fun c_4 => ?_)
  · replace hf := kt_n hf c_4
    refine lv_aload_n hx hb dX10_crossingSign_11 rfl (lv_at hl 0 rfl) ?_
    obtain ⟨o_entry_2, o_passed_2, hc_2, hf⟩ := bnd2_s hf
    refine kcVv (As := []) (rest := []) (w2 := [(a_this, .inr (7, [.ref a_now, .ref a_history, .int i_saved, .ref a_kept, .ref a_isKept, .ref a_text, .int i_length, .int i_next, .ref a_read, .ref a_uses, .ref a_entry, .ref a_passed, .ref a_draft, .ref a_label, .ref a_met, .ref a_bracket, .ref a_matrix])), (a_now, .inl (cyI, 34, .inl f_now)), (a_entry, .inl (cyI, 16, .inl o_entry_2)), (a_passed, .inl (cyZ, 17, .inl o_passed_2))]) S hK hP hD hS hA hN (mX10_orient l D cyI cyZ H.size a_this a_now a_history a_kept a_isKept a_text a_read a_uses a_entry a_passed a_draft a_label a_met a_bracket a_matrix i_saved i_length i_next f_now f_entry f_passed o_entry_2 o_passed_2 hc_2) (cwV 0 hts gX10_crossingSign_X10_orient rfl rfl rfl (by decide +kernel) ⟨Nat.le_of_ble_eq_true rfl, Nat.le_of_ble_eq_true rfl⟩) 7 0 rfl rfl [0, 1, 2, 3] [] [0, 1, 2, 3] rfl rfl rfl rfl (by decide) rfl rfl hl.1 (Nat.le_of_ble_eq_true rfl) dX10_crossingSign_12 ⟨Nat.le_of_ble_eq_true rfl, Nat.le_of_ble_eq_true rfl⟩ (fun H locs hP hD hS => ?_)
    refine lv_aload_n hx hb dX10_crossingSign_15 rfl (lv_at hl 0 rfl) ?_
    refine lv_iload_n hx hb dX10_crossingSign_16 rfl (lv_at hl 1 rfl) ?_
    obtain ⟨r_3, hc_3, hf⟩ := bnd1_s hf
    refine kcVi (As := [.int v1]) (rest := []) (w2 := [(a_this, .inr (7, [.ref a_now, .ref a_history, .int i_saved, .ref a_kept, .ref a_isKept, .ref a_text, .int i_length, .int i_next, .ref a_read, .ref a_uses, .ref a_entry, .ref a_passed, .ref a_draft, .ref a_label, .ref a_met, .ref a_bracket, .ref a_matrix])), (a_now, .inl (cyI, 34, .inl f_now)), (a_entry, .inl (cyI, 16, .inl o_entry_2)), (a_passed, .inl (cyZ, 17, .inl o_passed_2))]) S hK hP hD hS hA hN (mX10_sign l D cyI cyZ H.size a_this a_now a_history a_kept a_isKept a_text a_read a_uses a_entry a_passed a_draft a_label a_met a_bracket a_matrix v1 i_saved i_length i_next o_entry_2 r_3 hc_3) (cwV 1 hts gX10_crossingSign_X10_sign rfl rfl rfl (by decide +kernel) ⟨Nat.le_of_ble_eq_true rfl, Nat.le_of_ble_eq_true rfl⟩) 7 0 rfl rfl [0, 2] [1, 3] [2, 0, 3, 1] rfl rfl rfl rfl (by decide) rfl rfl hl.1 (Nat.le_of_ble_eq_true rfl) dX10_crossingSign_17 ⟨Nat.le_of_ble_eq_true rfl, Nat.le_of_ble_eq_true rfl⟩ (fun H locs hP hD hS => ?_)
    obtain ⟨rfl, rfl, rfl⟩ := some3_s hf
    exact kRi hx hb hr hlocks hP hK hD hS rfl dX10_crossingSign_20
  · replace hf := kt_p hf c_4
    refine lv_ldc (v := (-1000001)) hx hb hown (hts (.constant RX10 68 (-1000001)) qX10_crossingSign_0) dX10_crossingSign_8 ?_
    obtain ⟨rfl, rfl, rfl⟩ := some3_s hf
    exact kRi hx hb hr hlocks hP hK hD hS rfl dX10_crossingSign_10
def kX10_writhe (f_now : Nat → Int32) (f_entry : Nat → Int32) (f_passed : Nat → Int32) : Option (Int32 × (Nat → Int32) × (Nat → Int32)) :=
  bnd3 (kX10_writheNow f_now f_entry f_passed) (fun r_1 o_entry_1 o_passed_1 => some (r_1, o_entry_1, o_passed_1))
def rmX10_writhe : Room := { frames := 5, cells := 0, slots := 0, locals := 112 }
set_option maxHeartbeats 4000000 in
set_option maxRecDepth 100000 in
theorem mX10_writhe (l : Launch) (D : va_G) (cyI cyZ : ClassId) (sz : Nat) (a_this a_now a_history a_kept a_isKept a_text a_read a_uses a_entry a_passed a_draft a_label a_met a_bracket a_matrix : Nat) (i_saved : Int32) (i_length : Int32) (i_next : Int32) (f_now : Nat → Int32) (f_entry : Nat → Int32) (f_passed : Nat → Int32) (r : Int32) (o_entry : Nat → Int32) (o_passed : Nat → Int32) (hf : kX10_writhe f_now f_entry f_passed = some (r, o_entry, o_passed)) : Met l yX10_writhe wsX10_writhe rmX10_writhe (kPre D cyI cyZ [.ref a_this] [(a_this, .inr (7, [.ref a_now, .ref a_history, .int i_saved, .ref a_kept, .ref a_isKept, .ref a_text, .int i_length, .int i_next, .ref a_read, .ref a_uses, .ref a_entry, .ref a_passed, .ref a_draft, .ref a_label, .ref a_met, .ref a_bracket, .ref a_matrix])), (a_now, .inl (cyI, 34, .inl f_now)), (a_entry, .inl (cyI, 16, .inl f_entry)), (a_passed, .inl (cyZ, 17, .inl f_passed))] sz) (kQi D cyI cyZ (va_A [(a_this, .inr (7, [.ref a_now, .ref a_history, .int i_saved, .ref a_kept, .ref a_isKept, .ref a_text, .int i_length, .int i_next, .ref a_read, .ref a_uses, .ref a_entry, .ref a_passed, .ref a_draft, .ref a_label, .ref a_met, .ref a_bracket, .ref a_matrix])), (a_now, .inl (cyI, 34, .inl f_now)), (a_entry, .inl (cyI, 16, .inl f_entry)), (a_passed, .inl (cyZ, 17, .inl f_passed))] sz) [(a_this, .inr (7, [.ref a_now, .ref a_history, .int i_saved, .ref a_kept, .ref a_isKept, .ref a_text, .int i_length, .int i_next, .ref a_read, .ref a_uses, .ref a_entry, .ref a_passed, .ref a_draft, .ref a_label, .ref a_met, .ref a_bracket, .ref a_matrix])), (a_now, .inl (cyI, 34, .inl f_now)), (a_entry, .inl (cyI, 16, .inl o_entry)), (a_passed, .inl (cyZ, 17, .inl o_passed))] r) 0 0 (va_A [(a_this, .inr (7, [.ref a_now, .ref a_history, .int i_saved, .ref a_kept, .ref a_isKept, .ref a_text, .int i_length, .int i_next, .ref a_read, .ref a_uses, .ref a_entry, .ref a_passed, .ref a_draft, .ref a_label, .ref a_met, .ref a_bracket, .ref a_matrix])), (a_now, .inl (cyI, 34, .inl f_now)), (a_entry, .inl (cyI, 16, .inl f_entry)), (a_passed, .inl (cyZ, 17, .inl f_passed))] sz) := by
  refine Met.ofW (cc := cX10_writhe) (maxL := 1) (ret := (some .int)) (by decide) rfl ?_
  intro p e s m args below meth c s₁ B hml hv
  obtain ⟨rfl, hsz, hP, hK, hD0, hN⟩ := hv
  have hx := B.exec
  have hb := B.bytes
  have hr := B.returns
  have hts := atoms_spec (ws := wsX10_writhe) B.pre
  have hown : s.vm.findClass RX10 = some m.cls := findClass_of_methodNamed B.named
  have hlocks := B.notSynchronized
  subst hsz
  have hD := hD0.self (sz := s.heap.size)
  generalize hAe : va_A [(a_this, .inr (7, [.ref a_now, .ref a_history, .int i_saved, .ref a_kept, .ref a_isKept, .ref a_text, .int i_length, .int i_next, .ref a_read, .ref a_uses, .ref a_entry, .ref a_passed, .ref a_draft, .ref a_label, .ref a_met, .ref a_bracket, .ref a_matrix])), (a_now, .inl (cyI, 34, .inl f_now)), (a_entry, .inl (cyI, 16, .inl f_entry)), (a_passed, .inl (cyZ, 17, .inl f_passed))] s.heap.size = A at hD ⊢
  have hA : ∀ q : Nat, s.heap.size ≤ q → A q := fun q h => by rw [← hAe]; exact Or.inr h
  clear hAe hD0
  have hS : va_S A s.heap s.heap [] := va_S.rf
  have S : CallFix p m c cX10_writhe 1 s (([.ref a_this] : List Value).toArray) wsX10_writhe RX10 := ⟨hx, hb, hml, hown, hts⟩
  have hl := lv_entry ([.ref a_this]) (n := 1) (Nat.le_of_ble_eq_true rfl)
  rw [lg_entry_eq]
  generalize (lg_sl ([.ref a_this]) ++ List.replicate (1 - (lg_sl ([.ref a_this])).length) Slot.unset).toArray = ls at hl ⊢
  replace hl : lv_has ls 1 [(0, .ref a_this)] := hl
  generalize ([] : List Loc) = locs at hS ⊢
  delta kX10_writhe at hf
  obtain ⟨H, hH⟩ : ∃ H, H = s.heap := ⟨_, rfl⟩
  have hS : va_S A s.heap H locs := by rw [hH]; exact hS
  have hP : va_P D vwCl [(a_this, .inr (7, [.ref a_now, .ref a_history, .int i_saved, .ref a_kept, .ref a_isKept, .ref a_text, .int i_length, .int i_next, .ref a_read, .ref a_uses, .ref a_entry, .ref a_passed, .ref a_draft, .ref a_label, .ref a_met, .ref a_bracket, .ref a_matrix])), (a_now, .inl (cyI, 34, .inl f_now)), (a_entry, .inl (cyI, 16, .inl f_entry)), (a_passed, .inl (cyZ, 17, .inl f_passed))] H := by rw [hH]; exact hP
  suffices hgo : W p l e (headSpec wsX10_writhe rmX10_writhe).room s m (([.ref a_this] : List Value).toArray) below meth c H locs 0 0 (MQ below (kQi D cyI cyZ A [(a_this, .inr (7, [.ref a_now, .ref a_history, .int i_saved, .ref a_kept, .ref a_isKept, .ref a_text, .int i_length, .int i_next, .ref a_read, .ref a_uses, .ref a_entry, .ref a_passed, .ref a_draft, .ref a_label, .ref a_met, .ref a_bracket, .ref a_matrix])), (a_now, .inl (cyI, 34, .inl f_now)), (a_entry, .inl (cyI, 16, .inl o_entry)), (a_passed, .inl (cyZ, 17, .inl o_passed))] r) (([.ref a_this] : List Value).toArray) s 0 0 A) (F0 m 0 ls []) by rw [hH] at hgo; exact hgo
  clear hH
  refine lv_aload_n hx hb dX10_writhe_0 rfl (lv_at hl 0 rfl) ?_
  obtain ⟨r_1, o_entry_1, o_passed_1, hc_1, hf⟩ := bnd3_s hf
  refine kcVi (As := []) (rest := []) (w2 := [(a_this, .inr (7, [.ref a_now, .ref a_history, .int i_saved, .ref a_kept, .ref a_isKept, .ref a_text, .int i_length, .int i_next, .ref a_read, .ref a_uses, .ref a_entry, .ref a_passed, .ref a_draft, .ref a_label, .ref a_met, .ref a_bracket, .ref a_matrix])), (a_now, .inl (cyI, 34, .inl f_now)), (a_entry, .inl (cyI, 16, .inl o_entry_1)), (a_passed, .inl (cyZ, 17, .inl o_passed_1))]) S hK hP hD hS hA hN (mX10_writheNow l D cyI cyZ H.size a_this a_now a_history a_kept a_isKept a_text a_read a_uses a_entry a_passed a_draft a_label a_met a_bracket a_matrix i_saved i_length i_next f_now f_entry f_passed r_1 o_entry_1 o_passed_1 hc_1) (cwV 0 hts gX10_writhe_X10_writheNow rfl rfl rfl (by decide +kernel) ⟨Nat.le_of_ble_eq_true rfl, Nat.le_of_ble_eq_true rfl⟩) 7 0 rfl rfl [0, 1, 2, 3] [] [0, 1, 2, 3] rfl rfl rfl rfl (by decide) rfl rfl hl.1 (Nat.le_of_ble_eq_true rfl) dX10_writhe_1 ⟨Nat.le_of_ble_eq_true rfl, Nat.le_of_ble_eq_true rfl⟩ (fun H locs hP hD hS => ?_)
  obtain ⟨rfl, rfl, rfl⟩ := some3_s hf
  exact kRi hx hb hr hlocks hP hK hD hS rfl dX10_writhe_4
def kX10_exchange (v1 : Int32) (f_now : Nat → Int32) : Option ((Nat → Int32)) :=
  ck (2 + (4 * v1)) 34 (ck ((2 + (4 * v1)) + 1) 34 (ck (2 + (4 * v1)) 34 (ck ((2 + (4 * v1)) + 2) 34 (ck ((2 + (4 * v1)) + 1) 34 (ck ((2 + (4 * v1)) + 3) 34 (ck ((2 + (4 * v1)) + 2) 34 (ck ((2 + (4 * v1)) + 3) 34 (some (upd (upd (upd (upd f_now (2 + (4 * v1)).toNatClampNeg (f_now ((2 + (4 * v1)) + 1).toNatClampNeg)) ((2 + (4 * v1)) + 1).toNatClampNeg ((upd f_now (2 + (4 * v1)).toNatClampNeg (f_now ((2 + (4 * v1)) + 1).toNatClampNeg)) ((2 + (4 * v1)) + 2).toNatClampNeg)) ((2 + (4 * v1)) + 2).toNatClampNeg ((upd (upd f_now (2 + (4 * v1)).toNatClampNeg (f_now ((2 + (4 * v1)) + 1).toNatClampNeg)) ((2 + (4 * v1)) + 1).toNatClampNeg ((upd f_now (2 + (4 * v1)).toNatClampNeg (f_now ((2 + (4 * v1)) + 1).toNatClampNeg)) ((2 + (4 * v1)) + 2).toNatClampNeg)) ((2 + (4 * v1)) + 3).toNatClampNeg)) ((2 + (4 * v1)) + 3).toNatClampNeg (f_now (2 + (4 * v1)).toNatClampNeg))))))))))
def rmX10_exchange : Room := { frames := 0, cells := 0, slots := 0, locals := 0 }
theorem qX10_exchange_0 : (.fieldLink RX10 7 "KnotDiagramModel" "now" "[I" : Cond) ∈ wsX10_exchange := by decide +kernel
theorem qX10_exchange_X10 : ∀ w ∈ wsX100, w ∈ wsX10_exchange := by decide +kernel
set_option maxHeartbeats 4000000 in
set_option maxRecDepth 100000 in
theorem mX10_exchange (l : Launch) (D : va_G) (cyI cyZ : ClassId) (sz : Nat) (a_this a_now a_history a_kept a_isKept a_text a_read a_uses a_entry a_passed a_draft a_label a_met a_bracket a_matrix : Nat) (v1 : Int32) (i_saved : Int32) (i_length : Int32) (i_next : Int32) (f_now : Nat → Int32) (o_now : Nat → Int32) (hf : kX10_exchange v1 f_now = some o_now) : Met l yX10_exchange wsX10_exchange rmX10_exchange (kPre D cyI cyZ [.ref a_this, .int v1] [(a_this, .inr (7, [.ref a_now, .ref a_history, .int i_saved, .ref a_kept, .ref a_isKept, .ref a_text, .int i_length, .int i_next, .ref a_read, .ref a_uses, .ref a_entry, .ref a_passed, .ref a_draft, .ref a_label, .ref a_met, .ref a_bracket, .ref a_matrix])), (a_now, .inl (cyI, 34, .inl f_now))] sz) (kQv D cyI cyZ (va_A [(a_this, .inr (7, [.ref a_now, .ref a_history, .int i_saved, .ref a_kept, .ref a_isKept, .ref a_text, .int i_length, .int i_next, .ref a_read, .ref a_uses, .ref a_entry, .ref a_passed, .ref a_draft, .ref a_label, .ref a_met, .ref a_bracket, .ref a_matrix])), (a_now, .inl (cyI, 34, .inl f_now))] sz) [(a_this, .inr (7, [.ref a_now, .ref a_history, .int i_saved, .ref a_kept, .ref a_isKept, .ref a_text, .int i_length, .int i_next, .ref a_read, .ref a_uses, .ref a_entry, .ref a_passed, .ref a_draft, .ref a_label, .ref a_met, .ref a_bracket, .ref a_matrix])), (a_now, .inl (cyI, 34, .inl o_now))]) 0 0 (va_A [(a_this, .inr (7, [.ref a_now, .ref a_history, .int i_saved, .ref a_kept, .ref a_isKept, .ref a_text, .int i_length, .int i_next, .ref a_read, .ref a_uses, .ref a_entry, .ref a_passed, .ref a_draft, .ref a_label, .ref a_met, .ref a_bracket, .ref a_matrix])), (a_now, .inl (cyI, 34, .inl f_now))] sz) := by
  refine Met.ofW (cc := cX10_exchange) (maxL := 4) (ret := none) (by decide) rfl ?_
  intro p e s m args below meth c s₁ B hml hv
  obtain ⟨rfl, hsz, hP, hK, hD0, hN⟩ := hv
  have hx := B.exec
  have hb := B.bytes
  have hr := B.returns
  have hts := atoms_spec (ws := wsX10_exchange) B.pre
  have hown : s.vm.findClass RX10 = some m.cls := findClass_of_methodNamed B.named
  have hlocks := B.notSynchronized
  subst hsz
  have hD := hD0.self (sz := s.heap.size)
  generalize hAe : va_A [(a_this, .inr (7, [.ref a_now, .ref a_history, .int i_saved, .ref a_kept, .ref a_isKept, .ref a_text, .int i_length, .int i_next, .ref a_read, .ref a_uses, .ref a_entry, .ref a_passed, .ref a_draft, .ref a_label, .ref a_met, .ref a_bracket, .ref a_matrix])), (a_now, .inl (cyI, 34, .inl f_now))] s.heap.size = A at hD ⊢
  have hA : ∀ q : Nat, s.heap.size ≤ q → A q := fun q h => by rw [← hAe]; exact Or.inr h
  clear hAe hD0
  have hS : va_S A s.heap s.heap [] := va_S.rf
  have S : CallFix p m c cX10_exchange 4 s (([.ref a_this, .int v1] : List Value).toArray) wsX10_exchange RX10 := ⟨hx, hb, hml, hown, hts⟩
  have hl := lv_entry ([.ref a_this, .int v1]) (n := 4) (Nat.le_of_ble_eq_true rfl)
  rw [lg_entry_eq]
  generalize (lg_sl ([.ref a_this, .int v1]) ++ List.replicate (4 - (lg_sl ([.ref a_this, .int v1])).length) Slot.unset).toArray = ls at hl ⊢
  replace hl : lv_has ls 4 [(0, .ref a_this), (1, .int v1)] := hl
  generalize ([] : List Loc) = locs at hS ⊢
  delta kX10_exchange at hf
  obtain ⟨H, hH⟩ : ∃ H, H = s.heap := ⟨_, rfl⟩
  have hS : va_S A s.heap H locs := by rw [hH]; exact hS
  have hP : va_P D vwCl [(a_this, .inr (7, [.ref a_now, .ref a_history, .int i_saved, .ref a_kept, .ref a_isKept, .ref a_text, .int i_length, .int i_next, .ref a_read, .ref a_uses, .ref a_entry, .ref a_passed, .ref a_draft, .ref a_label, .ref a_met, .ref a_bracket, .ref a_matrix])), (a_now, .inl (cyI, 34, .inl f_now))] H := by rw [hH]; exact hP
  suffices hgo : W p l e (headSpec wsX10_exchange rmX10_exchange).room s m (([.ref a_this, .int v1] : List Value).toArray) below meth c H locs 0 0 (MQ below (kQv D cyI cyZ A [(a_this, .inr (7, [.ref a_now, .ref a_history, .int i_saved, .ref a_kept, .ref a_isKept, .ref a_text, .int i_length, .int i_next, .ref a_read, .ref a_uses, .ref a_entry, .ref a_passed, .ref a_draft, .ref a_label, .ref a_met, .ref a_bracket, .ref a_matrix])), (a_now, .inl (cyI, 34, .inl o_now))]) (([.ref a_this, .int v1] : List Value).toArray) s 0 0 A) (F0 m 0 ls []) by rw [hH] at hgo; exact hgo
  clear hH
  refine lv_iconst (v := 2) hx hb dX10_exchange_0 (by decide) ?_
  refine lv_iconst (v := 4) hx hb dX10_exchange_1 (by decide) ?_
  refine lv_iload_n hx hb dX10_exchange_2 rfl (lv_at hl 1 rfl) ?_
  refine lv_imul hx hb dX10_exchange_3 ?_
  refine lv_iadd hx hb dX10_exchange_4 ?_
  refine lv_istore_n (lv' := [(2, .int (2 + (4 * v1))), (0, .ref a_this), (1, .int v1)]) hx hb dX10_exchange_5 rfl hl (by decide) rfl (fun ls hl => ?_)
  refine lv_aload_n hx hb dX10_exchange_6 rfl (lv_at hl 1 rfl) ?_
  refine va_get (D := D) (ci := 7) (v := .ref a_now) (C := RX10) (T := TX10) (N := 17) hx hb hts qX10_exchange_X10 hown hK hP 0 rfl rfl 0 (Nat.le_of_ble_eq_true rfl) (hts (.fieldLink RX10 7 "KnotDiagramModel" "now" "[I") qX10_exchange_0) (fun _ h9 => h9) rfl dX10_exchange_7 ?_
  refine lv_iload_n hx hb dX10_exchange_10 rfl (lv_at hl 0 rfl) ?_
  obtain ⟨hi_1, hf⟩ := ck_s hf
  refine va_iald hx hb hK hP 1 0 rfl rfl hi_1 dX10_exchange_11 ?_
  refine lv_istore_n (lv' := [(3, .int (f_now (2 + (4 * v1)).toNatClampNeg)), (2, .int (2 + (4 * v1))), (0, .ref a_this), (1, .int v1)]) hx hb dX10_exchange_12 rfl hl (by decide) rfl (fun ls hl => ?_)
  refine lv_aload_n hx hb dX10_exchange_13 rfl (lv_at hl 2 rfl) ?_
  refine va_get (D := D) (ci := 7) (v := .ref a_now) (C := RX10) (T := TX10) (N := 17) hx hb hts qX10_exchange_X10 hown hK hP 0 rfl rfl 0 (Nat.le_of_ble_eq_true rfl) (hts (.fieldLink RX10 7 "KnotDiagramModel" "now" "[I") qX10_exchange_0) (fun _ h9 => h9) rfl dX10_exchange_14 ?_
  refine lv_iload_n hx hb dX10_exchange_17 rfl (lv_at hl 1 rfl) ?_
  refine lv_aload_n hx hb dX10_exchange_18 rfl (lv_at hl 2 rfl) ?_
  refine va_get (D := D) (ci := 7) (v := .ref a_now) (C := RX10) (T := TX10) (N := 17) hx hb hts qX10_exchange_X10 hown hK hP 0 rfl rfl 0 (Nat.le_of_ble_eq_true rfl) (hts (.fieldLink RX10 7 "KnotDiagramModel" "now" "[I") qX10_exchange_0) (fun _ h9 => h9) rfl dX10_exchange_19 ?_
  refine lv_iload_n hx hb dX10_exchange_22 rfl (lv_at hl 1 rfl) ?_
  refine lv_iconst (v := 1) hx hb dX10_exchange_23 (by decide) ?_
  refine lv_iadd hx hb dX10_exchange_24 ?_
  obtain ⟨hi_2, hf⟩ := ck_s hf
  refine va_iald hx hb hK hP 1 0 rfl rfl hi_2 dX10_exchange_25 ?_
  obtain ⟨hi_3, hf⟩ := ck_s hf
  refine va_iast hx hb hK hP hD hS 1 0 rfl rfl hi_3 dX10_exchange_26 (fun H locs hP hD hS => ?_)
  replace hP : va_P D vwCl [(a_this, .inr (7, [.ref a_now, .ref a_history, .int i_saved, .ref a_kept, .ref a_isKept, .ref a_text, .int i_length, .int i_next, .ref a_read, .ref a_uses, .ref a_entry, .ref a_passed, .ref a_draft, .ref a_label, .ref a_met, .ref a_bracket, .ref a_matrix])), (a_now, .inl (cyI, 34, .inl (upd f_now (2 + (4 * v1)).toNatClampNeg (f_now ((2 + (4 * v1)) + 1).toNatClampNeg))))] H := hP
  replace hD : va_D A [(a_this, .inr (7, [.ref a_now, .ref a_history, .int i_saved, .ref a_kept, .ref a_isKept, .ref a_text, .int i_length, .int i_next, .ref a_read, .ref a_uses, .ref a_entry, .ref a_passed, .ref a_draft, .ref a_label, .ref a_met, .ref a_bracket, .ref a_matrix])), (a_now, .inl (cyI, 34, .inl (upd f_now (2 + (4 * v1)).toNatClampNeg (f_now ((2 + (4 * v1)) + 1).toNatClampNeg))))] := hD
  refine lv_aload_n hx hb dX10_exchange_27 rfl (lv_at hl 2 rfl) ?_
  refine va_get (D := D) (ci := 7) (v := .ref a_now) (C := RX10) (T := TX10) (N := 17) hx hb hts qX10_exchange_X10 hown hK hP 0 rfl rfl 0 (Nat.le_of_ble_eq_true rfl) (hts (.fieldLink RX10 7 "KnotDiagramModel" "now" "[I") qX10_exchange_0) (fun _ h9 => h9) rfl dX10_exchange_28 ?_
  refine lv_iload_n hx hb dX10_exchange_31 rfl (lv_at hl 1 rfl) ?_
  refine lv_iconst (v := 1) hx hb dX10_exchange_32 (by decide) ?_
  refine lv_iadd hx hb dX10_exchange_33 ?_
  refine lv_aload_n hx hb dX10_exchange_34 rfl (lv_at hl 2 rfl) ?_
  refine va_get (D := D) (ci := 7) (v := .ref a_now) (C := RX10) (T := TX10) (N := 17) hx hb hts qX10_exchange_X10 hown hK hP 0 rfl rfl 0 (Nat.le_of_ble_eq_true rfl) (hts (.fieldLink RX10 7 "KnotDiagramModel" "now" "[I") qX10_exchange_0) (fun _ h9 => h9) rfl dX10_exchange_35 ?_
  refine lv_iload_n hx hb dX10_exchange_38 rfl (lv_at hl 1 rfl) ?_
  refine lv_iconst (v := 2) hx hb dX10_exchange_39 (by decide) ?_
  refine lv_iadd hx hb dX10_exchange_40 ?_
  obtain ⟨hi_4, hf⟩ := ck_s hf
  refine va_iald hx hb hK hP 1 0 rfl rfl hi_4 dX10_exchange_41 ?_
  obtain ⟨hi_5, hf⟩ := ck_s hf
  refine va_iast hx hb hK hP hD hS 1 0 rfl rfl hi_5 dX10_exchange_42 (fun H locs hP hD hS => ?_)
  replace hP : va_P D vwCl [(a_this, .inr (7, [.ref a_now, .ref a_history, .int i_saved, .ref a_kept, .ref a_isKept, .ref a_text, .int i_length, .int i_next, .ref a_read, .ref a_uses, .ref a_entry, .ref a_passed, .ref a_draft, .ref a_label, .ref a_met, .ref a_bracket, .ref a_matrix])), (a_now, .inl (cyI, 34, .inl (upd (upd f_now (2 + (4 * v1)).toNatClampNeg (f_now ((2 + (4 * v1)) + 1).toNatClampNeg)) ((2 + (4 * v1)) + 1).toNatClampNeg ((upd f_now (2 + (4 * v1)).toNatClampNeg (f_now ((2 + (4 * v1)) + 1).toNatClampNeg)) ((2 + (4 * v1)) + 2).toNatClampNeg))))] H := hP
  replace hD : va_D A [(a_this, .inr (7, [.ref a_now, .ref a_history, .int i_saved, .ref a_kept, .ref a_isKept, .ref a_text, .int i_length, .int i_next, .ref a_read, .ref a_uses, .ref a_entry, .ref a_passed, .ref a_draft, .ref a_label, .ref a_met, .ref a_bracket, .ref a_matrix])), (a_now, .inl (cyI, 34, .inl (upd (upd f_now (2 + (4 * v1)).toNatClampNeg (f_now ((2 + (4 * v1)) + 1).toNatClampNeg)) ((2 + (4 * v1)) + 1).toNatClampNeg ((upd f_now (2 + (4 * v1)).toNatClampNeg (f_now ((2 + (4 * v1)) + 1).toNatClampNeg)) ((2 + (4 * v1)) + 2).toNatClampNeg))))] := hD
  refine lv_aload_n hx hb dX10_exchange_43 rfl (lv_at hl 2 rfl) ?_
  refine va_get (D := D) (ci := 7) (v := .ref a_now) (C := RX10) (T := TX10) (N := 17) hx hb hts qX10_exchange_X10 hown hK hP 0 rfl rfl 0 (Nat.le_of_ble_eq_true rfl) (hts (.fieldLink RX10 7 "KnotDiagramModel" "now" "[I") qX10_exchange_0) (fun _ h9 => h9) rfl dX10_exchange_44 ?_
  refine lv_iload_n hx hb dX10_exchange_47 rfl (lv_at hl 1 rfl) ?_
  refine lv_iconst (v := 2) hx hb dX10_exchange_48 (by decide) ?_
  refine lv_iadd hx hb dX10_exchange_49 ?_
  refine lv_aload_n hx hb dX10_exchange_50 rfl (lv_at hl 2 rfl) ?_
  refine va_get (D := D) (ci := 7) (v := .ref a_now) (C := RX10) (T := TX10) (N := 17) hx hb hts qX10_exchange_X10 hown hK hP 0 rfl rfl 0 (Nat.le_of_ble_eq_true rfl) (hts (.fieldLink RX10 7 "KnotDiagramModel" "now" "[I") qX10_exchange_0) (fun _ h9 => h9) rfl dX10_exchange_51 ?_
  refine lv_iload_n hx hb dX10_exchange_54 rfl (lv_at hl 1 rfl) ?_
  refine lv_iconst (v := 3) hx hb dX10_exchange_55 (by decide) ?_
  refine lv_iadd hx hb dX10_exchange_56 ?_
  obtain ⟨hi_6, hf⟩ := ck_s hf
  refine va_iald hx hb hK hP 1 0 rfl rfl hi_6 dX10_exchange_57 ?_
  obtain ⟨hi_7, hf⟩ := ck_s hf
  refine va_iast hx hb hK hP hD hS 1 0 rfl rfl hi_7 dX10_exchange_58 (fun H locs hP hD hS => ?_)
  replace hP : va_P D vwCl [(a_this, .inr (7, [.ref a_now, .ref a_history, .int i_saved, .ref a_kept, .ref a_isKept, .ref a_text, .int i_length, .int i_next, .ref a_read, .ref a_uses, .ref a_entry, .ref a_passed, .ref a_draft, .ref a_label, .ref a_met, .ref a_bracket, .ref a_matrix])), (a_now, .inl (cyI, 34, .inl (upd (upd (upd f_now (2 + (4 * v1)).toNatClampNeg (f_now ((2 + (4 * v1)) + 1).toNatClampNeg)) ((2 + (4 * v1)) + 1).toNatClampNeg ((upd f_now (2 + (4 * v1)).toNatClampNeg (f_now ((2 + (4 * v1)) + 1).toNatClampNeg)) ((2 + (4 * v1)) + 2).toNatClampNeg)) ((2 + (4 * v1)) + 2).toNatClampNeg ((upd (upd f_now (2 + (4 * v1)).toNatClampNeg (f_now ((2 + (4 * v1)) + 1).toNatClampNeg)) ((2 + (4 * v1)) + 1).toNatClampNeg ((upd f_now (2 + (4 * v1)).toNatClampNeg (f_now ((2 + (4 * v1)) + 1).toNatClampNeg)) ((2 + (4 * v1)) + 2).toNatClampNeg)) ((2 + (4 * v1)) + 3).toNatClampNeg))))] H := hP
  replace hD : va_D A [(a_this, .inr (7, [.ref a_now, .ref a_history, .int i_saved, .ref a_kept, .ref a_isKept, .ref a_text, .int i_length, .int i_next, .ref a_read, .ref a_uses, .ref a_entry, .ref a_passed, .ref a_draft, .ref a_label, .ref a_met, .ref a_bracket, .ref a_matrix])), (a_now, .inl (cyI, 34, .inl (upd (upd (upd f_now (2 + (4 * v1)).toNatClampNeg (f_now ((2 + (4 * v1)) + 1).toNatClampNeg)) ((2 + (4 * v1)) + 1).toNatClampNeg ((upd f_now (2 + (4 * v1)).toNatClampNeg (f_now ((2 + (4 * v1)) + 1).toNatClampNeg)) ((2 + (4 * v1)) + 2).toNatClampNeg)) ((2 + (4 * v1)) + 2).toNatClampNeg ((upd (upd f_now (2 + (4 * v1)).toNatClampNeg (f_now ((2 + (4 * v1)) + 1).toNatClampNeg)) ((2 + (4 * v1)) + 1).toNatClampNeg ((upd f_now (2 + (4 * v1)).toNatClampNeg (f_now ((2 + (4 * v1)) + 1).toNatClampNeg)) ((2 + (4 * v1)) + 2).toNatClampNeg)) ((2 + (4 * v1)) + 3).toNatClampNeg))))] := hD
  refine lv_aload_n hx hb dX10_exchange_59 rfl (lv_at hl 2 rfl) ?_
  refine va_get (D := D) (ci := 7) (v := .ref a_now) (C := RX10) (T := TX10) (N := 17) hx hb hts qX10_exchange_X10 hown hK hP 0 rfl rfl 0 (Nat.le_of_ble_eq_true rfl) (hts (.fieldLink RX10 7 "KnotDiagramModel" "now" "[I") qX10_exchange_0) (fun _ h9 => h9) rfl dX10_exchange_60 ?_
  refine lv_iload_n hx hb dX10_exchange_63 rfl (lv_at hl 1 rfl) ?_
  refine lv_iconst (v := 3) hx hb dX10_exchange_64 (by decide) ?_
  refine lv_iadd hx hb dX10_exchange_65 ?_
  refine lv_iload_n hx hb dX10_exchange_66 rfl (lv_at hl 0 rfl) ?_
  obtain ⟨hi_8, hf⟩ := ck_s hf
  refine va_iast hx hb hK hP hD hS 1 0 rfl rfl hi_8 dX10_exchange_67 (fun H locs hP hD hS => ?_)
  replace hP : va_P D vwCl [(a_this, .inr (7, [.ref a_now, .ref a_history, .int i_saved, .ref a_kept, .ref a_isKept, .ref a_text, .int i_length, .int i_next, .ref a_read, .ref a_uses, .ref a_entry, .ref a_passed, .ref a_draft, .ref a_label, .ref a_met, .ref a_bracket, .ref a_matrix])), (a_now, .inl (cyI, 34, .inl (upd (upd (upd (upd f_now (2 + (4 * v1)).toNatClampNeg (f_now ((2 + (4 * v1)) + 1).toNatClampNeg)) ((2 + (4 * v1)) + 1).toNatClampNeg ((upd f_now (2 + (4 * v1)).toNatClampNeg (f_now ((2 + (4 * v1)) + 1).toNatClampNeg)) ((2 + (4 * v1)) + 2).toNatClampNeg)) ((2 + (4 * v1)) + 2).toNatClampNeg ((upd (upd f_now (2 + (4 * v1)).toNatClampNeg (f_now ((2 + (4 * v1)) + 1).toNatClampNeg)) ((2 + (4 * v1)) + 1).toNatClampNeg ((upd f_now (2 + (4 * v1)).toNatClampNeg (f_now ((2 + (4 * v1)) + 1).toNatClampNeg)) ((2 + (4 * v1)) + 2).toNatClampNeg)) ((2 + (4 * v1)) + 3).toNatClampNeg)) ((2 + (4 * v1)) + 3).toNatClampNeg (f_now (2 + (4 * v1)).toNatClampNeg))))] H := hP
  replace hD : va_D A [(a_this, .inr (7, [.ref a_now, .ref a_history, .int i_saved, .ref a_kept, .ref a_isKept, .ref a_text, .int i_length, .int i_next, .ref a_read, .ref a_uses, .ref a_entry, .ref a_passed, .ref a_draft, .ref a_label, .ref a_met, .ref a_bracket, .ref a_matrix])), (a_now, .inl (cyI, 34, .inl (upd (upd (upd (upd f_now (2 + (4 * v1)).toNatClampNeg (f_now ((2 + (4 * v1)) + 1).toNatClampNeg)) ((2 + (4 * v1)) + 1).toNatClampNeg ((upd f_now (2 + (4 * v1)).toNatClampNeg (f_now ((2 + (4 * v1)) + 1).toNatClampNeg)) ((2 + (4 * v1)) + 2).toNatClampNeg)) ((2 + (4 * v1)) + 2).toNatClampNeg ((upd (upd f_now (2 + (4 * v1)).toNatClampNeg (f_now ((2 + (4 * v1)) + 1).toNatClampNeg)) ((2 + (4 * v1)) + 1).toNatClampNeg ((upd f_now (2 + (4 * v1)).toNatClampNeg (f_now ((2 + (4 * v1)) + 1).toNatClampNeg)) ((2 + (4 * v1)) + 2).toNatClampNeg)) ((2 + (4 * v1)) + 3).toNatClampNeg)) ((2 + (4 * v1)) + 3).toNatClampNeg (f_now (2 + (4 * v1)).toNatClampNeg))))] := hD
  obtain rfl := some1_s hf
  exact kRv hx hb hr hlocks hP hK hD hS dX10_exchange_68
def kX10_switchCrossing (v1 : Int32) (i_saved : Int32) (f_now : Nat → Int32) (f_history : Nat → Int32) (f_entry : Nat → Int32) (f_passed : Nat → Int32) : Option (Int32 × Int32 × (Nat → Int32) × (Nat → Int32) × (Nat → Int32) × (Nat → Int32)) :=
  bnd1 (kX10_isCrossing v1 f_now) (fun r_1 => if r_1 = 0 then some ((-1000001), i_saved, f_now, f_history, f_entry, f_passed) else bnd2 (kX10_remember i_saved f_now f_history) (fun o_saved_2 o_history_2 => bnd1 (kX10_exchange v1 f_now) (fun o_now_3 => bnd2 (kX10_orient o_now_3 f_entry f_passed) (fun o_entry_4 o_passed_4 => bnd1 (kX10_sign v1 o_entry_4) (fun r_5 => some (r_5, o_saved_2, o_now_3, o_history_2, o_entry_4, o_passed_4))))))
def rmX10_switchCrossing : Room := { frames := 4, cells := 0, slots := 0, locals := 90 }
theorem qX10_switchCrossing_0 : (.constant RX10 68 (-1000001) : Cond) ∈ wsX10_switchCrossing := by decide +kernel
set_option maxHeartbeats 4000000 in
set_option maxRecDepth 100000 in
theorem mX10_switchCrossing (l : Launch) (D : va_G) (cyI cyZ : ClassId) (sz : Nat) (a_this a_now a_history a_kept a_isKept a_text a_read a_uses a_entry a_passed a_draft a_label a_met a_bracket a_matrix : Nat) (v1 : Int32) (i_saved : Int32) (i_length : Int32) (i_next : Int32) (f_now : Nat → Int32) (f_history : Nat → Int32) (f_entry : Nat → Int32) (f_passed : Nat → Int32) (r : Int32) (o_saved : Int32) (o_now : Nat → Int32) (o_history : Nat → Int32) (o_entry : Nat → Int32) (o_passed : Nat → Int32) (hf : kX10_switchCrossing v1 i_saved f_now f_history f_entry f_passed = some (r, o_saved, o_now, o_history, o_entry, o_passed)) : Met l yX10_switchCrossing wsX10_switchCrossing rmX10_switchCrossing (kPre D cyI cyZ [.ref a_this, .int v1] [(a_this, .inr (7, [.ref a_now, .ref a_history, .int i_saved, .ref a_kept, .ref a_isKept, .ref a_text, .int i_length, .int i_next, .ref a_read, .ref a_uses, .ref a_entry, .ref a_passed, .ref a_draft, .ref a_label, .ref a_met, .ref a_bracket, .ref a_matrix])), (a_now, .inl (cyI, 34, .inl f_now)), (a_history, .inl (cyI, 272, .inl f_history)), (a_entry, .inl (cyI, 16, .inl f_entry)), (a_passed, .inl (cyZ, 17, .inl f_passed))] sz) (kQi D cyI cyZ (va_A [(a_this, .inr (7, [.ref a_now, .ref a_history, .int i_saved, .ref a_kept, .ref a_isKept, .ref a_text, .int i_length, .int i_next, .ref a_read, .ref a_uses, .ref a_entry, .ref a_passed, .ref a_draft, .ref a_label, .ref a_met, .ref a_bracket, .ref a_matrix])), (a_now, .inl (cyI, 34, .inl f_now)), (a_history, .inl (cyI, 272, .inl f_history)), (a_entry, .inl (cyI, 16, .inl f_entry)), (a_passed, .inl (cyZ, 17, .inl f_passed))] sz) [(a_this, .inr (7, [.ref a_now, .ref a_history, .int o_saved, .ref a_kept, .ref a_isKept, .ref a_text, .int i_length, .int i_next, .ref a_read, .ref a_uses, .ref a_entry, .ref a_passed, .ref a_draft, .ref a_label, .ref a_met, .ref a_bracket, .ref a_matrix])), (a_now, .inl (cyI, 34, .inl o_now)), (a_history, .inl (cyI, 272, .inl o_history)), (a_entry, .inl (cyI, 16, .inl o_entry)), (a_passed, .inl (cyZ, 17, .inl o_passed))] r) 0 0 (va_A [(a_this, .inr (7, [.ref a_now, .ref a_history, .int i_saved, .ref a_kept, .ref a_isKept, .ref a_text, .int i_length, .int i_next, .ref a_read, .ref a_uses, .ref a_entry, .ref a_passed, .ref a_draft, .ref a_label, .ref a_met, .ref a_bracket, .ref a_matrix])), (a_now, .inl (cyI, 34, .inl f_now)), (a_history, .inl (cyI, 272, .inl f_history)), (a_entry, .inl (cyI, 16, .inl f_entry)), (a_passed, .inl (cyZ, 17, .inl f_passed))] sz) := by
  refine Met.ofW (cc := cX10_switchCrossing) (maxL := 2) (ret := (some .int)) (by decide) rfl ?_
  intro p e s m args below meth c s₁ B hml hv
  obtain ⟨rfl, hsz, hP, hK, hD0, hN⟩ := hv
  have hx := B.exec
  have hb := B.bytes
  have hr := B.returns
  have hts := atoms_spec (ws := wsX10_switchCrossing) B.pre
  have hown : s.vm.findClass RX10 = some m.cls := findClass_of_methodNamed B.named
  have hlocks := B.notSynchronized
  subst hsz
  have hD := hD0.self (sz := s.heap.size)
  generalize hAe : va_A [(a_this, .inr (7, [.ref a_now, .ref a_history, .int i_saved, .ref a_kept, .ref a_isKept, .ref a_text, .int i_length, .int i_next, .ref a_read, .ref a_uses, .ref a_entry, .ref a_passed, .ref a_draft, .ref a_label, .ref a_met, .ref a_bracket, .ref a_matrix])), (a_now, .inl (cyI, 34, .inl f_now)), (a_history, .inl (cyI, 272, .inl f_history)), (a_entry, .inl (cyI, 16, .inl f_entry)), (a_passed, .inl (cyZ, 17, .inl f_passed))] s.heap.size = A at hD ⊢
  have hA : ∀ q : Nat, s.heap.size ≤ q → A q := fun q h => by rw [← hAe]; exact Or.inr h
  clear hAe hD0
  have hS : va_S A s.heap s.heap [] := va_S.rf
  have S : CallFix p m c cX10_switchCrossing 2 s (([.ref a_this, .int v1] : List Value).toArray) wsX10_switchCrossing RX10 := ⟨hx, hb, hml, hown, hts⟩
  have hl := lv_entry ([.ref a_this, .int v1]) (n := 2) (Nat.le_of_ble_eq_true rfl)
  rw [lg_entry_eq]
  generalize (lg_sl ([.ref a_this, .int v1]) ++ List.replicate (2 - (lg_sl ([.ref a_this, .int v1])).length) Slot.unset).toArray = ls at hl ⊢
  replace hl : lv_has ls 2 [(0, .ref a_this), (1, .int v1)] := hl
  generalize ([] : List Loc) = locs at hS ⊢
  delta kX10_switchCrossing at hf
  obtain ⟨H, hH⟩ : ∃ H, H = s.heap := ⟨_, rfl⟩
  have hS : va_S A s.heap H locs := by rw [hH]; exact hS
  have hP : va_P D vwCl [(a_this, .inr (7, [.ref a_now, .ref a_history, .int i_saved, .ref a_kept, .ref a_isKept, .ref a_text, .int i_length, .int i_next, .ref a_read, .ref a_uses, .ref a_entry, .ref a_passed, .ref a_draft, .ref a_label, .ref a_met, .ref a_bracket, .ref a_matrix])), (a_now, .inl (cyI, 34, .inl f_now)), (a_history, .inl (cyI, 272, .inl f_history)), (a_entry, .inl (cyI, 16, .inl f_entry)), (a_passed, .inl (cyZ, 17, .inl f_passed))] H := by rw [hH]; exact hP
  suffices hgo : W p l e (headSpec wsX10_switchCrossing rmX10_switchCrossing).room s m (([.ref a_this, .int v1] : List Value).toArray) below meth c H locs 0 0 (MQ below (kQi D cyI cyZ A [(a_this, .inr (7, [.ref a_now, .ref a_history, .int o_saved, .ref a_kept, .ref a_isKept, .ref a_text, .int i_length, .int i_next, .ref a_read, .ref a_uses, .ref a_entry, .ref a_passed, .ref a_draft, .ref a_label, .ref a_met, .ref a_bracket, .ref a_matrix])), (a_now, .inl (cyI, 34, .inl o_now)), (a_history, .inl (cyI, 272, .inl o_history)), (a_entry, .inl (cyI, 16, .inl o_entry)), (a_passed, .inl (cyZ, 17, .inl o_passed))] r) (([.ref a_this, .int v1] : List Value).toArray) s 0 0 A) (F0 m 0 ls []) by rw [hH] at hgo; exact hgo
  clear hH
  refine lv_aload_n hx hb dX10_switchCrossing_0 rfl (lv_at hl 0 rfl) ?_
  refine lv_iload_n hx hb dX10_switchCrossing_1 rfl (lv_at hl 1 rfl) ?_
  obtain ⟨r_1, hc_1, hf⟩ := bnd1_s hf
  refine kcVi (As := [.int v1]) (rest := []) (w2 := [(a_this, .inr (7, [.ref a_now, .ref a_history, .int i_saved, .ref a_kept, .ref a_isKept, .ref a_text, .int i_length, .int i_next, .ref a_read, .ref a_uses, .ref a_entry, .ref a_passed, .ref a_draft, .ref a_label, .ref a_met, .ref a_bracket, .ref a_matrix])), (a_now, .inl (cyI, 34, .inl f_now)), (a_history, .inl (cyI, 272, .inl f_history)), (a_entry, .inl (cyI, 16, .inl f_entry)), (a_passed, .inl (cyZ, 17, .inl f_passed))]) S hK hP hD hS hA hN (mX10_isCrossing l D cyI cyZ H.size a_this a_now a_history a_kept a_isKept a_text a_read a_uses a_entry a_passed a_draft a_label a_met a_bracket a_matrix v1 i_saved i_length i_next f_now r_1 hc_1) (cwV 1 hts gX10_switchCrossing_X10_isCrossing rfl rfl rfl (by decide +kernel) ⟨Nat.le_of_ble_eq_true rfl, Nat.le_of_ble_eq_true rfl⟩) 7 0 rfl rfl [0, 1] [2, 3, 4] [3, 4, 0, 1, 2] rfl rfl rfl rfl (by decide) rfl rfl hl.1 (Nat.le_of_ble_eq_true rfl) dX10_switchCrossing_2 ⟨Nat.le_of_ble_eq_true rfl, Nat.le_of_ble_eq_true rfl⟩ (fun H locs hP hD hS => ?_)
  refine lv_if_ne (tgt := 11) hx hb dX10_switchCrossing_5 (by decide) (fun c_6 => ?_) (fun c_6 => ?_)
  · replace hf := kt_n hf c_6
    refine lv_aload_n hx hb dX10_switchCrossing_11 rfl (lv_at hl 0 rfl) ?_
    obtain ⟨o_saved_2, o_history_2, hc_2, hf⟩ := bnd2_s hf
    refine kcVv (As := []) (rest := []) (w2 := [(a_this, .inr (7, [.ref a_now, .ref a_history, .int o_saved_2, .ref a_kept, .ref a_isKept, .ref a_text, .int i_length, .int i_next, .ref a_read, .ref a_uses, .ref a_entry, .ref a_passed, .ref a_draft, .ref a_label, .ref a_met, .ref a_bracket, .ref a_matrix])), (a_now, .inl (cyI, 34, .inl f_now)), (a_history, .inl (cyI, 272, .inl o_history_2)), (a_entry, .inl (cyI, 16, .inl f_entry)), (a_passed, .inl (cyZ, 17, .inl f_passed))]) S hK hP hD hS hA hN (mX10_remember l D cyI cyZ H.size a_this a_now a_history a_kept a_isKept a_text a_read a_uses a_entry a_passed a_draft a_label a_met a_bracket a_matrix i_saved i_length i_next f_now f_history o_saved_2 o_history_2 hc_2) (cwV 0 hts gX10_switchCrossing_X10_remember rfl rfl rfl (by decide +kernel) ⟨Nat.le_of_ble_eq_true rfl, Nat.le_of_ble_eq_true rfl⟩) 7 0 rfl rfl [0, 1, 2] [3, 4] [2, 3, 4, 0, 1] rfl rfl rfl rfl (by decide) rfl rfl hl.1 (Nat.le_of_ble_eq_true rfl) dX10_switchCrossing_12 ⟨Nat.le_of_ble_eq_true rfl, Nat.le_of_ble_eq_true rfl⟩ (fun H locs hP hD hS => ?_)
    refine lv_aload_n hx hb dX10_switchCrossing_15 rfl (lv_at hl 0 rfl) ?_
    refine lv_iload_n hx hb dX10_switchCrossing_16 rfl (lv_at hl 1 rfl) ?_
    obtain ⟨o_now_3, hc_3, hf⟩ := bnd1_s hf
    refine kcVv (As := [.int v1]) (rest := []) (w2 := [(a_this, .inr (7, [.ref a_now, .ref a_history, .int o_saved_2, .ref a_kept, .ref a_isKept, .ref a_text, .int i_length, .int i_next, .ref a_read, .ref a_uses, .ref a_entry, .ref a_passed, .ref a_draft, .ref a_label, .ref a_met, .ref a_bracket, .ref a_matrix])), (a_now, .inl (cyI, 34, .inl o_now_3)), (a_history, .inl (cyI, 272, .inl o_history_2)), (a_entry, .inl (cyI, 16, .inl f_entry)), (a_passed, .inl (cyZ, 17, .inl f_passed))]) S hK hP hD hS hA hN (mX10_exchange l D cyI cyZ H.size a_this a_now a_history a_kept a_isKept a_text a_read a_uses a_entry a_passed a_draft a_label a_met a_bracket a_matrix v1 o_saved_2 i_length i_next f_now o_now_3 hc_3) (cwV 1 hts gX10_switchCrossing_X10_exchange rfl rfl rfl (by decide +kernel) ⟨Nat.le_of_ble_eq_true rfl, Nat.le_of_ble_eq_true rfl⟩) 7 0 rfl rfl [0, 1] [2, 3, 4] [3, 4, 0, 1, 2] rfl rfl rfl rfl (by decide) rfl rfl hl.1 (Nat.le_of_ble_eq_true rfl) dX10_switchCrossing_17 ⟨Nat.le_of_ble_eq_true rfl, Nat.le_of_ble_eq_true rfl⟩ (fun H locs hP hD hS => ?_)
    refine lv_aload_n hx hb dX10_switchCrossing_20 rfl (lv_at hl 0 rfl) ?_
    obtain ⟨o_entry_4, o_passed_4, hc_4, hf⟩ := bnd2_s hf
    refine kcVv (As := []) (rest := []) (w2 := [(a_this, .inr (7, [.ref a_now, .ref a_history, .int o_saved_2, .ref a_kept, .ref a_isKept, .ref a_text, .int i_length, .int i_next, .ref a_read, .ref a_uses, .ref a_entry, .ref a_passed, .ref a_draft, .ref a_label, .ref a_met, .ref a_bracket, .ref a_matrix])), (a_now, .inl (cyI, 34, .inl o_now_3)), (a_history, .inl (cyI, 272, .inl o_history_2)), (a_entry, .inl (cyI, 16, .inl o_entry_4)), (a_passed, .inl (cyZ, 17, .inl o_passed_4))]) S hK hP hD hS hA hN (mX10_orient l D cyI cyZ H.size a_this a_now a_history a_kept a_isKept a_text a_read a_uses a_entry a_passed a_draft a_label a_met a_bracket a_matrix o_saved_2 i_length i_next o_now_3 f_entry f_passed o_entry_4 o_passed_4 hc_4) (cwV 0 hts gX10_switchCrossing_X10_orient rfl rfl rfl (by decide +kernel) ⟨Nat.le_of_ble_eq_true rfl, Nat.le_of_ble_eq_true rfl⟩) 7 0 rfl rfl [0, 1, 3, 4] [2] [1, 2, 0, 3, 4] rfl rfl rfl rfl (by decide) rfl rfl hl.1 (Nat.le_of_ble_eq_true rfl) dX10_switchCrossing_21 ⟨Nat.le_of_ble_eq_true rfl, Nat.le_of_ble_eq_true rfl⟩ (fun H locs hP hD hS => ?_)
    refine lv_aload_n hx hb dX10_switchCrossing_24 rfl (lv_at hl 0 rfl) ?_
    refine lv_iload_n hx hb dX10_switchCrossing_25 rfl (lv_at hl 1 rfl) ?_
    obtain ⟨r_5, hc_5, hf⟩ := bnd1_s hf
    refine kcVi (As := [.int v1]) (rest := []) (w2 := [(a_this, .inr (7, [.ref a_now, .ref a_history, .int o_saved_2, .ref a_kept, .ref a_isKept, .ref a_text, .int i_length, .int i_next, .ref a_read, .ref a_uses, .ref a_entry, .ref a_passed, .ref a_draft, .ref a_label, .ref a_met, .ref a_bracket, .ref a_matrix])), (a_now, .inl (cyI, 34, .inl o_now_3)), (a_history, .inl (cyI, 272, .inl o_history_2)), (a_entry, .inl (cyI, 16, .inl o_entry_4)), (a_passed, .inl (cyZ, 17, .inl o_passed_4))]) S hK hP hD hS hA hN (mX10_sign l D cyI cyZ H.size a_this a_now a_history a_kept a_isKept a_text a_read a_uses a_entry a_passed a_draft a_label a_met a_bracket a_matrix v1 o_saved_2 i_length i_next o_entry_4 r_5 hc_5) (cwV 1 hts gX10_switchCrossing_X10_sign rfl rfl rfl (by decide +kernel) ⟨Nat.le_of_ble_eq_true rfl, Nat.le_of_ble_eq_true rfl⟩) 7 0 rfl rfl [0, 3] [1, 2, 4] [3, 0, 1, 4, 2] rfl rfl rfl rfl (by decide) rfl rfl hl.1 (Nat.le_of_ble_eq_true rfl) dX10_switchCrossing_26 ⟨Nat.le_of_ble_eq_true rfl, Nat.le_of_ble_eq_true rfl⟩ (fun H locs hP hD hS => ?_)
    obtain ⟨rfl, rfl, rfl, rfl, rfl, rfl⟩ := some6_s hf
    exact kRi hx hb hr hlocks hP hK hD hS rfl dX10_switchCrossing_29
  · replace hf := kt_p hf c_6
    refine lv_ldc (v := (-1000001)) hx hb hown (hts (.constant RX10 68 (-1000001)) qX10_switchCrossing_0) dX10_switchCrossing_8 ?_
    obtain ⟨rfl, rfl, rfl, rfl, rfl, rfl⟩ := some6_s hf
    exact kRi hx hb hr hlocks hP hK hD hS rfl dX10_switchCrossing_10
def kX10_mirror_L1 (f_entry : Nat → Int32) (f_passed : Nat → Int32) (o_saved_2 : Int32) (o_history_2 : Nat → Int32) (K_1 : Int32 → (Nat → Int32) → Option (Int32 × Int32 × (Nat → Int32) × (Nat → Int32) × (Nat → Int32) × (Nat → Int32))) (v1_1 : Int32) (f_now_1 : Nat → Int32) : Option (Int32 × Int32 × (Nat → Int32) × (Nat → Int32) × (Nat → Int32) × (Nat → Int32)) :=
  bnd1 (kX10_crossings f_now_1) (fun r_3 => if r_3 ≤ v1_1 then bnd3 (kX10_writheNow f_now_1 f_entry f_passed) (fun r_4 o_entry_4 o_passed_4 => some (r_4, o_saved_2, f_now_1, o_history_2, o_entry_4, o_passed_4)) else bnd1 (kX10_exchange v1_1 f_now_1) (fun o_now_5 => K_1 (v1_1 + 1) o_now_5))
def kX10_mirror (i_saved : Int32) (f_now : Nat → Int32) (f_history : Nat → Int32) (f_entry : Nat → Int32) (f_passed : Nat → Int32) : Option (Int32 × Int32 × (Nat → Int32) × (Nat → Int32) × (Nat → Int32) × (Nat → Int32)) :=
  bnd1 (kX10_crossings f_now) (fun r_1 => if r_1 = 0 then some ((-1000002), i_saved, f_now, f_history, f_entry, f_passed) else bnd2 (kX10_remember i_saved f_now f_history) (fun o_saved_2 o_history_2 => it2 (kX10_mirror_L1 f_entry f_passed o_saved_2 o_history_2) 400 0 f_now))
def rmX10_mirror : Room := { frames := 5, cells := 0, slots := 0, locals := 112 }
theorem qX10_mirror_0 : (.constant RX10 133 (-1000002) : Cond) ∈ wsX10_mirror := by decide +kernel
set_option maxHeartbeats 4000000 in
set_option maxRecDepth 100000 in
theorem mX10_mirror (l : Launch) (D : va_G) (cyI cyZ : ClassId) (sz : Nat) (a_this a_now a_history a_kept a_isKept a_text a_read a_uses a_entry a_passed a_draft a_label a_met a_bracket a_matrix : Nat) (i_saved : Int32) (i_length : Int32) (i_next : Int32) (f_now : Nat → Int32) (f_history : Nat → Int32) (f_entry : Nat → Int32) (f_passed : Nat → Int32) (r : Int32) (o_saved : Int32) (o_now : Nat → Int32) (o_history : Nat → Int32) (o_entry : Nat → Int32) (o_passed : Nat → Int32) (hf : kX10_mirror i_saved f_now f_history f_entry f_passed = some (r, o_saved, o_now, o_history, o_entry, o_passed)) : Met l yX10_mirror wsX10_mirror rmX10_mirror (kPre D cyI cyZ [.ref a_this] [(a_this, .inr (7, [.ref a_now, .ref a_history, .int i_saved, .ref a_kept, .ref a_isKept, .ref a_text, .int i_length, .int i_next, .ref a_read, .ref a_uses, .ref a_entry, .ref a_passed, .ref a_draft, .ref a_label, .ref a_met, .ref a_bracket, .ref a_matrix])), (a_now, .inl (cyI, 34, .inl f_now)), (a_history, .inl (cyI, 272, .inl f_history)), (a_entry, .inl (cyI, 16, .inl f_entry)), (a_passed, .inl (cyZ, 17, .inl f_passed))] sz) (kQi D cyI cyZ (va_A [(a_this, .inr (7, [.ref a_now, .ref a_history, .int i_saved, .ref a_kept, .ref a_isKept, .ref a_text, .int i_length, .int i_next, .ref a_read, .ref a_uses, .ref a_entry, .ref a_passed, .ref a_draft, .ref a_label, .ref a_met, .ref a_bracket, .ref a_matrix])), (a_now, .inl (cyI, 34, .inl f_now)), (a_history, .inl (cyI, 272, .inl f_history)), (a_entry, .inl (cyI, 16, .inl f_entry)), (a_passed, .inl (cyZ, 17, .inl f_passed))] sz) [(a_this, .inr (7, [.ref a_now, .ref a_history, .int o_saved, .ref a_kept, .ref a_isKept, .ref a_text, .int i_length, .int i_next, .ref a_read, .ref a_uses, .ref a_entry, .ref a_passed, .ref a_draft, .ref a_label, .ref a_met, .ref a_bracket, .ref a_matrix])), (a_now, .inl (cyI, 34, .inl o_now)), (a_history, .inl (cyI, 272, .inl o_history)), (a_entry, .inl (cyI, 16, .inl o_entry)), (a_passed, .inl (cyZ, 17, .inl o_passed))] r) 0 0 (va_A [(a_this, .inr (7, [.ref a_now, .ref a_history, .int i_saved, .ref a_kept, .ref a_isKept, .ref a_text, .int i_length, .int i_next, .ref a_read, .ref a_uses, .ref a_entry, .ref a_passed, .ref a_draft, .ref a_label, .ref a_met, .ref a_bracket, .ref a_matrix])), (a_now, .inl (cyI, 34, .inl f_now)), (a_history, .inl (cyI, 272, .inl f_history)), (a_entry, .inl (cyI, 16, .inl f_entry)), (a_passed, .inl (cyZ, 17, .inl f_passed))] sz) := by
  refine Met.ofW (cc := cX10_mirror) (maxL := 2) (ret := (some .int)) (by decide) rfl ?_
  intro p e s m args below meth c s₁ B hml hv
  obtain ⟨rfl, hsz, hP, hK, hD0, hN⟩ := hv
  have hx := B.exec
  have hb := B.bytes
  have hr := B.returns
  have hts := atoms_spec (ws := wsX10_mirror) B.pre
  have hown : s.vm.findClass RX10 = some m.cls := findClass_of_methodNamed B.named
  have hlocks := B.notSynchronized
  subst hsz
  have hD := hD0.self (sz := s.heap.size)
  generalize hAe : va_A [(a_this, .inr (7, [.ref a_now, .ref a_history, .int i_saved, .ref a_kept, .ref a_isKept, .ref a_text, .int i_length, .int i_next, .ref a_read, .ref a_uses, .ref a_entry, .ref a_passed, .ref a_draft, .ref a_label, .ref a_met, .ref a_bracket, .ref a_matrix])), (a_now, .inl (cyI, 34, .inl f_now)), (a_history, .inl (cyI, 272, .inl f_history)), (a_entry, .inl (cyI, 16, .inl f_entry)), (a_passed, .inl (cyZ, 17, .inl f_passed))] s.heap.size = A at hD ⊢
  have hA : ∀ q : Nat, s.heap.size ≤ q → A q := fun q h => by rw [← hAe]; exact Or.inr h
  clear hAe hD0
  have hS : va_S A s.heap s.heap [] := va_S.rf
  have S : CallFix p m c cX10_mirror 2 s (([.ref a_this] : List Value).toArray) wsX10_mirror RX10 := ⟨hx, hb, hml, hown, hts⟩
  have hl := lv_entry ([.ref a_this]) (n := 2) (Nat.le_of_ble_eq_true rfl)
  rw [lg_entry_eq]
  generalize (lg_sl ([.ref a_this]) ++ List.replicate (2 - (lg_sl ([.ref a_this])).length) Slot.unset).toArray = ls at hl ⊢
  replace hl : lv_has ls 2 [(0, .ref a_this)] := hl
  generalize ([] : List Loc) = locs at hS ⊢
  delta kX10_mirror at hf
  obtain ⟨H, hH⟩ : ∃ H, H = s.heap := ⟨_, rfl⟩
  have hS : va_S A s.heap H locs := by rw [hH]; exact hS
  have hP : va_P D vwCl [(a_this, .inr (7, [.ref a_now, .ref a_history, .int i_saved, .ref a_kept, .ref a_isKept, .ref a_text, .int i_length, .int i_next, .ref a_read, .ref a_uses, .ref a_entry, .ref a_passed, .ref a_draft, .ref a_label, .ref a_met, .ref a_bracket, .ref a_matrix])), (a_now, .inl (cyI, 34, .inl f_now)), (a_history, .inl (cyI, 272, .inl f_history)), (a_entry, .inl (cyI, 16, .inl f_entry)), (a_passed, .inl (cyZ, 17, .inl f_passed))] H := by rw [hH]; exact hP
  suffices hgo : W p l e (headSpec wsX10_mirror rmX10_mirror).room s m (([.ref a_this] : List Value).toArray) below meth c H locs 0 0 (MQ below (kQi D cyI cyZ A [(a_this, .inr (7, [.ref a_now, .ref a_history, .int o_saved, .ref a_kept, .ref a_isKept, .ref a_text, .int i_length, .int i_next, .ref a_read, .ref a_uses, .ref a_entry, .ref a_passed, .ref a_draft, .ref a_label, .ref a_met, .ref a_bracket, .ref a_matrix])), (a_now, .inl (cyI, 34, .inl o_now)), (a_history, .inl (cyI, 272, .inl o_history)), (a_entry, .inl (cyI, 16, .inl o_entry)), (a_passed, .inl (cyZ, 17, .inl o_passed))] r) (([.ref a_this] : List Value).toArray) s 0 0 A) (F0 m 0 ls []) by rw [hH] at hgo; exact hgo
  clear hH
  refine lv_aload_n hx hb dX10_mirror_0 rfl (lv_at hl 0 rfl) ?_
  obtain ⟨r_1, hc_1, hf⟩ := bnd1_s hf
  refine kcVi (As := []) (rest := []) (w2 := [(a_this, .inr (7, [.ref a_now, .ref a_history, .int i_saved, .ref a_kept, .ref a_isKept, .ref a_text, .int i_length, .int i_next, .ref a_read, .ref a_uses, .ref a_entry, .ref a_passed, .ref a_draft, .ref a_label, .ref a_met, .ref a_bracket, .ref a_matrix])), (a_now, .inl (cyI, 34, .inl f_now)), (a_history, .inl (cyI, 272, .inl f_history)), (a_entry, .inl (cyI, 16, .inl f_entry)), (a_passed, .inl (cyZ, 17, .inl f_passed))]) S hK hP hD hS hA hN (mX10_crossings l D cyI cyZ H.size a_this a_now a_history a_kept a_isKept a_text a_read a_uses a_entry a_passed a_draft a_label a_met a_bracket a_matrix i_saved i_length i_next f_now r_1 hc_1) (cwV 0 hts gX10_mirror_X10_crossings rfl rfl rfl (by decide +kernel) ⟨Nat.le_of_ble_eq_true rfl, Nat.le_of_ble_eq_true rfl⟩) 7 0 rfl rfl [0, 1] [2, 3, 4] [3, 4, 0, 1, 2] rfl rfl rfl rfl (by decide) rfl rfl hl.1 (Nat.le_of_ble_eq_true rfl) dX10_mirror_1 ⟨Nat.le_of_ble_eq_true rfl, Nat.le_of_ble_eq_true rfl⟩ (fun H locs hP hD hS => ?_)
  refine lv_if_ne (tgt := 10) hx hb dX10_mirror_4 (by decide) (fun c_7 => ?_) (fun c_7 => ?_)
  · replace hf := kt_n hf c_7
    refine lv_aload_n hx hb dX10_mirror_10 rfl (lv_at hl 0 rfl) ?_
    obtain ⟨o_saved_2, o_history_2, hc_2, hf⟩ := bnd2_s hf
    refine kcVv (As := []) (rest := []) (w2 := [(a_this, .inr (7, [.ref a_now, .ref a_history, .int o_saved_2, .ref a_kept, .ref a_isKept, .ref a_text, .int i_length, .int i_next, .ref a_read, .ref a_uses, .ref a_entry, .ref a_passed, .ref a_draft, .ref a_label, .ref a_met, .ref a_bracket, .ref a_matrix])), (a_now, .inl (cyI, 34, .inl f_now)), (a_history, .inl (cyI, 272, .inl o_history_2)), (a_entry, .inl (cyI, 16, .inl f_entry)), (a_passed, .inl (cyZ, 17, .inl f_passed))]) S hK hP hD hS hA hN (mX10_remember l D cyI cyZ H.size a_this a_now a_history a_kept a_isKept a_text a_read a_uses a_entry a_passed a_draft a_label a_met a_bracket a_matrix i_saved i_length i_next f_now f_history o_saved_2 o_history_2 hc_2) (cwV 0 hts gX10_mirror_X10_remember rfl rfl rfl (by decide +kernel) ⟨Nat.le_of_ble_eq_true rfl, Nat.le_of_ble_eq_true rfl⟩) 7 0 rfl rfl [0, 1, 2] [3, 4] [2, 3, 4, 0, 1] rfl rfl rfl rfl (by decide) rfl rfl hl.1 (Nat.le_of_ble_eq_true rfl) dX10_mirror_11 ⟨Nat.le_of_ble_eq_true rfl, Nat.le_of_ble_eq_true rfl⟩ (fun H locs hP hD hS => ?_)
    refine lv_iconst (v := 0) hx hb dX10_mirror_14 (by decide) ?_
    refine lv_istore_n (lv' := [(1, .int 0), (0, .ref a_this)]) hx hb dX10_mirror_15 rfl hl (by decide) rfl (fun ls hl => ?_)
    have hL_1 : ∀ (n : Nat) (v1_1 : Int32) (f_now_1 : Nat → Int32) (H : Heap) (locs : List Loc) (ls : Array Slot), it2 (kX10_mirror_L1 f_entry f_passed o_saved_2 o_history_2) n v1_1 f_now_1 = some (r, o_saved, o_now, o_history, o_entry, o_passed) → va_P D vwCl [(a_this, .inr (7, [.ref a_now, .ref a_history, .int o_saved_2, .ref a_kept, .ref a_isKept, .ref a_text, .int i_length, .int i_next, .ref a_read, .ref a_uses, .ref a_entry, .ref a_passed, .ref a_draft, .ref a_label, .ref a_met, .ref a_bracket, .ref a_matrix])), (a_now, .inl (cyI, 34, .inl f_now_1)), (a_history, .inl (cyI, 272, .inl o_history_2)), (a_entry, .inl (cyI, 16, .inl f_entry)), (a_passed, .inl (cyZ, 17, .inl f_passed))] H → va_D A [(a_this, .inr (7, [.ref a_now, .ref a_history, .int o_saved_2, .ref a_kept, .ref a_isKept, .ref a_text, .int i_length, .int i_next, .ref a_read, .ref a_uses, .ref a_entry, .ref a_passed, .ref a_draft, .ref a_label, .ref a_met, .ref a_bracket, .ref a_matrix])), (a_now, .inl (cyI, 34, .inl f_now_1)), (a_history, .inl (cyI, 272, .inl o_history_2)), (a_entry, .inl (cyI, 16, .inl f_entry)), (a_passed, .inl (cyZ, 17, .inl f_passed))] → va_S A s.heap H locs → lv_has ls 2 [(0, .ref a_this), (1, .int v1_1)] → W p l e (headSpec wsX10_mirror rmX10_mirror).room s m (([.ref a_this] : List Value).toArray) below meth c H locs 0 0 (MQ below (kQi D cyI cyZ A [(a_this, .inr (7, [.ref a_now, .ref a_history, .int o_saved, .ref a_kept, .ref a_isKept, .ref a_text, .int i_length, .int i_next, .ref a_read, .ref a_uses, .ref a_entry, .ref a_passed, .ref a_draft, .ref a_label, .ref a_met, .ref a_bracket, .ref a_matrix])), (a_now, .inl (cyI, 34, .inl o_now)), (a_history, .inl (cyI, 272, .inl o_history)), (a_entry, .inl (cyI, 16, .inl o_entry)), (a_passed, .inl (cyZ, 17, .inl o_passed))] r) (([.ref a_this] : List Value).toArray) s 0 0 A) (F0 m 16 ls []) := by
      intro n_1
      induction n_1 with
      | zero =>
        intro _ _ _ _ _ hf
        exact (it2_z hf).elim
      | succ n_1 ih_1 =>
        intro v1_1 f_now_1 H locs ls hf hP hD hS hl
        replace hf := it2_s hf
        rw [kX10_mirror_L1] at hf
        refine lv_iload_n hx hb dX10_mirror_16 rfl (lv_at hl 1 rfl) ?_
        refine lv_aload_n hx hb dX10_mirror_17 rfl (lv_at hl 0 rfl) ?_
        obtain ⟨r_3, hc_3, hf⟩ := bnd1_s hf
        refine kcVi (As := []) (rest := [.int v1_1]) (w2 := [(a_this, .inr (7, [.ref a_now, .ref a_history, .int o_saved_2, .ref a_kept, .ref a_isKept, .ref a_text, .int i_length, .int i_next, .ref a_read, .ref a_uses, .ref a_entry, .ref a_passed, .ref a_draft, .ref a_label, .ref a_met, .ref a_bracket, .ref a_matrix])), (a_now, .inl (cyI, 34, .inl f_now_1)), (a_history, .inl (cyI, 272, .inl o_history_2)), (a_entry, .inl (cyI, 16, .inl f_entry)), (a_passed, .inl (cyZ, 17, .inl f_passed))]) S hK hP hD hS hA hN (mX10_crossings l D cyI cyZ H.size a_this a_now a_history a_kept a_isKept a_text a_read a_uses a_entry a_passed a_draft a_label a_met a_bracket a_matrix o_saved_2 i_length i_next f_now_1 r_3 hc_3) (cwV 0 hts gX10_mirror_X10_crossings rfl rfl rfl (by decide +kernel) ⟨Nat.le_of_ble_eq_true rfl, Nat.le_of_ble_eq_true rfl⟩) 7 0 rfl rfl [0, 1] [2, 3, 4] [3, 4, 0, 1, 2] rfl rfl rfl rfl (by decide) rfl rfl hl.1 (Nat.le_of_ble_eq_true rfl) dX10_mirror_18 ⟨Nat.le_of_ble_eq_true rfl, Nat.le_of_ble_eq_true rfl⟩ (fun H locs hP hD hS => ?_)
        refine lv_icmp_ge (tgt := 35) hx hb dX10_mirror_21 (by decide) (fun c_6 => ?_) (fun c_6 => ?_)
        · replace hf := kt_p hf c_6
          refine lv_aload_n hx hb dX10_mirror_35 rfl (lv_at hl 0 rfl) ?_
          obtain ⟨r_4, o_entry_4, o_passed_4, hc_4, hf⟩ := bnd3_s hf
          refine kcVi (As := []) (rest := []) (w2 := [(a_this, .inr (7, [.ref a_now, .ref a_history, .int o_saved_2, .ref a_kept, .ref a_isKept, .ref a_text, .int i_length, .int i_next, .ref a_read, .ref a_uses, .ref a_entry, .ref a_passed, .ref a_draft, .ref a_label, .ref a_met, .ref a_bracket, .ref a_matrix])), (a_now, .inl (cyI, 34, .inl f_now_1)), (a_history, .inl (cyI, 272, .inl o_history_2)), (a_entry, .inl (cyI, 16, .inl o_entry_4)), (a_passed, .inl (cyZ, 17, .inl o_passed_4))]) S hK hP hD hS hA hN (mX10_writheNow l D cyI cyZ H.size a_this a_now a_history a_kept a_isKept a_text a_read a_uses a_entry a_passed a_draft a_label a_met a_bracket a_matrix o_saved_2 i_length i_next f_now_1 f_entry f_passed r_4 o_entry_4 o_passed_4 hc_4) (cwV 0 hts gX10_mirror_X10_writheNow rfl rfl rfl (by decide +kernel) ⟨Nat.le_of_ble_eq_true rfl, Nat.le_of_ble_eq_true rfl⟩) 7 0 rfl rfl [0, 1, 3, 4] [2] [1, 2, 0, 3, 4] rfl rfl rfl rfl (by decide) rfl rfl hl.1 (Nat.le_of_ble_eq_true rfl) dX10_mirror_36 ⟨Nat.le_of_ble_eq_true rfl, Nat.le_of_ble_eq_true rfl⟩ (fun H locs hP hD hS => ?_)
          obtain ⟨rfl, rfl, rfl, rfl, rfl, rfl⟩ := some6_s hf
          exact kRi hx hb hr hlocks hP hK hD hS rfl dX10_mirror_39
        · replace hf := kt_n hf c_6
          refine lv_aload_n hx hb dX10_mirror_24 rfl (lv_at hl 0 rfl) ?_
          refine lv_iload_n hx hb dX10_mirror_25 rfl (lv_at hl 1 rfl) ?_
          obtain ⟨o_now_5, hc_5, hf⟩ := bnd1_s hf
          refine kcVv (As := [.int v1_1]) (rest := []) (w2 := [(a_this, .inr (7, [.ref a_now, .ref a_history, .int o_saved_2, .ref a_kept, .ref a_isKept, .ref a_text, .int i_length, .int i_next, .ref a_read, .ref a_uses, .ref a_entry, .ref a_passed, .ref a_draft, .ref a_label, .ref a_met, .ref a_bracket, .ref a_matrix])), (a_now, .inl (cyI, 34, .inl o_now_5)), (a_history, .inl (cyI, 272, .inl o_history_2)), (a_entry, .inl (cyI, 16, .inl f_entry)), (a_passed, .inl (cyZ, 17, .inl f_passed))]) S hK hP hD hS hA hN (mX10_exchange l D cyI cyZ H.size a_this a_now a_history a_kept a_isKept a_text a_read a_uses a_entry a_passed a_draft a_label a_met a_bracket a_matrix v1_1 o_saved_2 i_length i_next f_now_1 o_now_5 hc_5) (cwV 1 hts gX10_mirror_X10_exchange rfl rfl rfl (by decide +kernel) ⟨Nat.le_of_ble_eq_true rfl, Nat.le_of_ble_eq_true rfl⟩) 7 0 rfl rfl [0, 1] [2, 3, 4] [3, 4, 0, 1, 2] rfl rfl rfl rfl (by decide) rfl rfl hl.1 (Nat.le_of_ble_eq_true rfl) dX10_mirror_26 ⟨Nat.le_of_ble_eq_true rfl, Nat.le_of_ble_eq_true rfl⟩ (fun H locs hP hD hS => ?_)
          refine lv_iinc (v := (v1_1 + 1)) (lv' := [(1, .int (v1_1 + 1)), (0, .ref a_this)]) hx hb dX10_mirror_29 hl (k := 1) rfl rfl (by decide) rfl (fun ls hl => ?_)
          refine lv_goto (tgt := 16) hx hb dX10_mirror_32 (by decide) ?_
          exact ih_1 (v1_1 + 1) o_now_5 H locs ls hf hP hD hS (lv_sub hl [1, 0] rfl)
    exact hL_1 400 0 f_now H locs ls hf hP hD hS (lv_sub hl [1, 0] rfl)
  · replace hf := kt_p hf c_7
    refine lv_ldc (v := (-1000002)) hx hb hown (hts (.constant RX10 133 (-1000002)) qX10_mirror_0) dX10_mirror_7 ?_
    obtain ⟨rfl, rfl, rfl, rfl, rfl, rfl⟩ := some6_s hf
    exact kRi hx hb hr hlocks hP hK hD hS rfl dX10_mirror_9
def kX10_kinkEnd_L1 (v1 : Int32) (f_now : Nat → Int32) (K_1 : Int32 → Int32 → Option (Int32)) (v2_1 : Int32) (v3_1 : Int32) : Option (Int32) :=
  if v3_1 < 0 then some v2_1 else bnd1 (kX10_arc ((4 * v1) + v3_1) f_now) (fun r_1 => bnd1 (kX10_turn ((4 * v1) + v3_1) 1) (fun r_2 => bnd1 (kX10_arc r_2 f_now) (fun r_3 => if r_1 = r_3 then K_1 ((4 * v1) + v3_1) (v3_1 + (-1)) else K_1 v2_1 (v3_1 + (-1)))))
def kX10_kinkEnd (v1 : Int32) (f_now : Nat → Int32) : Option (Int32) :=
  it2 (kX10_kinkEnd_L1 v1 f_now) 400 (-1) 3
def rmX10_kinkEnd : Room := { frames := 1, cells := 0, slots := 0, locals := 21 }
set_option maxHeartbeats 4000000 in
set_option maxRecDepth 100000 in
theorem mX10_kinkEnd (l : Launch) (D : va_G) (cyI cyZ : ClassId) (sz : Nat) (a_this a_now a_history a_kept a_isKept a_text a_read a_uses a_entry a_passed a_draft a_label a_met a_bracket a_matrix : Nat) (v1 : Int32) (i_saved : Int32) (i_length : Int32) (i_next : Int32) (f_now : Nat → Int32) (r : Int32) (hf : kX10_kinkEnd v1 f_now = some r) : Met l yX10_kinkEnd wsX10_kinkEnd rmX10_kinkEnd (kPre D cyI cyZ [.ref a_this, .int v1] [(a_this, .inr (7, [.ref a_now, .ref a_history, .int i_saved, .ref a_kept, .ref a_isKept, .ref a_text, .int i_length, .int i_next, .ref a_read, .ref a_uses, .ref a_entry, .ref a_passed, .ref a_draft, .ref a_label, .ref a_met, .ref a_bracket, .ref a_matrix])), (a_now, .inl (cyI, 34, .inl f_now))] sz) (kQi D cyI cyZ (va_A [(a_this, .inr (7, [.ref a_now, .ref a_history, .int i_saved, .ref a_kept, .ref a_isKept, .ref a_text, .int i_length, .int i_next, .ref a_read, .ref a_uses, .ref a_entry, .ref a_passed, .ref a_draft, .ref a_label, .ref a_met, .ref a_bracket, .ref a_matrix])), (a_now, .inl (cyI, 34, .inl f_now))] sz) [(a_this, .inr (7, [.ref a_now, .ref a_history, .int i_saved, .ref a_kept, .ref a_isKept, .ref a_text, .int i_length, .int i_next, .ref a_read, .ref a_uses, .ref a_entry, .ref a_passed, .ref a_draft, .ref a_label, .ref a_met, .ref a_bracket, .ref a_matrix])), (a_now, .inl (cyI, 34, .inl f_now))] r) 0 0 (va_A [(a_this, .inr (7, [.ref a_now, .ref a_history, .int i_saved, .ref a_kept, .ref a_isKept, .ref a_text, .int i_length, .int i_next, .ref a_read, .ref a_uses, .ref a_entry, .ref a_passed, .ref a_draft, .ref a_label, .ref a_met, .ref a_bracket, .ref a_matrix])), (a_now, .inl (cyI, 34, .inl f_now))] sz) := by
  refine Met.ofW (cc := cX10_kinkEnd) (maxL := 5) (ret := (some .int)) (by decide) rfl ?_
  intro p e s m args below meth c s₁ B hml hv
  obtain ⟨rfl, hsz, hP, hK, hD0, hN⟩ := hv
  have hx := B.exec
  have hb := B.bytes
  have hr := B.returns
  have hts := atoms_spec (ws := wsX10_kinkEnd) B.pre
  have hown : s.vm.findClass RX10 = some m.cls := findClass_of_methodNamed B.named
  have hlocks := B.notSynchronized
  subst hsz
  have hD := hD0.self (sz := s.heap.size)
  generalize hAe : va_A [(a_this, .inr (7, [.ref a_now, .ref a_history, .int i_saved, .ref a_kept, .ref a_isKept, .ref a_text, .int i_length, .int i_next, .ref a_read, .ref a_uses, .ref a_entry, .ref a_passed, .ref a_draft, .ref a_label, .ref a_met, .ref a_bracket, .ref a_matrix])), (a_now, .inl (cyI, 34, .inl f_now))] s.heap.size = A at hD ⊢
  have hA : ∀ q : Nat, s.heap.size ≤ q → A q := fun q h => by rw [← hAe]; exact Or.inr h
  clear hAe hD0
  have hS : va_S A s.heap s.heap [] := va_S.rf
  have S : CallFix p m c cX10_kinkEnd 5 s (([.ref a_this, .int v1] : List Value).toArray) wsX10_kinkEnd RX10 := ⟨hx, hb, hml, hown, hts⟩
  have hl := lv_entry ([.ref a_this, .int v1]) (n := 5) (Nat.le_of_ble_eq_true rfl)
  rw [lg_entry_eq]
  generalize (lg_sl ([.ref a_this, .int v1]) ++ List.replicate (5 - (lg_sl ([.ref a_this, .int v1])).length) Slot.unset).toArray = ls at hl ⊢
  replace hl : lv_has ls 5 [(0, .ref a_this), (1, .int v1)] := hl
  generalize ([] : List Loc) = locs at hS ⊢
  delta kX10_kinkEnd at hf
  obtain ⟨H, hH⟩ : ∃ H, H = s.heap := ⟨_, rfl⟩
  have hS : va_S A s.heap H locs := by rw [hH]; exact hS
  have hP : va_P D vwCl [(a_this, .inr (7, [.ref a_now, .ref a_history, .int i_saved, .ref a_kept, .ref a_isKept, .ref a_text, .int i_length, .int i_next, .ref a_read, .ref a_uses, .ref a_entry, .ref a_passed, .ref a_draft, .ref a_label, .ref a_met, .ref a_bracket, .ref a_matrix])), (a_now, .inl (cyI, 34, .inl f_now))] H := by rw [hH]; exact hP
  suffices hgo : W p l e (headSpec wsX10_kinkEnd rmX10_kinkEnd).room s m (([.ref a_this, .int v1] : List Value).toArray) below meth c H locs 0 0 (MQ below (kQi D cyI cyZ A [(a_this, .inr (7, [.ref a_now, .ref a_history, .int i_saved, .ref a_kept, .ref a_isKept, .ref a_text, .int i_length, .int i_next, .ref a_read, .ref a_uses, .ref a_entry, .ref a_passed, .ref a_draft, .ref a_label, .ref a_met, .ref a_bracket, .ref a_matrix])), (a_now, .inl (cyI, 34, .inl f_now))] r) (([.ref a_this, .int v1] : List Value).toArray) s 0 0 A) (F0 m 0 ls []) by rw [hH] at hgo; exact hgo
  clear hH
  refine lv_iconst (v := (-1)) hx hb dX10_kinkEnd_0 (by decide) ?_
  refine lv_istore_n (lv' := [(2, .int (-1)), (0, .ref a_this), (1, .int v1)]) hx hb dX10_kinkEnd_1 rfl hl (by decide) rfl (fun ls hl => ?_)
  refine lv_iconst (v := 3) hx hb dX10_kinkEnd_2 (by decide) ?_
  refine lv_istore_n (lv' := [(3, .int 3), (2, .int (-1)), (0, .ref a_this), (1, .int v1)]) hx hb dX10_kinkEnd_3 rfl hl (by decide) rfl (fun ls hl => ?_)
  have hL_1 : ∀ (n : Nat) (v2_1 : Int32) (v3_1 : Int32) (H : Heap) (locs : List Loc) (ls : Array Slot), it2 (kX10_kinkEnd_L1 v1 f_now) n v2_1 v3_1 = some r → va_P D vwCl [(a_this, .inr (7, [.ref a_now, .ref a_history, .int i_saved, .ref a_kept, .ref a_isKept, .ref a_text, .int i_length, .int i_next, .ref a_read, .ref a_uses, .ref a_entry, .ref a_passed, .ref a_draft, .ref a_label, .ref a_met, .ref a_bracket, .ref a_matrix])), (a_now, .inl (cyI, 34, .inl f_now))] H → va_D A [(a_this, .inr (7, [.ref a_now, .ref a_history, .int i_saved, .ref a_kept, .ref a_isKept, .ref a_text, .int i_length, .int i_next, .ref a_read, .ref a_uses, .ref a_entry, .ref a_passed, .ref a_draft, .ref a_label, .ref a_met, .ref a_bracket, .ref a_matrix])), (a_now, .inl (cyI, 34, .inl f_now))] → va_S A s.heap H locs → lv_has ls 5 [(0, .ref a_this), (1, .int v1), (2, .int v2_1), (3, .int v3_1)] → W p l e (headSpec wsX10_kinkEnd rmX10_kinkEnd).room s m (([.ref a_this, .int v1] : List Value).toArray) below meth c H locs 0 0 (MQ below (kQi D cyI cyZ A [(a_this, .inr (7, [.ref a_now, .ref a_history, .int i_saved, .ref a_kept, .ref a_isKept, .ref a_text, .int i_length, .int i_next, .ref a_read, .ref a_uses, .ref a_entry, .ref a_passed, .ref a_draft, .ref a_label, .ref a_met, .ref a_bracket, .ref a_matrix])), (a_now, .inl (cyI, 34, .inl f_now))] r) (([.ref a_this, .int v1] : List Value).toArray) s 0 0 A) (F0 m 4 ls []) := by
    intro n_1
    induction n_1 with
    | zero =>
      intro _ _ _ _ _ hf
      exact (it2_z hf).elim
    | succ n_1 ih_1 =>
      intro v2_1 v3_1 H locs ls hf hP hD hS hl
      replace hf := it2_s hf
      rw [kX10_kinkEnd_L1] at hf
      refine lv_iload_n hx hb dX10_kinkEnd_4 rfl (lv_at hl 3 rfl) ?_
      refine lv_if_lt (tgt := 47) hx hb dX10_kinkEnd_5 (by decide) (fun c_5 => ?_) (fun c_5 => ?_)
      · replace hf := kt_p hf c_5
        refine lv_iload_n hx hb dX10_kinkEnd_47 rfl (lv_at hl 2 rfl) ?_
        obtain rfl := some1_s hf
        exact kRi hx hb hr hlocks hP hK hD hS rfl dX10_kinkEnd_48
      · replace hf := kt_n hf c_5
        refine lv_iconst (v := 4) hx hb dX10_kinkEnd_8 (by decide) ?_
        refine lv_iload_n hx hb dX10_kinkEnd_9 rfl (lv_at hl 1 rfl) ?_
        refine lv_imul hx hb dX10_kinkEnd_10 ?_
        refine lv_iload_n hx hb dX10_kinkEnd_11 rfl (lv_at hl 3 rfl) ?_
        refine lv_iadd hx hb dX10_kinkEnd_12 ?_
        refine lv_istore (lv' := [(4, .int ((4 * v1) + v3_1)), (0, .ref a_this), (1, .int v1), (2, .int v2_1), (3, .int v3_1)]) hx hb dX10_kinkEnd_13 hl (by decide) rfl (fun ls hl => ?_)
        refine lv_aload_n hx hb dX10_kinkEnd_15 rfl (lv_at hl 1 rfl) ?_
        refine lv_iload hx hb dX10_kinkEnd_16 (lv_at hl 0 rfl) ?_
        obtain ⟨r_1, hc_1, hf⟩ := bnd1_s hf
        refine kcVi (As := [.int ((4 * v1) + v3_1)]) (rest := []) (w2 := [(a_this, .inr (7, [.ref a_now, .ref a_history, .int i_saved, .ref a_kept, .ref a_isKept, .ref a_text, .int i_length, .int i_next, .ref a_read, .ref a_uses, .ref a_entry, .ref a_passed, .ref a_draft, .ref a_label, .ref a_met, .ref a_bracket, .ref a_matrix])), (a_now, .inl (cyI, 34, .inl f_now))]) S hK hP hD hS hA hN (mX10_arc l D cyI cyZ H.size a_this a_now a_history a_kept a_isKept a_text a_read a_uses a_entry a_passed a_draft a_label a_met a_bracket a_matrix ((4 * v1) + v3_1) i_saved i_length i_next f_now r_1 hc_1) (cwV 1 hts gX10_kinkEnd_X10_arc rfl rfl rfl (by decide +kernel) ⟨Nat.le_of_ble_eq_true rfl, Nat.le_of_ble_eq_true rfl⟩) 7 0 rfl rfl [0, 1] [] [0, 1] rfl rfl rfl rfl (by decide) rfl rfl hl.1 (Nat.le_of_ble_eq_true rfl) dX10_kinkEnd_18 ⟨Nat.le_of_ble_eq_true rfl, Nat.le_of_ble_eq_true rfl⟩ (fun H locs hP hD hS => ?_)
        refine lv_aload_n hx hb dX10_kinkEnd_21 rfl (lv_at hl 1 rfl) ?_
        refine lv_iload hx hb dX10_kinkEnd_22 (lv_at hl 0 rfl) ?_
        refine lv_iconst (v := 1) hx hb dX10_kinkEnd_24 (by decide) ?_
        obtain ⟨r_2, hc_2, hf⟩ := bnd1_s hf
        refine kcSi (As := [.int ((4 * v1) + v3_1), .int 1]) (rest := [.ref a_this, .int r_1]) (w2 := [(a_this, .inr (7, [.ref a_now, .ref a_history, .int i_saved, .ref a_kept, .ref a_isKept, .ref a_text, .int i_length, .int i_next, .ref a_read, .ref a_uses, .ref a_entry, .ref a_passed, .ref a_draft, .ref a_label, .ref a_met, .ref a_bracket, .ref a_matrix])), (a_now, .inl (cyI, 34, .inl f_now))]) S hK hP hD hS hA hN (mX10_turn l D cyI cyZ H.size ((4 * v1) + v3_1) 1 r_2 hc_2) (va_cwS 2 hts gX10_kinkEnd_X10_turn rfl rfl rfl (by decide +kernel) ⟨Nat.le_of_ble_eq_true rfl, Nat.le_of_ble_eq_true rfl⟩) [] [0, 1] [0, 1] rfl rfl rfl rfl (by decide) rfl rfl hl.1 (Nat.le_of_ble_eq_true rfl) dX10_kinkEnd_25 ⟨Nat.le_of_ble_eq_true rfl, Nat.le_of_ble_eq_true rfl⟩ (fun H locs hP hD hS => ?_)
        obtain ⟨r_3, hc_3, hf⟩ := bnd1_s hf
        refine kcVi (As := [.int r_2]) (rest := [.int r_1]) (w2 := [(a_this, .inr (7, [.ref a_now, .ref a_history, .int i_saved, .ref a_kept, .ref a_isKept, .ref a_text, .int i_length, .int i_next, .ref a_read, .ref a_uses, .ref a_entry, .ref a_passed, .ref a_draft, .ref a_label, .ref a_met, .ref a_bracket, .ref a_matrix])), (a_now, .inl (cyI, 34, .inl f_now))]) S hK hP hD hS hA hN (mX10_arc l D cyI cyZ H.size a_this a_now a_history a_kept a_isKept a_text a_read a_uses a_entry a_passed a_draft a_label a_met a_bracket a_matrix r_2 i_saved i_length i_next f_now r_3 hc_3) (cwV 1 hts gX10_kinkEnd_X10_arc rfl rfl rfl (by decide +kernel) ⟨Nat.le_of_ble_eq_true rfl, Nat.le_of_ble_eq_true rfl⟩) 7 0 rfl rfl [0, 1] [] [0, 1] rfl rfl rfl rfl (by decide) rfl rfl hl.1 (Nat.le_of_ble_eq_true rfl) dX10_kinkEnd_28 ⟨Nat.le_of_ble_eq_true rfl, Nat.le_of_ble_eq_true rfl⟩ (fun H locs hP hD hS => ?_)
        refine lv_icmp_ne (tgt := 39) hx hb dX10_kinkEnd_31 (by decide) (fun c_4 => ?_) (fun c_4 => ?_)
        · replace hf := kt_n hf c_4
          refine lv_iload_n hx hb dX10_kinkEnd_39 rfl (lv_at hl 3 rfl) ?_
          refine lv_istore_n (lv' := [(2, .int v2_1), (4, .int ((4 * v1) + v3_1)), (0, .ref a_this), (1, .int v1), (3, .int v3_1)]) hx hb dX10_kinkEnd_40 rfl hl (by decide) rfl (fun ls hl => ?_)
          refine lv_iinc (v := (v3_1 + (-1))) (lv' := [(3, .int (v3_1 + (-1))), (2, .int v2_1), (4, .int ((4 * v1) + v3_1)), (0, .ref a_this), (1, .int v1)]) hx hb dX10_kinkEnd_41 hl (k := 4) rfl rfl (by decide) rfl (fun ls hl => ?_)
          refine lv_goto (tgt := 4) hx hb dX10_kinkEnd_44 (by decide) ?_
          exact ih_1 v2_1 (v3_1 + (-1)) H locs ls hf hP hD hS (lv_sub hl [3, 4, 1, 0] rfl)
        · replace hf := kt_p hf c_4
          refine lv_iload hx hb dX10_kinkEnd_34 (lv_at hl 0 rfl) ?_
          refine lv_goto (tgt := 40) hx hb dX10_kinkEnd_36 (by decide) ?_
          refine lv_istore_n (lv' := [(2, .int ((4 * v1) + v3_1)), (4, .int ((4 * v1) + v3_1)), (0, .ref a_this), (1, .int v1), (3, .int v3_1)]) hx hb dX10_kinkEnd_40 rfl hl (by decide) rfl (fun ls hl => ?_)
          refine lv_iinc (v := (v3_1 + (-1))) (lv' := [(3, .int (v3_1 + (-1))), (2, .int ((4 * v1) + v3_1)), (4, .int ((4 * v1) + v3_1)), (0, .ref a_this), (1, .int v1)]) hx hb dX10_kinkEnd_41 hl (k := 4) rfl rfl (by decide) rfl (fun ls hl => ?_)
          refine lv_goto (tgt := 4) hx hb dX10_kinkEnd_44 (by decide) ?_
          exact ih_1 ((4 * v1) + v3_1) (v3_1 + (-1)) H locs ls hf hP hD hS (lv_sub hl [3, 4, 1, 0] rfl)
  exact hL_1 400 (-1) 3 H locs ls hf hP hD hS (lv_sub hl [2, 3, 1, 0] rfl)
def kX10_join_J3 (v4_2 : Int32) (n_p0 : Nat) (K_2 : Int32 → (Nat → Int32) → Option (Int32 × (Nat → Int32))) (f_p0_2 : Nat → Int32) (t0_1 : Int32)  : Option (Int32 × (Nat → Int32)) :=
  ck v4_2 n_p0 (K_2 (v4_2 + 1) (upd f_p0_2 v4_2.toNatClampNeg t0_1))
def kX10_join_L2 (n_p0 : Nat) (v1 : Int32) (t0_1 : Int32) (v2 : Int32) (K_2 : Int32 → (Nat → Int32) → Option (Int32 × (Nat → Int32))) (v4_2 : Int32) (f_p0_2 : Nat → Int32) : Option (Int32 × (Nat → Int32)) :=
  if 34 ≤ v4_2 then some (0, f_p0_2) else ck v4_2 n_p0 (if (f_p0_2 v4_2.toNatClampNeg) = v1 then kX10_join_J3 v4_2 n_p0 K_2 f_p0_2 t0_1 else ck v4_2 n_p0 (if (f_p0_2 v4_2.toNatClampNeg) = v2 then kX10_join_J3 v4_2 n_p0 K_2 f_p0_2 t0_1 else ck v4_2 n_p0 (ck v4_2 n_p0 (K_2 (v4_2 + 1) (upd f_p0_2 v4_2.toNatClampNeg (f_p0_2 v4_2.toNatClampNeg))))))
def kX10_join_J1 (n_p0 : Nat) (v1 : Int32) (v2 : Int32) (f_p0 : Nat → Int32) (t0_1 : Int32) : Option (Int32 × (Nat → Int32)) :=
  it2 (kX10_join_L2 n_p0 v1 t0_1 v2) 400 2 f_p0
def kX10_join (n_p0 : Nat) (v1 : Int32) (v2 : Int32) (f_p0 : Nat → Int32) : Option (Int32 × (Nat → Int32)) :=
  if v1 = v2 then some (1, f_p0) else if v2 ≤ v1 then kX10_join_J1 n_p0 v1 v2 f_p0 v2 else kX10_join_J1 n_p0 v1 v2 f_p0 v1
def rmX10_join : Room := { frames := 0, cells := 0, slots := 0, locals := 0 }
set_option maxHeartbeats 4000000 in
set_option maxRecDepth 100000 in
theorem mX10_join (l : Launch) (D : va_G) (cyI cyZ : ClassId) (sz : Nat) (a_p0 : Nat) (n_p0 : Nat) (v1 : Int32) (v2 : Int32) (f_p0 : Nat → Int32) (r : Int32) (o_p0 : Nat → Int32) (hf : kX10_join n_p0 v1 v2 f_p0 = some (r, o_p0)) : Met l yX10_join wsX10_join rmX10_join (kPre D cyI cyZ [.ref a_p0, .int v1, .int v2] [(a_p0, .inl (cyI, n_p0, .inl f_p0))] sz) (kQi D cyI cyZ (va_A [(a_p0, .inl (cyI, n_p0, .inl f_p0))] sz) [(a_p0, .inl (cyI, n_p0, .inl o_p0))] r) 0 0 (va_A [(a_p0, .inl (cyI, n_p0, .inl f_p0))] sz) := by
  refine Met.ofW (cc := cX10_join) (maxL := 5) (ret := (some .int)) (by decide) rfl ?_
  intro p e s m args below meth c s₁ B hml hv
  obtain ⟨rfl, hsz, hP, hK, hD0, hN⟩ := hv
  have hx := B.exec
  have hb := B.bytes
  have hr := B.returns
  have hts := atoms_spec (ws := wsX10_join) B.pre
  have hown : s.vm.findClass RX10 = some m.cls := findClass_of_methodNamed B.named
  have hlocks := B.notSynchronized
  subst hsz
  have hD := hD0.self (sz := s.heap.size)
  generalize hAe : va_A [(a_p0, .inl (cyI, n_p0, .inl f_p0))] s.heap.size = A at hD ⊢
  have hA : ∀ q : Nat, s.heap.size ≤ q → A q := fun q h => by rw [← hAe]; exact Or.inr h
  clear hAe hD0
  have hS : va_S A s.heap s.heap [] := va_S.rf
  have S : CallFix p m c cX10_join 5 s (([.ref a_p0, .int v1, .int v2] : List Value).toArray) wsX10_join RX10 := ⟨hx, hb, hml, hown, hts⟩
  have hl := lv_entry ([.ref a_p0, .int v1, .int v2]) (n := 5) (Nat.le_of_ble_eq_true rfl)
  rw [lg_entry_eq]
  generalize (lg_sl ([.ref a_p0, .int v1, .int v2]) ++ List.replicate (5 - (lg_sl ([.ref a_p0, .int v1, .int v2])).length) Slot.unset).toArray = ls at hl ⊢
  replace hl : lv_has ls 5 [(0, .ref a_p0), (1, .int v1), (2, .int v2)] := hl
  generalize ([] : List Loc) = locs at hS ⊢
  delta kX10_join at hf
  obtain ⟨H, hH⟩ : ∃ H, H = s.heap := ⟨_, rfl⟩
  have hS : va_S A s.heap H locs := by rw [hH]; exact hS
  have hP : va_P D vwCl [(a_p0, .inl (cyI, n_p0, .inl f_p0))] H := by rw [hH]; exact hP
  suffices hgo : W p l e (headSpec wsX10_join rmX10_join).room s m (([.ref a_p0, .int v1, .int v2] : List Value).toArray) below meth c H locs 0 0 (MQ below (kQi D cyI cyZ A [(a_p0, .inl (cyI, n_p0, .inl o_p0))] r) (([.ref a_p0, .int v1, .int v2] : List Value).toArray) s 0 0 A) (F0 m 0 ls []) by rw [hH] at hgo; exact hgo
  clear hH
  refine lv_iload_n hx hb dX10_join_0 rfl (lv_at hl 1 rfl) ?_
  refine lv_iload_n hx hb dX10_join_1 rfl (lv_at hl 2 rfl) ?_
  refine lv_icmp_ne (tgt := 7) hx hb dX10_join_2 (by decide) (fun c_10 => ?_) (fun c_10 => ?_)
  · replace hf := kt_n hf c_10
    refine lv_iload_n hx hb dX10_join_7 rfl (lv_at hl 1 rfl) ?_
    refine lv_iload_n hx hb dX10_join_8 rfl (lv_at hl 2 rfl) ?_
    have hJ_1 : ∀ (t0_1 : Int32) (H : Heap) (locs : List Loc) (ls : Array Slot), kX10_join_J1 n_p0 v1 v2 f_p0 t0_1 = some (r, o_p0) → va_P D vwCl [(a_p0, .inl (cyI, n_p0, .inl f_p0))] H → va_D A [(a_p0, .inl (cyI, n_p0, .inl f_p0))] → va_S A s.heap H locs → lv_has ls 5 [(0, .ref a_p0), (1, .int v1), (2, .int v2)] → W p l e (headSpec wsX10_join rmX10_join).room s m (([.ref a_p0, .int v1, .int v2] : List Value).toArray) below meth c H locs 0 0 (MQ below (kQi D cyI cyZ A [(a_p0, .inl (cyI, n_p0, .inl o_p0))] r) (([.ref a_p0, .int v1, .int v2] : List Value).toArray) s 0 0 A) (F0 m 17 ls [.int t0_1]) := by
      intro t0_1 H locs ls hf hP hD hS hl
      delta kX10_join_J1 at hf
      refine lv_istore_n (lv' := [(3, .int t0_1), (0, .ref a_p0), (1, .int v1), (2, .int v2)]) hx hb dX10_join_17 rfl hl (by decide) rfl (fun ls hl => ?_)
      refine lv_iconst (v := 2) hx hb dX10_join_18 (by decide) ?_
      refine lv_istore (lv' := [(4, .int 2), (3, .int t0_1), (0, .ref a_p0), (1, .int v1), (2, .int v2)]) hx hb dX10_join_19 hl (by decide) rfl (fun ls hl => ?_)
      have hL_2 : ∀ (n : Nat) (v4_2 : Int32) (f_p0_2 : Nat → Int32) (H : Heap) (locs : List Loc) (ls : Array Slot), it2 (kX10_join_L2 n_p0 v1 t0_1 v2) n v4_2 f_p0_2 = some (r, o_p0) → va_P D vwCl [(a_p0, .inl (cyI, n_p0, .inl f_p0_2))] H → va_D A [(a_p0, .inl (cyI, n_p0, .inl f_p0_2))] → va_S A s.heap H locs → lv_has ls 5 [(0, .ref a_p0), (1, .int v1), (2, .int v2), (3, .int t0_1), (4, .int v4_2)] → W p l e (headSpec wsX10_join rmX10_join).room s m (([.ref a_p0, .int v1, .int v2] : List Value).toArray) below meth c H locs 0 0 (MQ below (kQi D cyI cyZ A [(a_p0, .inl (cyI, n_p0, .inl o_p0))] r) (([.ref a_p0, .int v1, .int v2] : List Value).toArray) s 0 0 A) (F0 m 21 ls []) := by
        intro n_2
        induction n_2 with
        | zero =>
          intro _ _ _ _ _ hf
          exact (it2_z hf).elim
        | succ n_2 ih_2 =>
          intro v4_2 f_p0_2 H locs ls hf hP hD hS hl
          replace hf := it2_s hf
          rw [kX10_join_L2] at hf
          refine lv_iload hx hb dX10_join_21 (lv_at hl 4 rfl) ?_
          refine lv_bipush (v := 34) hx hb dX10_join_23 (by decide) ?_
          refine lv_icmp_ge (tgt := 62) hx hb dX10_join_25 (by decide) (fun c_8 => ?_) (fun c_8 => ?_)
          · replace hf := kt_p hf c_8
            refine lv_iconst (v := 0) hx hb dX10_join_62 (by decide) ?_
            obtain ⟨rfl, rfl⟩ := some2_s hf
            exact kRi hx hb hr hlocks hP hK hD hS rfl dX10_join_63
          · replace hf := kt_n hf c_8
            refine lv_aload_n hx hb dX10_join_28 rfl (lv_at hl 0 rfl) ?_
            refine lv_iload hx hb dX10_join_29 (lv_at hl 4 rfl) ?_
            refine lv_aload_n hx hb dX10_join_31 rfl (lv_at hl 0 rfl) ?_
            refine lv_iload hx hb dX10_join_32 (lv_at hl 4 rfl) ?_
            obtain ⟨hi_1, hf⟩ := ck_s hf
            refine va_iald hx hb hK hP 0 0 rfl rfl hi_1 dX10_join_34 ?_
            refine lv_iload_n hx hb dX10_join_35 rfl (lv_at hl 1 rfl) ?_
            have hJ_3 : ∀  (H : Heap) (locs : List Loc) (ls : Array Slot), kX10_join_J3 v4_2 n_p0 (it2 (kX10_join_L2 n_p0 v1 t0_1 v2) n_2) f_p0_2 t0_1  = some (r, o_p0) → va_P D vwCl [(a_p0, .inl (cyI, n_p0, .inl f_p0_2))] H → va_D A [(a_p0, .inl (cyI, n_p0, .inl f_p0_2))] → va_S A s.heap H locs → lv_has ls 5 [(0, .ref a_p0), (1, .int v1), (2, .int v2), (3, .int t0_1), (4, .int v4_2)] → W p l e (headSpec wsX10_join rmX10_join).room s m (([.ref a_p0, .int v1, .int v2] : List Value).toArray) below meth c H locs 0 0 (MQ below (kQi D cyI cyZ A [(a_p0, .inl (cyI, n_p0, .inl o_p0))] r) (([.ref a_p0, .int v1, .int v2] : List Value).toArray) s 0 0 A) (F0 m 47 ls [.int v4_2, .ref a_p0]) := by
              intro  H locs ls hf hP hD hS hl
              delta kX10_join_J3 at hf
              refine lv_iload_n hx hb dX10_join_47 rfl (lv_at hl 3 rfl) ?_
              refine lv_goto (tgt := 55) hx hb dX10_join_48 (by decide) ?_
              obtain ⟨hi_2, hf⟩ := ck_s hf
              refine va_iast hx hb hK hP hD hS 0 0 rfl rfl hi_2 dX10_join_55 (fun H locs hP hD hS => ?_)
              replace hP : va_P D vwCl [(a_p0, .inl (cyI, n_p0, .inl (upd f_p0_2 v4_2.toNatClampNeg t0_1)))] H := hP
              replace hD : va_D A [(a_p0, .inl (cyI, n_p0, .inl (upd f_p0_2 v4_2.toNatClampNeg t0_1)))] := hD
              refine lv_iinc (v := (v4_2 + 1)) (lv' := [(4, .int (v4_2 + 1)), (0, .ref a_p0), (1, .int v1), (2, .int v2), (3, .int t0_1)]) hx hb dX10_join_56 hl (k := 4) rfl rfl (by decide) rfl (fun ls hl => ?_)
              refine lv_goto (tgt := 21) hx hb dX10_join_59 (by decide) ?_
              exact ih_2 (v4_2 + 1) (upd f_p0_2 v4_2.toNatClampNeg t0_1) H locs ls hf hP hD hS (lv_sub hl [1, 2, 3, 4, 0] rfl)
            refine lv_icmp_eq (tgt := 47) hx hb dX10_join_36 (by decide) (fun c_7 => ?_) (fun c_7 => ?_)
            · replace hf := kt_p hf c_7
              exact hJ_3 H locs ls hf hP hD hS (lv_sub hl [0, 1, 2, 3, 4] rfl)
            · replace hf := kt_n hf c_7
              refine lv_aload_n hx hb dX10_join_39 rfl (lv_at hl 0 rfl) ?_
              refine lv_iload hx hb dX10_join_40 (lv_at hl 4 rfl) ?_
              obtain ⟨hi_3, hf⟩ := ck_s hf
              refine va_iald hx hb hK hP 0 0 rfl rfl hi_3 dX10_join_42 ?_
              refine lv_iload_n hx hb dX10_join_43 rfl (lv_at hl 2 rfl) ?_
              refine lv_icmp_ne (tgt := 51) hx hb dX10_join_44 (by decide) (fun c_6 => ?_) (fun c_6 => ?_)
              · replace hf := kt_n hf c_6
                refine lv_aload_n hx hb dX10_join_51 rfl (lv_at hl 0 rfl) ?_
                refine lv_iload hx hb dX10_join_52 (lv_at hl 4 rfl) ?_
                obtain ⟨hi_4, hf⟩ := ck_s hf
                refine va_iald hx hb hK hP 0 0 rfl rfl hi_4 dX10_join_54 ?_
                obtain ⟨hi_5, hf⟩ := ck_s hf
                refine va_iast hx hb hK hP hD hS 0 0 rfl rfl hi_5 dX10_join_55 (fun H locs hP hD hS => ?_)
                replace hP : va_P D vwCl [(a_p0, .inl (cyI, n_p0, .inl (upd f_p0_2 v4_2.toNatClampNeg (f_p0_2 v4_2.toNatClampNeg))))] H := hP
                replace hD : va_D A [(a_p0, .inl (cyI, n_p0, .inl (upd f_p0_2 v4_2.toNatClampNeg (f_p0_2 v4_2.toNatClampNeg))))] := hD
                refine lv_iinc (v := (v4_2 + 1)) (lv' := [(4, .int (v4_2 + 1)), (0, .ref a_p0), (1, .int v1), (2, .int v2), (3, .int t0_1)]) hx hb dX10_join_56 hl (k := 4) rfl rfl (by decide) rfl (fun ls hl => ?_)
                refine lv_goto (tgt := 21) hx hb dX10_join_59 (by decide) ?_
                exact ih_2 (v4_2 + 1) (upd f_p0_2 v4_2.toNatClampNeg (f_p0_2 v4_2.toNatClampNeg)) H locs ls hf hP hD hS (lv_sub hl [1, 2, 3, 4, 0] rfl)
              · replace hf := kt_p hf c_6
                exact hJ_3 H locs ls hf hP hD hS (lv_sub hl [0, 1, 2, 3, 4] rfl)
      exact hL_2 400 2 f_p0 H locs ls hf hP hD hS (lv_sub hl [2, 3, 4, 1, 0] rfl)
    refine lv_icmp_ge (tgt := 16) hx hb dX10_join_9 (by decide) (fun c_9 => ?_) (fun c_9 => ?_)
    · replace hf := kt_p hf c_9
      refine lv_iload_n hx hb dX10_join_16 rfl (lv_at hl 2 rfl) ?_
      exact hJ_1 v2 H locs ls hf hP hD hS (lv_sub hl [0, 1, 2] rfl)
    · replace hf := kt_n hf c_9
      refine lv_iload_n hx hb dX10_join_12 rfl (lv_at hl 1 rfl) ?_
      refine lv_goto (tgt := 17) hx hb dX10_join_13 (by decide) ?_
      exact hJ_1 v1 H locs ls hf hP hD hS (lv_sub hl [0, 1, 2] rfl)
  · replace hf := kt_p hf c_10
    refine lv_iconst (v := 1) hx hb dX10_join_5 (by decide) ?_
    obtain ⟨rfl, rfl⟩ := some2_s hf
    exact kRi hx hb hr hlocks hP hK hD hS rfl dX10_join_6
def kX10_dropCrossing_L2 (n_p0 : Nat) (K_2 : Int32 → (Nat → Int32) → Option ((Nat → Int32))) (v2_2 : Int32) (f_p0_2 : Nat → Int32) : Option ((Nat → Int32)) :=
  if 34 ≤ v2_2 then ck 0 n_p0 (ck 0 n_p0 (some (upd f_p0_2 (0 : Int32).toNatClampNeg ((f_p0_2 (0 : Int32).toNatClampNeg) - 1)))) else ck v2_2 n_p0 (K_2 (v2_2 + 1) (upd f_p0_2 v2_2.toNatClampNeg 0))
def kX10_dropCrossing_L1 (n_p0 : Nat) (K_1 : Int32 → (Nat → Int32) → Option ((Nat → Int32))) (v2_1 : Int32) (f_p0_1 : Nat → Int32) : Option ((Nat → Int32)) :=
  if 34 ≤ (v2_1 + 4) then it2 (kX10_dropCrossing_L2 n_p0) 400 30 f_p0_1 else ck (v2_1 + 4) n_p0 (ck v2_1 n_p0 (K_1 (v2_1 + 1) (upd f_p0_1 v2_1.toNatClampNeg (f_p0_1 (v2_1 + 4).toNatClampNeg))))
def kX10_dropCrossing (n_p0 : Nat) (v1 : Int32) (f_p0 : Nat → Int32) : Option ((Nat → Int32)) :=
  it2 (kX10_dropCrossing_L1 n_p0) 400 (2 + (4 * v1)) f_p0
def rmX10_dropCrossing : Room := { frames := 0, cells := 0, slots := 0, locals := 0 }
set_option maxHeartbeats 4000000 in
set_option maxRecDepth 100000 in
theorem mX10_dropCrossing (l : Launch) (D : va_G) (cyI cyZ : ClassId) (sz : Nat) (a_p0 : Nat) (n_p0 : Nat) (v1 : Int32) (f_p0 : Nat → Int32) (o_p0 : Nat → Int32) (hf : kX10_dropCrossing n_p0 v1 f_p0 = some o_p0) : Met l yX10_dropCrossing wsX10_dropCrossing rmX10_dropCrossing (kPre D cyI cyZ [.ref a_p0, .int v1] [(a_p0, .inl (cyI, n_p0, .inl f_p0))] sz) (kQv D cyI cyZ (va_A [(a_p0, .inl (cyI, n_p0, .inl f_p0))] sz) [(a_p0, .inl (cyI, n_p0, .inl o_p0))]) 0 0 (va_A [(a_p0, .inl (cyI, n_p0, .inl f_p0))] sz) := by
  refine Met.ofW (cc := cX10_dropCrossing) (maxL := 3) (ret := none) (by decide) rfl ?_
  intro p e s m args below meth c s₁ B hml hv
  obtain ⟨rfl, hsz, hP, hK, hD0, hN⟩ := hv
  have hx := B.exec
  have hb := B.bytes
  have hr := B.returns
  have hts := atoms_spec (ws := wsX10_dropCrossing) B.pre
  have hown : s.vm.findClass RX10 = some m.cls := findClass_of_methodNamed B.named
  have hlocks := B.notSynchronized
  subst hsz
  have hD := hD0.self (sz := s.heap.size)
  generalize hAe : va_A [(a_p0, .inl (cyI, n_p0, .inl f_p0))] s.heap.size = A at hD ⊢
  have hA : ∀ q : Nat, s.heap.size ≤ q → A q := fun q h => by rw [← hAe]; exact Or.inr h
  clear hAe hD0
  have hS : va_S A s.heap s.heap [] := va_S.rf
  have S : CallFix p m c cX10_dropCrossing 3 s (([.ref a_p0, .int v1] : List Value).toArray) wsX10_dropCrossing RX10 := ⟨hx, hb, hml, hown, hts⟩
  have hl := lv_entry ([.ref a_p0, .int v1]) (n := 3) (Nat.le_of_ble_eq_true rfl)
  rw [lg_entry_eq]
  generalize (lg_sl ([.ref a_p0, .int v1]) ++ List.replicate (3 - (lg_sl ([.ref a_p0, .int v1])).length) Slot.unset).toArray = ls at hl ⊢
  replace hl : lv_has ls 3 [(0, .ref a_p0), (1, .int v1)] := hl
  generalize ([] : List Loc) = locs at hS ⊢
  delta kX10_dropCrossing at hf
  obtain ⟨H, hH⟩ : ∃ H, H = s.heap := ⟨_, rfl⟩
  have hS : va_S A s.heap H locs := by rw [hH]; exact hS
  have hP : va_P D vwCl [(a_p0, .inl (cyI, n_p0, .inl f_p0))] H := by rw [hH]; exact hP
  suffices hgo : W p l e (headSpec wsX10_dropCrossing rmX10_dropCrossing).room s m (([.ref a_p0, .int v1] : List Value).toArray) below meth c H locs 0 0 (MQ below (kQv D cyI cyZ A [(a_p0, .inl (cyI, n_p0, .inl o_p0))]) (([.ref a_p0, .int v1] : List Value).toArray) s 0 0 A) (F0 m 0 ls []) by rw [hH] at hgo; exact hgo
  clear hH
  refine lv_iconst (v := 2) hx hb dX10_dropCrossing_0 (by decide) ?_
  refine lv_iconst (v := 4) hx hb dX10_dropCrossing_1 (by decide) ?_
  refine lv_iload_n hx hb dX10_dropCrossing_2 rfl (lv_at hl 1 rfl) ?_
  refine lv_imul hx hb dX10_dropCrossing_3 ?_
  refine lv_iadd hx hb dX10_dropCrossing_4 ?_
  refine lv_istore_n (lv' := [(2, .int (2 + (4 * v1))), (0, .ref a_p0), (1, .int v1)]) hx hb dX10_dropCrossing_5 rfl hl (by decide) rfl (fun ls hl => ?_)
  have hL_1 : ∀ (n : Nat) (v2_1 : Int32) (f_p0_1 : Nat → Int32) (H : Heap) (locs : List Loc) (ls : Array Slot), it2 (kX10_dropCrossing_L1 n_p0) n v2_1 f_p0_1 = some o_p0 → va_P D vwCl [(a_p0, .inl (cyI, n_p0, .inl f_p0_1))] H → va_D A [(a_p0, .inl (cyI, n_p0, .inl f_p0_1))] → va_S A s.heap H locs → lv_has ls 3 [(0, .ref a_p0), (2, .int v2_1)] → W p l e (headSpec wsX10_dropCrossing rmX10_dropCrossing).room s m (([.ref a_p0, .int v1] : List Value).toArray) below meth c H locs 0 0 (MQ below (kQv D cyI cyZ A [(a_p0, .inl (cyI, n_p0, .inl o_p0))]) (([.ref a_p0, .int v1] : List Value).toArray) s 0 0 A) (F0 m 6 ls []) := by
    intro n_1
    induction n_1 with
    | zero =>
      intro _ _ _ _ _ hf
      exact (it2_z hf).elim
    | succ n_1 ih_1 =>
      intro v2_1 f_p0_1 H locs ls hf hP hD hS hl
      replace hf := it2_s hf
      rw [kX10_dropCrossing_L1] at hf
      refine lv_iload_n hx hb dX10_dropCrossing_6 rfl (lv_at hl 1 rfl) ?_
      refine lv_iconst (v := 4) hx hb dX10_dropCrossing_7 (by decide) ?_
      refine lv_iadd hx hb dX10_dropCrossing_8 ?_
      refine lv_bipush (v := 34) hx hb dX10_dropCrossing_9 (by decide) ?_
      refine lv_icmp_ge (tgt := 28) hx hb dX10_dropCrossing_11 (by decide) (fun c_7 => ?_) (fun c_7 => ?_)
      · replace hf := kt_p hf c_7
        refine lv_bipush (v := 30) hx hb dX10_dropCrossing_28 (by decide) ?_
        refine lv_istore_n (lv' := [(2, .int 30), (0, .ref a_p0)]) hx hb dX10_dropCrossing_30 rfl hl (by decide) rfl (fun ls hl => ?_)
        have hL_2 : ∀ (n : Nat) (v2_2 : Int32) (f_p0_2 : Nat → Int32) (H : Heap) (locs : List Loc) (ls : Array Slot), it2 (kX10_dropCrossing_L2 n_p0) n v2_2 f_p0_2 = some o_p0 → va_P D vwCl [(a_p0, .inl (cyI, n_p0, .inl f_p0_2))] H → va_D A [(a_p0, .inl (cyI, n_p0, .inl f_p0_2))] → va_S A s.heap H locs → lv_has ls 3 [(0, .ref a_p0), (2, .int v2_2)] → W p l e (headSpec wsX10_dropCrossing rmX10_dropCrossing).room s m (([.ref a_p0, .int v1] : List Value).toArray) below meth c H locs 0 0 (MQ below (kQv D cyI cyZ A [(a_p0, .inl (cyI, n_p0, .inl o_p0))]) (([.ref a_p0, .int v1] : List Value).toArray) s 0 0 A) (F0 m 31 ls []) := by
          intro n_2
          induction n_2 with
          | zero =>
            intro _ _ _ _ _ hf
            exact (it2_z hf).elim
          | succ n_2 ih_2 =>
            intro v2_2 f_p0_2 H locs ls hf hP hD hS hl
            replace hf := it2_s hf
            rw [kX10_dropCrossing_L2] at hf
            refine lv_iload_n hx hb dX10_dropCrossing_31 rfl (lv_at hl 1 rfl) ?_
            refine lv_bipush (v := 34) hx hb dX10_dropCrossing_32 (by decide) ?_
            refine lv_icmp_ge (tgt := 47) hx hb dX10_dropCrossing_34 (by decide) (fun c_4 => ?_) (fun c_4 => ?_)
            · replace hf := kt_p hf c_4
              refine lv_aload_n hx hb dX10_dropCrossing_47 rfl (lv_at hl 0 rfl) ?_
              refine lv_iconst (v := 0) hx hb dX10_dropCrossing_48 (by decide) ?_
              refine lv_dup2_11 hx hb dX10_dropCrossing_49 rfl rfl ?_
              obtain ⟨hi_1, hf⟩ := ck_s hf
              refine va_iald hx hb hK hP 0 0 rfl rfl hi_1 dX10_dropCrossing_50 ?_
              refine lv_iconst (v := 1) hx hb dX10_dropCrossing_51 (by decide) ?_
              refine lv_isub hx hb dX10_dropCrossing_52 ?_
              obtain ⟨hi_2, hf⟩ := ck_s hf
              refine va_iast hx hb hK hP hD hS 0 0 rfl rfl hi_2 dX10_dropCrossing_53 (fun H locs hP hD hS => ?_)
              replace hP : va_P D vwCl [(a_p0, .inl (cyI, n_p0, .inl (upd f_p0_2 (0 : Int32).toNatClampNeg ((f_p0_2 (0 : Int32).toNatClampNeg) - 1))))] H := hP
              replace hD : va_D A [(a_p0, .inl (cyI, n_p0, .inl (upd f_p0_2 (0 : Int32).toNatClampNeg ((f_p0_2 (0 : Int32).toNatClampNeg) - 1))))] := hD
              obtain rfl := some1_s hf
              exact kRv hx hb hr hlocks hP hK hD hS dX10_dropCrossing_54
            · replace hf := kt_n hf c_4
              refine lv_aload_n hx hb dX10_dropCrossing_37 rfl (lv_at hl 0 rfl) ?_
              refine lv_iload_n hx hb dX10_dropCrossing_38 rfl (lv_at hl 1 rfl) ?_
              refine lv_iconst (v := 0) hx hb dX10_dropCrossing_39 (by decide) ?_
              obtain ⟨hi_3, hf⟩ := ck_s hf
              refine va_iast hx hb hK hP hD hS 0 0 rfl rfl hi_3 dX10_dropCrossing_40 (fun H locs hP hD hS => ?_)
              replace hP : va_P D vwCl [(a_p0, .inl (cyI, n_p0, .inl (upd f_p0_2 v2_2.toNatClampNeg 0)))] H := hP
              replace hD : va_D A [(a_p0, .inl (cyI, n_p0, .inl (upd f_p0_2 v2_2.toNatClampNeg 0)))] := hD
              refine lv_iinc (v := (v2_2 + 1)) (lv' := [(2, .int (v2_2 + 1)), (0, .ref a_p0)]) hx hb dX10_dropCrossing_41 hl (k := 1) rfl rfl (by decide) rfl (fun ls hl => ?_)
              refine lv_goto (tgt := 31) hx hb dX10_dropCrossing_44 (by decide) ?_
              exact ih_2 (v2_2 + 1) (upd f_p0_2 v2_2.toNatClampNeg 0) H locs ls hf hP hD hS (lv_sub hl [1, 0] rfl)
        exact hL_2 400 30 f_p0_1 H locs ls hf hP hD hS (lv_sub hl [1, 0] rfl)
      · replace hf := kt_n hf c_7
        refine lv_aload_n hx hb dX10_dropCrossing_14 rfl (lv_at hl 0 rfl) ?_
        refine lv_iload_n hx hb dX10_dropCrossing_15 rfl (lv_at hl 1 rfl) ?_
        refine lv_aload_n hx hb dX10_dropCrossing_16 rfl (lv_at hl 0 rfl) ?_
        refine lv_iload_n hx hb dX10_dropCrossing_17 rfl (lv_at hl 1 rfl) ?_
        refine lv_iconst (v := 4) hx hb dX10_dropCrossing_18 (by decide) ?_
        refine lv_iadd hx hb dX10_dropCrossing_19 ?_
        obtain ⟨hi_5, hf⟩ := ck_s hf
        refine va_iald hx hb hK hP 0 0 rfl rfl hi_5 dX10_dropCrossing_20 ?_
        obtain ⟨hi_6, hf⟩ := ck_s hf
        refine va_iast hx hb hK hP hD hS 0 0 rfl rfl hi_6 dX10_dropCrossing_21 (fun H locs hP hD hS => ?_)
        replace hP : va_P D vwCl [(a_p0, .inl (cyI, n_p0, .inl (upd f_p0_1 v2_1.toNatClampNeg (f_p0_1 (v2_1 + 4).toNatClampNeg))))] H := hP
        replace hD : va_D A [(a_p0, .inl (cyI, n_p0, .inl (upd f_p0_1 v2_1.toNatClampNeg (f_p0_1 (v2_1 + 4).toNatClampNeg))))] := hD
        refine lv_iinc (v := (v2_1 + 1)) (lv' := [(2, .int (v2_1 + 1)), (0, .ref a_p0)]) hx hb dX10_dropCrossing_22 hl (k := 1) rfl rfl (by decide) rfl (fun ls hl => ?_)
        refine lv_goto (tgt := 6) hx hb dX10_dropCrossing_25 (by decide) ?_
        exact ih_1 (v2_1 + 1) (upd f_p0_1 v2_1.toNatClampNeg (f_p0_1 (v2_1 + 4).toNatClampNeg)) H locs ls hf hP hD hS (lv_sub hl [1, 0] rfl)
  exact hL_1 400 (2 + (4 * v1)) f_p0 H locs ls hf hP hD hS (lv_sub hl [1, 0] rfl)
def kX10_beginDraft_L1 (f_now : Nat → Int32) (K_1 : Int32 → (Nat → Int32) → Option ((Nat → Int32))) (v1_1 : Int32) (f_draft_1 : Nat → Int32) : Option ((Nat → Int32)) :=
  if 34 ≤ v1_1 then some f_draft_1 else ck v1_1 34 (ck v1_1 34 (K_1 (v1_1 + 1) (upd f_draft_1 v1_1.toNatClampNeg (f_now v1_1.toNatClampNeg))))
def kX10_beginDraft (f_now : Nat → Int32) (f_draft : Nat → Int32) : Option ((Nat → Int32)) :=
  it2 (kX10_beginDraft_L1 f_now) 400 0 f_draft
def rmX10_beginDraft : Room := { frames := 0, cells := 0, slots := 0, locals := 0 }
theorem qX10_beginDraft_0 : (.fieldLink RX10 38 "KnotDiagramModel" "draft" "[I" : Cond) ∈ wsX10_beginDraft := by decide +kernel
theorem qX10_beginDraft_1 : (.fieldLink RX10 7 "KnotDiagramModel" "now" "[I" : Cond) ∈ wsX10_beginDraft := by decide +kernel
theorem qX10_beginDraft_X10 : ∀ w ∈ wsX100, w ∈ wsX10_beginDraft := by decide +kernel
set_option maxHeartbeats 4000000 in
set_option maxRecDepth 100000 in
theorem mX10_beginDraft (l : Launch) (D : va_G) (cyI cyZ : ClassId) (sz : Nat) (a_this a_now a_history a_kept a_isKept a_text a_read a_uses a_entry a_passed a_draft a_label a_met a_bracket a_matrix : Nat) (i_saved : Int32) (i_length : Int32) (i_next : Int32) (f_now : Nat → Int32) (f_draft : Nat → Int32) (o_draft : Nat → Int32) (hf : kX10_beginDraft f_now f_draft = some o_draft) : Met l yX10_beginDraft wsX10_beginDraft rmX10_beginDraft (kPre D cyI cyZ [.ref a_this] [(a_this, .inr (7, [.ref a_now, .ref a_history, .int i_saved, .ref a_kept, .ref a_isKept, .ref a_text, .int i_length, .int i_next, .ref a_read, .ref a_uses, .ref a_entry, .ref a_passed, .ref a_draft, .ref a_label, .ref a_met, .ref a_bracket, .ref a_matrix])), (a_now, .inl (cyI, 34, .inl f_now)), (a_draft, .inl (cyI, 34, .inl f_draft))] sz) (kQv D cyI cyZ (va_A [(a_this, .inr (7, [.ref a_now, .ref a_history, .int i_saved, .ref a_kept, .ref a_isKept, .ref a_text, .int i_length, .int i_next, .ref a_read, .ref a_uses, .ref a_entry, .ref a_passed, .ref a_draft, .ref a_label, .ref a_met, .ref a_bracket, .ref a_matrix])), (a_now, .inl (cyI, 34, .inl f_now)), (a_draft, .inl (cyI, 34, .inl f_draft))] sz) [(a_this, .inr (7, [.ref a_now, .ref a_history, .int i_saved, .ref a_kept, .ref a_isKept, .ref a_text, .int i_length, .int i_next, .ref a_read, .ref a_uses, .ref a_entry, .ref a_passed, .ref a_draft, .ref a_label, .ref a_met, .ref a_bracket, .ref a_matrix])), (a_now, .inl (cyI, 34, .inl f_now)), (a_draft, .inl (cyI, 34, .inl o_draft))]) 0 0 (va_A [(a_this, .inr (7, [.ref a_now, .ref a_history, .int i_saved, .ref a_kept, .ref a_isKept, .ref a_text, .int i_length, .int i_next, .ref a_read, .ref a_uses, .ref a_entry, .ref a_passed, .ref a_draft, .ref a_label, .ref a_met, .ref a_bracket, .ref a_matrix])), (a_now, .inl (cyI, 34, .inl f_now)), (a_draft, .inl (cyI, 34, .inl f_draft))] sz) := by
  refine Met.ofW (cc := cX10_beginDraft) (maxL := 2) (ret := none) (by decide) rfl ?_
  intro p e s m args below meth c s₁ B hml hv
  obtain ⟨rfl, hsz, hP, hK, hD0, hN⟩ := hv
  have hx := B.exec
  have hb := B.bytes
  have hr := B.returns
  have hts := atoms_spec (ws := wsX10_beginDraft) B.pre
  have hown : s.vm.findClass RX10 = some m.cls := findClass_of_methodNamed B.named
  have hlocks := B.notSynchronized
  subst hsz
  have hD := hD0.self (sz := s.heap.size)
  generalize hAe : va_A [(a_this, .inr (7, [.ref a_now, .ref a_history, .int i_saved, .ref a_kept, .ref a_isKept, .ref a_text, .int i_length, .int i_next, .ref a_read, .ref a_uses, .ref a_entry, .ref a_passed, .ref a_draft, .ref a_label, .ref a_met, .ref a_bracket, .ref a_matrix])), (a_now, .inl (cyI, 34, .inl f_now)), (a_draft, .inl (cyI, 34, .inl f_draft))] s.heap.size = A at hD ⊢
  have hA : ∀ q : Nat, s.heap.size ≤ q → A q := fun q h => by rw [← hAe]; exact Or.inr h
  clear hAe hD0
  have hS : va_S A s.heap s.heap [] := va_S.rf
  have S : CallFix p m c cX10_beginDraft 2 s (([.ref a_this] : List Value).toArray) wsX10_beginDraft RX10 := ⟨hx, hb, hml, hown, hts⟩
  have hl := lv_entry ([.ref a_this]) (n := 2) (Nat.le_of_ble_eq_true rfl)
  rw [lg_entry_eq]
  generalize (lg_sl ([.ref a_this]) ++ List.replicate (2 - (lg_sl ([.ref a_this])).length) Slot.unset).toArray = ls at hl ⊢
  replace hl : lv_has ls 2 [(0, .ref a_this)] := hl
  generalize ([] : List Loc) = locs at hS ⊢
  delta kX10_beginDraft at hf
  obtain ⟨H, hH⟩ : ∃ H, H = s.heap := ⟨_, rfl⟩
  have hS : va_S A s.heap H locs := by rw [hH]; exact hS
  have hP : va_P D vwCl [(a_this, .inr (7, [.ref a_now, .ref a_history, .int i_saved, .ref a_kept, .ref a_isKept, .ref a_text, .int i_length, .int i_next, .ref a_read, .ref a_uses, .ref a_entry, .ref a_passed, .ref a_draft, .ref a_label, .ref a_met, .ref a_bracket, .ref a_matrix])), (a_now, .inl (cyI, 34, .inl f_now)), (a_draft, .inl (cyI, 34, .inl f_draft))] H := by rw [hH]; exact hP
  suffices hgo : W p l e (headSpec wsX10_beginDraft rmX10_beginDraft).room s m (([.ref a_this] : List Value).toArray) below meth c H locs 0 0 (MQ below (kQv D cyI cyZ A [(a_this, .inr (7, [.ref a_now, .ref a_history, .int i_saved, .ref a_kept, .ref a_isKept, .ref a_text, .int i_length, .int i_next, .ref a_read, .ref a_uses, .ref a_entry, .ref a_passed, .ref a_draft, .ref a_label, .ref a_met, .ref a_bracket, .ref a_matrix])), (a_now, .inl (cyI, 34, .inl f_now)), (a_draft, .inl (cyI, 34, .inl o_draft))]) (([.ref a_this] : List Value).toArray) s 0 0 A) (F0 m 0 ls []) by rw [hH] at hgo; exact hgo
  clear hH
  refine lv_iconst (v := 0) hx hb dX10_beginDraft_0 (by decide) ?_
  refine lv_istore_n (lv' := [(1, .int 0), (0, .ref a_this)]) hx hb dX10_beginDraft_1 rfl hl (by decide) rfl (fun ls hl => ?_)
  have hL_1 : ∀ (n : Nat) (v1_1 : Int32) (f_draft_1 : Nat → Int32) (H : Heap) (locs : List Loc) (ls : Array Slot), it2 (kX10_beginDraft_L1 f_now) n v1_1 f_draft_1 = some o_draft → va_P D vwCl [(a_this, .inr (7, [.ref a_now, .ref a_history, .int i_saved, .ref a_kept, .ref a_isKept, .ref a_text, .int i_length, .int i_next, .ref a_read, .ref a_uses, .ref a_entry, .ref a_passed, .ref a_draft, .ref a_label, .ref a_met, .ref a_bracket, .ref a_matrix])), (a_now, .inl (cyI, 34, .inl f_now)), (a_draft, .inl (cyI, 34, .inl f_draft_1))] H → va_D A [(a_this, .inr (7, [.ref a_now, .ref a_history, .int i_saved, .ref a_kept, .ref a_isKept, .ref a_text, .int i_length, .int i_next, .ref a_read, .ref a_uses, .ref a_entry, .ref a_passed, .ref a_draft, .ref a_label, .ref a_met, .ref a_bracket, .ref a_matrix])), (a_now, .inl (cyI, 34, .inl f_now)), (a_draft, .inl (cyI, 34, .inl f_draft_1))] → va_S A s.heap H locs → lv_has ls 2 [(0, .ref a_this), (1, .int v1_1)] → W p l e (headSpec wsX10_beginDraft rmX10_beginDraft).room s m (([.ref a_this] : List Value).toArray) below meth c H locs 0 0 (MQ below (kQv D cyI cyZ A [(a_this, .inr (7, [.ref a_now, .ref a_history, .int i_saved, .ref a_kept, .ref a_isKept, .ref a_text, .int i_length, .int i_next, .ref a_read, .ref a_uses, .ref a_entry, .ref a_passed, .ref a_draft, .ref a_label, .ref a_met, .ref a_bracket, .ref a_matrix])), (a_now, .inl (cyI, 34, .inl f_now)), (a_draft, .inl (cyI, 34, .inl o_draft))]) (([.ref a_this] : List Value).toArray) s 0 0 A) (F0 m 2 ls []) := by
    intro n_1
    induction n_1 with
    | zero =>
      intro _ _ _ _ _ hf
      exact (it2_z hf).elim
    | succ n_1 ih_1 =>
      intro v1_1 f_draft_1 H locs ls hf hP hD hS hl
      replace hf := it2_s hf
      rw [kX10_beginDraft_L1] at hf
      refine lv_iload_n hx hb dX10_beginDraft_2 rfl (lv_at hl 1 rfl) ?_
      refine lv_bipush (v := 34) hx hb dX10_beginDraft_3 (by decide) ?_
      refine lv_icmp_ge (tgt := 26) hx hb dX10_beginDraft_5 (by decide) (fun c_3 => ?_) (fun c_3 => ?_)
      · replace hf := kt_p hf c_3
        obtain rfl := some1_s hf
        exact kRv hx hb hr hlocks hP hK hD hS dX10_beginDraft_26
      · replace hf := kt_n hf c_3
        refine lv_aload_n hx hb dX10_beginDraft_8 rfl (lv_at hl 0 rfl) ?_
        refine va_get (D := D) (ci := 7) (v := .ref a_draft) (C := RX10) (T := TX10) (N := 17) hx hb hts qX10_beginDraft_X10 hown hK hP 0 rfl rfl 12 (Nat.le_of_ble_eq_true rfl) (hts (.fieldLink RX10 38 "KnotDiagramModel" "draft" "[I") qX10_beginDraft_0) (fun _ h9 => h9) rfl dX10_beginDraft_9 ?_
        refine lv_iload_n hx hb dX10_beginDraft_12 rfl (lv_at hl 1 rfl) ?_
        refine lv_aload_n hx hb dX10_beginDraft_13 rfl (lv_at hl 0 rfl) ?_
        refine va_get (D := D) (ci := 7) (v := .ref a_now) (C := RX10) (T := TX10) (N := 17) hx hb hts qX10_beginDraft_X10 hown hK hP 0 rfl rfl 0 (Nat.le_of_ble_eq_true rfl) (hts (.fieldLink RX10 7 "KnotDiagramModel" "now" "[I") qX10_beginDraft_1) (fun _ h9 => h9) rfl dX10_beginDraft_14 ?_
        refine lv_iload_n hx hb dX10_beginDraft_17 rfl (lv_at hl 1 rfl) ?_
        obtain ⟨hi_1, hf⟩ := ck_s hf
        refine va_iald hx hb hK hP 1 0 rfl rfl hi_1 dX10_beginDraft_18 ?_
        obtain ⟨hi_2, hf⟩ := ck_s hf
        refine va_iast hx hb hK hP hD hS 2 0 rfl rfl hi_2 dX10_beginDraft_19 (fun H locs hP hD hS => ?_)
        replace hP : va_P D vwCl [(a_this, .inr (7, [.ref a_now, .ref a_history, .int i_saved, .ref a_kept, .ref a_isKept, .ref a_text, .int i_length, .int i_next, .ref a_read, .ref a_uses, .ref a_entry, .ref a_passed, .ref a_draft, .ref a_label, .ref a_met, .ref a_bracket, .ref a_matrix])), (a_now, .inl (cyI, 34, .inl f_now)), (a_draft, .inl (cyI, 34, .inl (upd f_draft_1 v1_1.toNatClampNeg (f_now v1_1.toNatClampNeg))))] H := hP
        replace hD : va_D A [(a_this, .inr (7, [.ref a_now, .ref a_history, .int i_saved, .ref a_kept, .ref a_isKept, .ref a_text, .int i_length, .int i_next, .ref a_read, .ref a_uses, .ref a_entry, .ref a_passed, .ref a_draft, .ref a_label, .ref a_met, .ref a_bracket, .ref a_matrix])), (a_now, .inl (cyI, 34, .inl f_now)), (a_draft, .inl (cyI, 34, .inl (upd f_draft_1 v1_1.toNatClampNeg (f_now v1_1.toNatClampNeg))))] := hD
        refine lv_iinc (v := (v1_1 + 1)) (lv' := [(1, .int (v1_1 + 1)), (0, .ref a_this)]) hx hb dX10_beginDraft_20 hl (k := 1) rfl rfl (by decide) rfl (fun ls hl => ?_)
        refine lv_goto (tgt := 2) hx hb dX10_beginDraft_23 (by decide) ?_
        exact ih_1 (v1_1 + 1) (upd f_draft_1 v1_1.toNatClampNeg (f_now v1_1.toNatClampNeg)) H locs ls hf hP hD hS (lv_sub hl [1, 0] rfl)
  exact hL_1 400 0 f_draft H locs ls hf hP hD hS (lv_sub hl [1, 0] rfl)
def kX10_finishDraft (i_saved : Int32) (f_now : Nat → Int32) (f_history : Nat → Int32) (f_draft : Nat → Int32) : Option (Int32 × Int32 × (Nat → Int32) × (Nat → Int32)) :=
  ck 1 34 (if (f_draft (1 : Int32).toNatClampNeg) ≤ 4 then bnd2 (kX10_remember i_saved f_now f_history) (fun o_saved_2 o_history_2 => bnd1 (kX10_become 34 0 f_now f_draft) (fun o_now_3 => bnd1 (kX10_crossings o_now_3) (fun r_4 => some (r_4, o_saved_2, o_now_3, o_history_2)))) else some ((-1000003), i_saved, f_now, f_history))
def rmX10_finishDraft : Room := { frames := 1, cells := 0, slots := 0, locals := 23 }
theorem qX10_finishDraft_0 : (.fieldLink RX10 38 "KnotDiagramModel" "draft" "[I" : Cond) ∈ wsX10_finishDraft := by decide +kernel
theorem qX10_finishDraft_1 : (.constant RX10 73 (-1000003) : Cond) ∈ wsX10_finishDraft := by decide +kernel
theorem qX10_finishDraft_X10 : ∀ w ∈ wsX100, w ∈ wsX10_finishDraft := by decide +kernel
set_option maxHeartbeats 4000000 in
set_option maxRecDepth 100000 in
theorem mX10_finishDraft (l : Launch) (D : va_G) (cyI cyZ : ClassId) (sz : Nat) (a_this a_now a_history a_kept a_isKept a_text a_read a_uses a_entry a_passed a_draft a_label a_met a_bracket a_matrix : Nat) (i_saved : Int32) (i_length : Int32) (i_next : Int32) (f_now : Nat → Int32) (f_history : Nat → Int32) (f_draft : Nat → Int32) (r : Int32) (o_saved : Int32) (o_now : Nat → Int32) (o_history : Nat → Int32) (hf : kX10_finishDraft i_saved f_now f_history f_draft = some (r, o_saved, o_now, o_history)) : Met l yX10_finishDraft wsX10_finishDraft rmX10_finishDraft (kPre D cyI cyZ [.ref a_this] [(a_this, .inr (7, [.ref a_now, .ref a_history, .int i_saved, .ref a_kept, .ref a_isKept, .ref a_text, .int i_length, .int i_next, .ref a_read, .ref a_uses, .ref a_entry, .ref a_passed, .ref a_draft, .ref a_label, .ref a_met, .ref a_bracket, .ref a_matrix])), (a_now, .inl (cyI, 34, .inl f_now)), (a_history, .inl (cyI, 272, .inl f_history)), (a_draft, .inl (cyI, 34, .inl f_draft))] sz) (kQi D cyI cyZ (va_A [(a_this, .inr (7, [.ref a_now, .ref a_history, .int i_saved, .ref a_kept, .ref a_isKept, .ref a_text, .int i_length, .int i_next, .ref a_read, .ref a_uses, .ref a_entry, .ref a_passed, .ref a_draft, .ref a_label, .ref a_met, .ref a_bracket, .ref a_matrix])), (a_now, .inl (cyI, 34, .inl f_now)), (a_history, .inl (cyI, 272, .inl f_history)), (a_draft, .inl (cyI, 34, .inl f_draft))] sz) [(a_this, .inr (7, [.ref a_now, .ref a_history, .int o_saved, .ref a_kept, .ref a_isKept, .ref a_text, .int i_length, .int i_next, .ref a_read, .ref a_uses, .ref a_entry, .ref a_passed, .ref a_draft, .ref a_label, .ref a_met, .ref a_bracket, .ref a_matrix])), (a_now, .inl (cyI, 34, .inl o_now)), (a_history, .inl (cyI, 272, .inl o_history)), (a_draft, .inl (cyI, 34, .inl f_draft))] r) 0 0 (va_A [(a_this, .inr (7, [.ref a_now, .ref a_history, .int i_saved, .ref a_kept, .ref a_isKept, .ref a_text, .int i_length, .int i_next, .ref a_read, .ref a_uses, .ref a_entry, .ref a_passed, .ref a_draft, .ref a_label, .ref a_met, .ref a_bracket, .ref a_matrix])), (a_now, .inl (cyI, 34, .inl f_now)), (a_history, .inl (cyI, 272, .inl f_history)), (a_draft, .inl (cyI, 34, .inl f_draft))] sz) := by
  refine Met.ofW (cc := cX10_finishDraft) (maxL := 1) (ret := (some .int)) (by decide) rfl ?_
  intro p e s m args below meth c s₁ B hml hv
  obtain ⟨rfl, hsz, hP, hK, hD0, hN⟩ := hv
  have hx := B.exec
  have hb := B.bytes
  have hr := B.returns
  have hts := atoms_spec (ws := wsX10_finishDraft) B.pre
  have hown : s.vm.findClass RX10 = some m.cls := findClass_of_methodNamed B.named
  have hlocks := B.notSynchronized
  subst hsz
  have hD := hD0.self (sz := s.heap.size)
  generalize hAe : va_A [(a_this, .inr (7, [.ref a_now, .ref a_history, .int i_saved, .ref a_kept, .ref a_isKept, .ref a_text, .int i_length, .int i_next, .ref a_read, .ref a_uses, .ref a_entry, .ref a_passed, .ref a_draft, .ref a_label, .ref a_met, .ref a_bracket, .ref a_matrix])), (a_now, .inl (cyI, 34, .inl f_now)), (a_history, .inl (cyI, 272, .inl f_history)), (a_draft, .inl (cyI, 34, .inl f_draft))] s.heap.size = A at hD ⊢
  have hA : ∀ q : Nat, s.heap.size ≤ q → A q := fun q h => by rw [← hAe]; exact Or.inr h
  clear hAe hD0
  have hS : va_S A s.heap s.heap [] := va_S.rf
  have S : CallFix p m c cX10_finishDraft 1 s (([.ref a_this] : List Value).toArray) wsX10_finishDraft RX10 := ⟨hx, hb, hml, hown, hts⟩
  have hl := lv_entry ([.ref a_this]) (n := 1) (Nat.le_of_ble_eq_true rfl)
  rw [lg_entry_eq]
  generalize (lg_sl ([.ref a_this]) ++ List.replicate (1 - (lg_sl ([.ref a_this])).length) Slot.unset).toArray = ls at hl ⊢
  replace hl : lv_has ls 1 [(0, .ref a_this)] := hl
  generalize ([] : List Loc) = locs at hS ⊢
  delta kX10_finishDraft at hf
  obtain ⟨H, hH⟩ : ∃ H, H = s.heap := ⟨_, rfl⟩
  have hS : va_S A s.heap H locs := by rw [hH]; exact hS
  have hP : va_P D vwCl [(a_this, .inr (7, [.ref a_now, .ref a_history, .int i_saved, .ref a_kept, .ref a_isKept, .ref a_text, .int i_length, .int i_next, .ref a_read, .ref a_uses, .ref a_entry, .ref a_passed, .ref a_draft, .ref a_label, .ref a_met, .ref a_bracket, .ref a_matrix])), (a_now, .inl (cyI, 34, .inl f_now)), (a_history, .inl (cyI, 272, .inl f_history)), (a_draft, .inl (cyI, 34, .inl f_draft))] H := by rw [hH]; exact hP
  suffices hgo : W p l e (headSpec wsX10_finishDraft rmX10_finishDraft).room s m (([.ref a_this] : List Value).toArray) below meth c H locs 0 0 (MQ below (kQi D cyI cyZ A [(a_this, .inr (7, [.ref a_now, .ref a_history, .int o_saved, .ref a_kept, .ref a_isKept, .ref a_text, .int i_length, .int i_next, .ref a_read, .ref a_uses, .ref a_entry, .ref a_passed, .ref a_draft, .ref a_label, .ref a_met, .ref a_bracket, .ref a_matrix])), (a_now, .inl (cyI, 34, .inl o_now)), (a_history, .inl (cyI, 272, .inl o_history)), (a_draft, .inl (cyI, 34, .inl f_draft))] r) (([.ref a_this] : List Value).toArray) s 0 0 A) (F0 m 0 ls []) by rw [hH] at hgo; exact hgo
  clear hH
  refine lv_aload_n hx hb dX10_finishDraft_0 rfl (lv_at hl 0 rfl) ?_
  refine va_get (D := D) (ci := 7) (v := .ref a_draft) (C := RX10) (T := TX10) (N := 17) hx hb hts qX10_finishDraft_X10 hown hK hP 0 rfl rfl 12 (Nat.le_of_ble_eq_true rfl) (hts (.fieldLink RX10 38 "KnotDiagramModel" "draft" "[I") qX10_finishDraft_0) (fun _ h9 => h9) rfl dX10_finishDraft_1 ?_
  refine lv_iconst (v := 1) hx hb dX10_finishDraft_4 (by decide) ?_
  obtain ⟨hi_1, hf⟩ := ck_s hf
  refine va_iald hx hb hK hP 3 0 rfl rfl hi_1 dX10_finishDraft_5 ?_
  refine lv_iconst (v := 4) hx hb dX10_finishDraft_6 (by decide) ?_
  refine lv_icmp_le (tgt := 13) hx hb dX10_finishDraft_7 (by decide) (fun c_5 => ?_) (fun c_5 => ?_)
  · replace hf := kt_p hf c_5
    refine lv_aload_n hx hb dX10_finishDraft_13 rfl (lv_at hl 0 rfl) ?_
    obtain ⟨o_saved_2, o_history_2, hc_2, hf⟩ := bnd2_s hf
    refine kcVv (As := []) (rest := []) (w2 := [(a_this, .inr (7, [.ref a_now, .ref a_history, .int o_saved_2, .ref a_kept, .ref a_isKept, .ref a_text, .int i_length, .int i_next, .ref a_read, .ref a_uses, .ref a_entry, .ref a_passed, .ref a_draft, .ref a_label, .ref a_met, .ref a_bracket, .ref a_matrix])), (a_now, .inl (cyI, 34, .inl f_now)), (a_history, .inl (cyI, 272, .inl o_history_2)), (a_draft, .inl (cyI, 34, .inl f_draft))]) S hK hP hD hS hA hN (mX10_remember l D cyI cyZ H.size a_this a_now a_history a_kept a_isKept a_text a_read a_uses a_entry a_passed a_draft a_label a_met a_bracket a_matrix i_saved i_length i_next f_now f_history o_saved_2 o_history_2 hc_2) (cwV 0 hts gX10_finishDraft_X10_remember rfl rfl rfl (by decide +kernel) ⟨Nat.le_of_ble_eq_true rfl, Nat.le_of_ble_eq_true rfl⟩) 7 0 rfl rfl [0, 1, 2] [3] [1, 2, 3, 0] rfl rfl rfl rfl (by decide) rfl rfl hl.1 (Nat.le_of_ble_eq_true rfl) dX10_finishDraft_14 ⟨Nat.le_of_ble_eq_true rfl, Nat.le_of_ble_eq_true rfl⟩ (fun H locs hP hD hS => ?_)
    refine lv_aload_n hx hb dX10_finishDraft_17 rfl (lv_at hl 0 rfl) ?_
    refine lv_aload_n hx hb dX10_finishDraft_18 rfl (lv_at hl 0 rfl) ?_
    refine va_get (D := D) (ci := 7) (v := .ref a_draft) (C := RX10) (T := TX10) (N := 17) hx hb hts qX10_finishDraft_X10 hown hK hP 0 rfl rfl 12 (Nat.le_of_ble_eq_true rfl) (hts (.fieldLink RX10 38 "KnotDiagramModel" "draft" "[I") qX10_finishDraft_0) (fun _ h9 => h9) rfl dX10_finishDraft_19 ?_
    refine lv_iconst (v := 0) hx hb dX10_finishDraft_22 (by decide) ?_
    obtain ⟨o_now_3, hc_3, hf⟩ := bnd1_s hf
    refine kcVv (As := [.ref a_draft, .int 0]) (rest := []) (w2 := [(a_this, .inr (7, [.ref a_now, .ref a_history, .int o_saved_2, .ref a_kept, .ref a_isKept, .ref a_text, .int i_length, .int i_next, .ref a_read, .ref a_uses, .ref a_entry, .ref a_passed, .ref a_draft, .ref a_label, .ref a_met, .ref a_bracket, .ref a_matrix])), (a_now, .inl (cyI, 34, .inl o_now_3)), (a_history, .inl (cyI, 272, .inl o_history_2)), (a_draft, .inl (cyI, 34, .inl f_draft))]) S hK hP hD hS hA hN (mX10_become l D cyI cyZ H.size a_this a_draft a_now a_history a_kept a_isKept a_text a_read a_uses a_entry a_passed a_draft a_label a_met a_bracket a_matrix 34 0 o_saved_2 i_length i_next f_now f_draft o_now_3 hc_3) (cwV 2 hts gX10_finishDraft_X10_become rfl rfl rfl (by decide +kernel) ⟨Nat.le_of_ble_eq_true rfl, Nat.le_of_ble_eq_true rfl⟩) 7 0 rfl rfl [0, 1, 3] [2] [1, 2, 0, 3] rfl rfl rfl rfl (by decide) rfl rfl hl.1 (Nat.le_of_ble_eq_true rfl) dX10_finishDraft_23 ⟨Nat.le_of_ble_eq_true rfl, Nat.le_of_ble_eq_true rfl⟩ (fun H locs hP hD hS => ?_)
    refine lv_aload_n hx hb dX10_finishDraft_26 rfl (lv_at hl 0 rfl) ?_
    obtain ⟨r_4, hc_4, hf⟩ := bnd1_s hf
    refine kcVi (As := []) (rest := []) (w2 := [(a_this, .inr (7, [.ref a_now, .ref a_history, .int o_saved_2, .ref a_kept, .ref a_isKept, .ref a_text, .int i_length, .int i_next, .ref a_read, .ref a_uses, .ref a_entry, .ref a_passed, .ref a_draft, .ref a_label, .ref a_met, .ref a_bracket, .ref a_matrix])), (a_now, .inl (cyI, 34, .inl o_now_3)), (a_history, .inl (cyI, 272, .inl o_history_2)), (a_draft, .inl (cyI, 34, .inl f_draft))]) S hK hP hD hS hA hN (mX10_crossings l D cyI cyZ H.size a_this a_now a_history a_kept a_isKept a_text a_read a_uses a_entry a_passed a_draft a_label a_met a_bracket a_matrix o_saved_2 i_length i_next o_now_3 r_4 hc_4) (cwV 0 hts gX10_finishDraft_X10_crossings rfl rfl rfl (by decide +kernel) ⟨Nat.le_of_ble_eq_true rfl, Nat.le_of_ble_eq_true rfl⟩) 7 0 rfl rfl [0, 1] [2, 3] [2, 3, 0, 1] rfl rfl rfl rfl (by decide) rfl rfl hl.1 (Nat.le_of_ble_eq_true rfl) dX10_finishDraft_27 ⟨Nat.le_of_ble_eq_true rfl, Nat.le_of_ble_eq_true rfl⟩ (fun H locs hP hD hS => ?_)
    obtain ⟨rfl, rfl, rfl, rfl⟩ := some4_s hf
    exact kRi hx hb hr hlocks hP hK hD hS rfl dX10_finishDraft_30
  · replace hf := kt_n hf c_5
    refine lv_ldc (v := (-1000003)) hx hb hown (hts (.constant RX10 73 (-1000003)) qX10_finishDraft_1) dX10_finishDraft_10 ?_
    obtain ⟨rfl, rfl, rfl, rfl⟩ := some4_s hf
    exact kRi hx hb hr hlocks hP hK hD hS rfl dX10_finishDraft_12
def kX10_removeKink (v1 : Int32) (i_saved : Int32) (f_now : Nat → Int32) (f_history : Nat → Int32) (f_draft : Nat → Int32) : Option (Int32 × Int32 × (Nat → Int32) × (Nat → Int32) × (Nat → Int32)) :=
  bnd1 (kX10_isCrossing v1 f_now) (fun r_1 => if r_1 = 0 then some ((-1000001), i_saved, f_now, f_history, f_draft) else bnd1 (kX10_kinkEnd v1 f_now) (fun r_2 => if 0 ≤ r_2 then bnd1 (kX10_beginDraft f_now f_draft) (fun o_draft_3 => ck 1 34 (bnd1 (kX10_turn r_2 2) (fun r_5 => ck (2 + r_5) 34 (bnd1 (kX10_turn r_2 3) (fun r_7 => ck (2 + r_7) 34 (bnd2 (kX10_join 34 (o_draft_3 (2 + r_5).toNatClampNeg) (o_draft_3 (2 + r_7).toNatClampNeg) o_draft_3) (fun r_9 o_p0_9 => ck 1 34 (bnd1 (kX10_dropCrossing 34 v1 (upd o_p0_9 (1 : Int32).toNatClampNeg ((o_draft_3 (1 : Int32).toNatClampNeg) + r_9))) (fun o_p0_11 => bnd4 (kX10_finishDraft i_saved f_now f_history o_p0_11) (fun r_12 o_saved_12 o_now_12 o_history_12 => some (r_12, o_saved_12, o_now_12, o_history_12, o_p0_11))))))))))) else some ((-1000002), i_saved, f_now, f_history, f_draft)))
def rmX10_removeKink : Room := { frames := 2, cells := 0, slots := 0, locals := 45 }
theorem qX10_removeKink_0 : (.fieldLink RX10 38 "KnotDiagramModel" "draft" "[I" : Cond) ∈ wsX10_removeKink := by decide +kernel
theorem qX10_removeKink_1 : (.constant RX10 133 (-1000002) : Cond) ∈ wsX10_removeKink := by decide +kernel
theorem qX10_removeKink_2 : (.constant RX10 68 (-1000001) : Cond) ∈ wsX10_removeKink := by decide +kernel
theorem qX10_removeKink_X10 : ∀ w ∈ wsX100, w ∈ wsX10_removeKink := by decide +kernel
set_option maxHeartbeats 4000000 in
set_option maxRecDepth 100000 in
theorem mX10_removeKink (l : Launch) (D : va_G) (cyI cyZ : ClassId) (sz : Nat) (a_this a_now a_history a_kept a_isKept a_text a_read a_uses a_entry a_passed a_draft a_label a_met a_bracket a_matrix : Nat) (v1 : Int32) (i_saved : Int32) (i_length : Int32) (i_next : Int32) (f_now : Nat → Int32) (f_history : Nat → Int32) (f_draft : Nat → Int32) (r : Int32) (o_saved : Int32) (o_now : Nat → Int32) (o_history : Nat → Int32) (o_draft : Nat → Int32) (hf : kX10_removeKink v1 i_saved f_now f_history f_draft = some (r, o_saved, o_now, o_history, o_draft)) : Met l yX10_removeKink wsX10_removeKink rmX10_removeKink (kPre D cyI cyZ [.ref a_this, .int v1] [(a_this, .inr (7, [.ref a_now, .ref a_history, .int i_saved, .ref a_kept, .ref a_isKept, .ref a_text, .int i_length, .int i_next, .ref a_read, .ref a_uses, .ref a_entry, .ref a_passed, .ref a_draft, .ref a_label, .ref a_met, .ref a_bracket, .ref a_matrix])), (a_now, .inl (cyI, 34, .inl f_now)), (a_history, .inl (cyI, 272, .inl f_history)), (a_draft, .inl (cyI, 34, .inl f_draft))] sz) (kQi D cyI cyZ (va_A [(a_this, .inr (7, [.ref a_now, .ref a_history, .int i_saved, .ref a_kept, .ref a_isKept, .ref a_text, .int i_length, .int i_next, .ref a_read, .ref a_uses, .ref a_entry, .ref a_passed, .ref a_draft, .ref a_label, .ref a_met, .ref a_bracket, .ref a_matrix])), (a_now, .inl (cyI, 34, .inl f_now)), (a_history, .inl (cyI, 272, .inl f_history)), (a_draft, .inl (cyI, 34, .inl f_draft))] sz) [(a_this, .inr (7, [.ref a_now, .ref a_history, .int o_saved, .ref a_kept, .ref a_isKept, .ref a_text, .int i_length, .int i_next, .ref a_read, .ref a_uses, .ref a_entry, .ref a_passed, .ref a_draft, .ref a_label, .ref a_met, .ref a_bracket, .ref a_matrix])), (a_now, .inl (cyI, 34, .inl o_now)), (a_history, .inl (cyI, 272, .inl o_history)), (a_draft, .inl (cyI, 34, .inl o_draft))] r) 0 0 (va_A [(a_this, .inr (7, [.ref a_now, .ref a_history, .int i_saved, .ref a_kept, .ref a_isKept, .ref a_text, .int i_length, .int i_next, .ref a_read, .ref a_uses, .ref a_entry, .ref a_passed, .ref a_draft, .ref a_label, .ref a_met, .ref a_bracket, .ref a_matrix])), (a_now, .inl (cyI, 34, .inl f_now)), (a_history, .inl (cyI, 272, .inl f_history)), (a_draft, .inl (cyI, 34, .inl f_draft))] sz) := by
  refine Met.ofW (cc := cX10_removeKink) (maxL := 3) (ret := (some .int)) (by decide) rfl ?_
  intro p e s m args below meth c s₁ B hml hv
  obtain ⟨rfl, hsz, hP, hK, hD0, hN⟩ := hv
  have hx := B.exec
  have hb := B.bytes
  have hr := B.returns
  have hts := atoms_spec (ws := wsX10_removeKink) B.pre
  have hown : s.vm.findClass RX10 = some m.cls := findClass_of_methodNamed B.named
  have hlocks := B.notSynchronized
  subst hsz
  have hD := hD0.self (sz := s.heap.size)
  generalize hAe : va_A [(a_this, .inr (7, [.ref a_now, .ref a_history, .int i_saved, .ref a_kept, .ref a_isKept, .ref a_text, .int i_length, .int i_next, .ref a_read, .ref a_uses, .ref a_entry, .ref a_passed, .ref a_draft, .ref a_label, .ref a_met, .ref a_bracket, .ref a_matrix])), (a_now, .inl (cyI, 34, .inl f_now)), (a_history, .inl (cyI, 272, .inl f_history)), (a_draft, .inl (cyI, 34, .inl f_draft))] s.heap.size = A at hD ⊢
  have hA : ∀ q : Nat, s.heap.size ≤ q → A q := fun q h => by rw [← hAe]; exact Or.inr h
  clear hAe hD0
  have hS : va_S A s.heap s.heap [] := va_S.rf
  have S : CallFix p m c cX10_removeKink 3 s (([.ref a_this, .int v1] : List Value).toArray) wsX10_removeKink RX10 := ⟨hx, hb, hml, hown, hts⟩
  have hl := lv_entry ([.ref a_this, .int v1]) (n := 3) (Nat.le_of_ble_eq_true rfl)
  rw [lg_entry_eq]
  generalize (lg_sl ([.ref a_this, .int v1]) ++ List.replicate (3 - (lg_sl ([.ref a_this, .int v1])).length) Slot.unset).toArray = ls at hl ⊢
  replace hl : lv_has ls 3 [(0, .ref a_this), (1, .int v1)] := hl
  generalize ([] : List Loc) = locs at hS ⊢
  delta kX10_removeKink at hf
  obtain ⟨H, hH⟩ : ∃ H, H = s.heap := ⟨_, rfl⟩
  have hS : va_S A s.heap H locs := by rw [hH]; exact hS
  have hP : va_P D vwCl [(a_this, .inr (7, [.ref a_now, .ref a_history, .int i_saved, .ref a_kept, .ref a_isKept, .ref a_text, .int i_length, .int i_next, .ref a_read, .ref a_uses, .ref a_entry, .ref a_passed, .ref a_draft, .ref a_label, .ref a_met, .ref a_bracket, .ref a_matrix])), (a_now, .inl (cyI, 34, .inl f_now)), (a_history, .inl (cyI, 272, .inl f_history)), (a_draft, .inl (cyI, 34, .inl f_draft))] H := by rw [hH]; exact hP
  suffices hgo : W p l e (headSpec wsX10_removeKink rmX10_removeKink).room s m (([.ref a_this, .int v1] : List Value).toArray) below meth c H locs 0 0 (MQ below (kQi D cyI cyZ A [(a_this, .inr (7, [.ref a_now, .ref a_history, .int o_saved, .ref a_kept, .ref a_isKept, .ref a_text, .int i_length, .int i_next, .ref a_read, .ref a_uses, .ref a_entry, .ref a_passed, .ref a_draft, .ref a_label, .ref a_met, .ref a_bracket, .ref a_matrix])), (a_now, .inl (cyI, 34, .inl o_now)), (a_history, .inl (cyI, 272, .inl o_history)), (a_draft, .inl (cyI, 34, .inl o_draft))] r) (([.ref a_this, .int v1] : List Value).toArray) s 0 0 A) (F0 m 0 ls []) by rw [hH] at hgo; exact hgo
  clear hH
  refine lv_aload_n hx hb dX10_removeKink_0 rfl (lv_at hl 0 rfl) ?_
  refine lv_iload_n hx hb dX10_removeKink_1 rfl (lv_at hl 1 rfl) ?_
  obtain ⟨r_1, hc_1, hf⟩ := bnd1_s hf
  refine kcVi (As := [.int v1]) (rest := []) (w2 := [(a_this, .inr (7, [.ref a_now, .ref a_history, .int i_saved, .ref a_kept, .ref a_isKept, .ref a_text, .int i_length, .int i_next, .ref a_read, .ref a_uses, .ref a_entry, .ref a_passed, .ref a_draft, .ref a_label, .ref a_met, .ref a_bracket, .ref a_matrix])), (a_now, .inl (cyI, 34, .inl f_now)), (a_history, .inl (cyI, 272, .inl f_history)), (a_draft, .inl (cyI, 34, .inl f_draft))]) S hK hP hD hS hA hN (mX10_isCrossing l D cyI cyZ H.size a_this a_now a_history a_kept a_isKept a_text a_read a_uses a_entry a_passed a_draft a_label a_met a_bracket a_matrix v1 i_saved i_length i_next f_now r_1 hc_1) (cwV 1 hts gX10_removeKink_X10_isCrossing rfl rfl rfl (by decide +kernel) ⟨Nat.le_of_ble_eq_true rfl, Nat.le_of_ble_eq_true rfl⟩) 7 0 rfl rfl [0, 1] [2, 3] [2, 3, 0, 1] rfl rfl rfl rfl (by decide) rfl rfl hl.1 (Nat.le_of_ble_eq_true rfl) dX10_removeKink_2 ⟨Nat.le_of_ble_eq_true rfl, Nat.le_of_ble_eq_true rfl⟩ (fun H locs hP hD hS => ?_)
  refine lv_if_ne (tgt := 11) hx hb dX10_removeKink_5 (by decide) (fun c_14 => ?_) (fun c_14 => ?_)
  · replace hf := kt_n hf c_14
    refine lv_aload_n hx hb dX10_removeKink_11 rfl (lv_at hl 0 rfl) ?_
    refine lv_iload_n hx hb dX10_removeKink_12 rfl (lv_at hl 1 rfl) ?_
    obtain ⟨r_2, hc_2, hf⟩ := bnd1_s hf
    refine kcVi (As := [.int v1]) (rest := []) (w2 := [(a_this, .inr (7, [.ref a_now, .ref a_history, .int i_saved, .ref a_kept, .ref a_isKept, .ref a_text, .int i_length, .int i_next, .ref a_read, .ref a_uses, .ref a_entry, .ref a_passed, .ref a_draft, .ref a_label, .ref a_met, .ref a_bracket, .ref a_matrix])), (a_now, .inl (cyI, 34, .inl f_now)), (a_history, .inl (cyI, 272, .inl f_history)), (a_draft, .inl (cyI, 34, .inl f_draft))]) S hK hP hD hS hA hN (mX10_kinkEnd l D cyI cyZ H.size a_this a_now a_history a_kept a_isKept a_text a_read a_uses a_entry a_passed a_draft a_label a_met a_bracket a_matrix v1 i_saved i_length i_next f_now r_2 hc_2) (cwV 1 hts gX10_removeKink_X10_kinkEnd rfl rfl rfl (by decide +kernel) ⟨Nat.le_of_ble_eq_true rfl, Nat.le_of_ble_eq_true rfl⟩) 7 0 rfl rfl [0, 1] [2, 3] [2, 3, 0, 1] rfl rfl rfl rfl (by decide) rfl rfl hl.1 (Nat.le_of_ble_eq_true rfl) dX10_removeKink_13 ⟨Nat.le_of_ble_eq_true rfl, Nat.le_of_ble_eq_true rfl⟩ (fun H locs hP hD hS => ?_)
    refine lv_istore_n (lv' := [(2, .int r_2), (0, .ref a_this), (1, .int v1)]) hx hb dX10_removeKink_16 rfl hl (by decide) rfl (fun ls hl => ?_)
    refine lv_iload_n hx hb dX10_removeKink_17 rfl (lv_at hl 0 rfl) ?_
    refine lv_if_ge (tgt := 24) hx hb dX10_removeKink_18 (by decide) (fun c_13 => ?_) (fun c_13 => ?_)
    · replace hf := kt_p hf c_13
      refine lv_aload_n hx hb dX10_removeKink_24 rfl (lv_at hl 1 rfl) ?_
      obtain ⟨o_draft_3, hc_3, hf⟩ := bnd1_s hf
      refine kcVv (As := []) (rest := []) (w2 := [(a_this, .inr (7, [.ref a_now, .ref a_history, .int i_saved, .ref a_kept, .ref a_isKept, .ref a_text, .int i_length, .int i_next, .ref a_read, .ref a_uses, .ref a_entry, .ref a_passed, .ref a_draft, .ref a_label, .ref a_met, .ref a_bracket, .ref a_matrix])), (a_now, .inl (cyI, 34, .inl f_now)), (a_history, .inl (cyI, 272, .inl f_history)), (a_draft, .inl (cyI, 34, .inl o_draft_3))]) S hK hP hD hS hA hN (mX10_beginDraft l D cyI cyZ H.size a_this a_now a_history a_kept a_isKept a_text a_read a_uses a_entry a_passed a_draft a_label a_met a_bracket a_matrix i_saved i_length i_next f_now f_draft o_draft_3 hc_3) (cwV 0 hts gX10_removeKink_X10_beginDraft rfl rfl rfl (by decide +kernel) ⟨Nat.le_of_ble_eq_true rfl, Nat.le_of_ble_eq_true rfl⟩) 7 0 rfl rfl [0, 1, 3] [2] [1, 2, 0, 3] rfl rfl rfl rfl (by decide) rfl rfl hl.1 (Nat.le_of_ble_eq_true rfl) dX10_removeKink_25 ⟨Nat.le_of_ble_eq_true rfl, Nat.le_of_ble_eq_true rfl⟩ (fun H locs hP hD hS => ?_)
      refine lv_aload_n hx hb dX10_removeKink_28 rfl (lv_at hl 1 rfl) ?_
      refine va_get (D := D) (ci := 7) (v := .ref a_draft) (C := RX10) (T := TX10) (N := 17) hx hb hts qX10_removeKink_X10 hown hK hP 0 rfl rfl 12 (Nat.le_of_ble_eq_true rfl) (hts (.fieldLink RX10 38 "KnotDiagramModel" "draft" "[I") qX10_removeKink_0) (fun _ h9 => h9) rfl dX10_removeKink_29 ?_
      refine lv_iconst (v := 1) hx hb dX10_removeKink_32 (by decide) ?_
      refine lv_dup2_11 hx hb dX10_removeKink_33 rfl rfl ?_
      obtain ⟨hi_4, hf⟩ := ck_s hf
      refine va_iald hx hb hK hP 3 0 rfl rfl hi_4 dX10_removeKink_34 ?_
      refine lv_aload_n hx hb dX10_removeKink_35 rfl (lv_at hl 1 rfl) ?_
      refine va_get (D := D) (ci := 7) (v := .ref a_draft) (C := RX10) (T := TX10) (N := 17) hx hb hts qX10_removeKink_X10 hown hK hP 0 rfl rfl 12 (Nat.le_of_ble_eq_true rfl) (hts (.fieldLink RX10 38 "KnotDiagramModel" "draft" "[I") qX10_removeKink_0) (fun _ h9 => h9) rfl dX10_removeKink_36 ?_
      refine lv_aload_n hx hb dX10_removeKink_39 rfl (lv_at hl 1 rfl) ?_
      refine va_get (D := D) (ci := 7) (v := .ref a_draft) (C := RX10) (T := TX10) (N := 17) hx hb hts qX10_removeKink_X10 hown hK hP 0 rfl rfl 12 (Nat.le_of_ble_eq_true rfl) (hts (.fieldLink RX10 38 "KnotDiagramModel" "draft" "[I") qX10_removeKink_0) (fun _ h9 => h9) rfl dX10_removeKink_40 ?_
      refine lv_iconst (v := 2) hx hb dX10_removeKink_43 (by decide) ?_
      refine lv_iload_n hx hb dX10_removeKink_44 rfl (lv_at hl 0 rfl) ?_
      refine lv_iconst (v := 2) hx hb dX10_removeKink_45 (by decide) ?_
      obtain ⟨r_5, hc_5, hf⟩ := bnd1_s hf
      refine kcSi (As := [.int r_2, .int 2]) (rest := [.int 2, .ref a_draft, .ref a_draft, .int (o_draft_3 (1 : Int32).toNatClampNeg), .int 1, .ref a_draft]) (w2 := [(a_this, .inr (7, [.ref a_now, .ref a_history, .int i_saved, .ref a_kept, .ref a_isKept, .ref a_text, .int i_length, .int i_next, .ref a_read, .ref a_uses, .ref a_entry, .ref a_passed, .ref a_draft, .ref a_label, .ref a_met, .ref a_bracket, .ref a_matrix])), (a_now, .inl (cyI, 34, .inl f_now)), (a_history, .inl (cyI, 272, .inl f_history)), (a_draft, .inl (cyI, 34, .inl o_draft_3))]) S hK hP hD hS hA hN (mX10_turn l D cyI cyZ H.size r_2 2 r_5 hc_5) (va_cwS 2 hts gX10_removeKink_X10_turn rfl rfl rfl (by decide +kernel) ⟨Nat.le_of_ble_eq_true rfl, Nat.le_of_ble_eq_true rfl⟩) [] [0, 1, 2, 3] [0, 1, 2, 3] rfl rfl rfl rfl (by decide) rfl rfl hl.1 (Nat.le_of_ble_eq_true rfl) dX10_removeKink_46 ⟨Nat.le_of_ble_eq_true rfl, Nat.le_of_ble_eq_true rfl⟩ (fun H locs hP hD hS => ?_)
      refine lv_iadd hx hb dX10_removeKink_49 ?_
      obtain ⟨hi_6, hf⟩ := ck_s hf
      refine va_iald hx hb hK hP 3 0 rfl rfl hi_6 dX10_removeKink_50 ?_
      refine lv_aload_n hx hb dX10_removeKink_51 rfl (lv_at hl 1 rfl) ?_
      refine va_get (D := D) (ci := 7) (v := .ref a_draft) (C := RX10) (T := TX10) (N := 17) hx hb hts qX10_removeKink_X10 hown hK hP 0 rfl rfl 12 (Nat.le_of_ble_eq_true rfl) (hts (.fieldLink RX10 38 "KnotDiagramModel" "draft" "[I") qX10_removeKink_0) (fun _ h9 => h9) rfl dX10_removeKink_52 ?_
      refine lv_iconst (v := 2) hx hb dX10_removeKink_55 (by decide) ?_
      refine lv_iload_n hx hb dX10_removeKink_56 rfl (lv_at hl 0 rfl) ?_
      refine lv_iconst (v := 3) hx hb dX10_removeKink_57 (by decide) ?_
      obtain ⟨r_7, hc_7, hf⟩ := bnd1_s hf
      refine kcSi (As := [.int r_2, .int 3]) (rest := [.int 2, .ref a_draft, .int (o_draft_3 (2 + r_5).toNatClampNeg), .ref a_draft, .int (o_draft_3 (1 : Int32).toNatClampNeg), .int 1, .ref a_draft]) (w2 := [(a_this, .inr (7, [.ref a_now, .ref a_history, .int i_saved, .ref a_kept, .ref a_isKept, .ref a_text, .int i_length, .int i_next, .ref a_read, .ref a_uses, .ref a_entry, .ref a_passed, .ref a_draft, .ref a_label, .ref a_met, .ref a_bracket, .ref a_matrix])), (a_now, .inl (cyI, 34, .inl f_now)), (a_history, .inl (cyI, 272, .inl f_history)), (a_draft, .inl (cyI, 34, .inl o_draft_3))]) S hK hP hD hS hA hN (mX10_turn l D cyI cyZ H.size r_2 3 r_7 hc_7) (va_cwS 2 hts gX10_removeKink_X10_turn rfl rfl rfl (by decide +kernel) ⟨Nat.le_of_ble_eq_true rfl, Nat.le_of_ble_eq_true rfl⟩) [] [0, 1, 2, 3] [0, 1, 2, 3] rfl rfl rfl rfl (by decide) rfl rfl hl.1 (Nat.le_of_ble_eq_true rfl) dX10_removeKink_58 ⟨Nat.le_of_ble_eq_true rfl, Nat.le_of_ble_eq_true rfl⟩ (fun H locs hP hD hS => ?_)
      refine lv_iadd hx hb dX10_removeKink_61 ?_
      obtain ⟨hi_8, hf⟩ := ck_s hf
      refine va_iald hx hb hK hP 3 0 rfl rfl hi_8 dX10_removeKink_62 ?_
      obtain ⟨r_9, o_p0_9, hc_9, hf⟩ := bnd2_s hf
      refine kcSi (As := [.ref a_draft, .int (o_draft_3 (2 + r_5).toNatClampNeg), .int (o_draft_3 (2 + r_7).toNatClampNeg)]) (rest := [.int (o_draft_3 (1 : Int32).toNatClampNeg), .int 1, .ref a_draft]) (w2 := [(a_this, .inr (7, [.ref a_now, .ref a_history, .int i_saved, .ref a_kept, .ref a_isKept, .ref a_text, .int i_length, .int i_next, .ref a_read, .ref a_uses, .ref a_entry, .ref a_passed, .ref a_draft, .ref a_label, .ref a_met, .ref a_bracket, .ref a_matrix])), (a_now, .inl (cyI, 34, .inl f_now)), (a_history, .inl (cyI, 272, .inl f_history)), (a_draft, .inl (cyI, 34, .inl o_p0_9))]) S hK hP hD hS hA hN (mX10_join l D cyI cyZ H.size a_draft 34 (o_draft_3 (2 + r_5).toNatClampNeg) (o_draft_3 (2 + r_7).toNatClampNeg) o_draft_3 r_9 o_p0_9 hc_9) (va_cwS 3 hts gX10_removeKink_X10_join rfl rfl rfl (by decide +kernel) ⟨Nat.le_of_ble_eq_true rfl, Nat.le_of_ble_eq_true rfl⟩) [3] [0, 1, 2] [0, 1, 2, 3] rfl rfl rfl rfl (by decide) rfl rfl hl.1 (Nat.le_of_ble_eq_true rfl) dX10_removeKink_63 ⟨Nat.le_of_ble_eq_true rfl, Nat.le_of_ble_eq_true rfl⟩ (fun H locs hP hD hS => ?_)
      refine lv_iadd hx hb dX10_removeKink_66 ?_
      obtain ⟨hi_10, hf⟩ := ck_s hf
      refine va_iast hx hb hK hP hD hS 3 0 rfl rfl hi_10 dX10_removeKink_67 (fun H locs hP hD hS => ?_)
      replace hP : va_P D vwCl [(a_this, .inr (7, [.ref a_now, .ref a_history, .int i_saved, .ref a_kept, .ref a_isKept, .ref a_text, .int i_length, .int i_next, .ref a_read, .ref a_uses, .ref a_entry, .ref a_passed, .ref a_draft, .ref a_label, .ref a_met, .ref a_bracket, .ref a_matrix])), (a_now, .inl (cyI, 34, .inl f_now)), (a_history, .inl (cyI, 272, .inl f_history)), (a_draft, .inl (cyI, 34, .inl (upd o_p0_9 (1 : Int32).toNatClampNeg ((o_draft_3 (1 : Int32).toNatClampNeg) + r_9))))] H := hP
      replace hD : va_D A [(a_this, .inr (7, [.ref a_now, .ref a_history, .int i_saved, .ref a_kept, .ref a_isKept, .ref a_text, .int i_length, .int i_next, .ref a_read, .ref a_uses, .ref a_entry, .ref a_passed, .ref a_draft, .ref a_label, .ref a_met, .ref a_bracket, .ref a_matrix])), (a_now, .inl (cyI, 34, .inl f_now)), (a_history, .inl (cyI, 272, .inl f_history)), (a_draft, .inl (cyI, 34, .inl (upd o_p0_9 (1 : Int32).toNatClampNeg ((o_draft_3 (1 : Int32).toNatClampNeg) + r_9))))] := hD
      refine lv_aload_n hx hb dX10_removeKink_68 rfl (lv_at hl 1 rfl) ?_
      refine va_get (D := D) (ci := 7) (v := .ref a_draft) (C := RX10) (T := TX10) (N := 17) hx hb hts qX10_removeKink_X10 hown hK hP 0 rfl rfl 12 (Nat.le_of_ble_eq_true rfl) (hts (.fieldLink RX10 38 "KnotDiagramModel" "draft" "[I") qX10_removeKink_0) (fun _ h9 => h9) rfl dX10_removeKink_69 ?_
      refine lv_iload_n hx hb dX10_removeKink_72 rfl (lv_at hl 2 rfl) ?_
      obtain ⟨o_p0_11, hc_11, hf⟩ := bnd1_s hf
      refine kcSv (As := [.ref a_draft, .int v1]) (rest := []) (w2 := [(a_this, .inr (7, [.ref a_now, .ref a_history, .int i_saved, .ref a_kept, .ref a_isKept, .ref a_text, .int i_length, .int i_next, .ref a_read, .ref a_uses, .ref a_entry, .ref a_passed, .ref a_draft, .ref a_label, .ref a_met, .ref a_bracket, .ref a_matrix])), (a_now, .inl (cyI, 34, .inl f_now)), (a_history, .inl (cyI, 272, .inl f_history)), (a_draft, .inl (cyI, 34, .inl o_p0_11))]) S hK hP hD hS hA hN (mX10_dropCrossing l D cyI cyZ H.size a_draft 34 v1 (upd o_p0_9 (1 : Int32).toNatClampNeg ((o_draft_3 (1 : Int32).toNatClampNeg) + r_9)) o_p0_11 hc_11) (va_cwS 2 hts gX10_removeKink_X10_dropCrossing rfl rfl rfl (by decide +kernel) ⟨Nat.le_of_ble_eq_true rfl, Nat.le_of_ble_eq_true rfl⟩) [3] [0, 1, 2] [0, 1, 2, 3] rfl rfl rfl rfl (by decide) rfl rfl hl.1 (Nat.le_of_ble_eq_true rfl) dX10_removeKink_73 ⟨Nat.le_of_ble_eq_true rfl, Nat.le_of_ble_eq_true rfl⟩ (fun H locs hP hD hS => ?_)
      refine lv_aload_n hx hb dX10_removeKink_76 rfl (lv_at hl 1 rfl) ?_
      obtain ⟨r_12, o_saved_12, o_now_12, o_history_12, hc_12, hf⟩ := bnd4_s hf
      refine kcVi (As := []) (rest := []) (w2 := [(a_this, .inr (7, [.ref a_now, .ref a_history, .int o_saved_12, .ref a_kept, .ref a_isKept, .ref a_text, .int i_length, .int i_next, .ref a_read, .ref a_uses, .ref a_entry, .ref a_passed, .ref a_draft, .ref a_label, .ref a_met, .ref a_bracket, .ref a_matrix])), (a_now, .inl (cyI, 34, .inl o_now_12)), (a_history, .inl (cyI, 272, .inl o_history_12)), (a_draft, .inl (cyI, 34, .inl o_p0_11))]) S hK hP hD hS hA hN (mX10_finishDraft l D cyI cyZ H.size a_this a_now a_history a_kept a_isKept a_text a_read a_uses a_entry a_passed a_draft a_label a_met a_bracket a_matrix i_saved i_length i_next f_now f_history o_p0_11 r_12 o_saved_12 o_now_12 o_history_12 hc_12) (cwV 0 hts gX10_removeKink_X10_finishDraft rfl rfl rfl (by decide +kernel) ⟨Nat.le_of_ble_eq_true rfl, Nat.le_of_ble_eq_true rfl⟩) 7 0 rfl rfl [0, 1, 2, 3] [] [0, 1, 2, 3] rfl rfl rfl rfl (by decide) rfl rfl hl.1 (Nat.le_of_ble_eq_true rfl) dX10_removeKink_77 ⟨Nat.le_of_ble_eq_true rfl, Nat.le_of_ble_eq_true rfl⟩ (fun H locs hP hD hS => ?_)
      obtain ⟨rfl, rfl, rfl, rfl, rfl⟩ := some5_s hf
      exact kRi hx hb hr hlocks hP hK hD hS rfl dX10_removeKink_80
    · replace hf := kt_n hf c_13
      refine lv_ldc (v := (-1000002)) hx hb hown (hts (.constant RX10 133 (-1000002)) qX10_removeKink_1) dX10_removeKink_21 ?_
      obtain ⟨rfl, rfl, rfl, rfl, rfl⟩ := some5_s hf
      exact kRi hx hb hr hlocks hP hK hD hS rfl dX10_removeKink_23
  · replace hf := kt_p hf c_14
    refine lv_ldc (v := (-1000001)) hx hb hown (hts (.constant RX10 68 (-1000001)) qX10_removeKink_2) dX10_removeKink_8 ?_
    obtain ⟨rfl, rfl, rfl, rfl, rfl⟩ := some5_s hf
    exact kRi hx hb hr hlocks hP hK hD hS rfl dX10_removeKink_10
def kX10_bigon_J2 (K_1 : Int32 → Int32 → Option (Int32)) (v3_1 : Int32) (v4_1 : Int32) (t0_2 : Int32) : Option (Int32) :=
  if t0_2 = 0 then K_1 v3_1 (v4_1 + (-1)) else K_1 v4_1 (v4_1 + (-1))
def kX10_bigon_J3 (K_1 : Int32 → Int32 → Option (Int32)) (v3_1 : Int32) (v4_1 : Int32)  : Option (Int32) :=
  kX10_bigon_J2 K_1 v3_1 v4_1 0
def kX10_bigon_L1 (v1 : Int32) (v2 : Int32) (f_now : Nat → Int32) (K_1 : Int32 → Int32 → Option (Int32)) (v3_1 : Int32) (v4_1 : Int32) : Option (Int32) :=
  if v4_1 < 0 then some v3_1 else if (irem (((4 * v1) + (v4_1 / 4)) + ((4 * v2) + (irem v4_1 4))) 2) = 1 then bnd1 (kX10_arc ((4 * v1) + (v4_1 / 4)) f_now) (fun r_2 => bnd1 (kX10_turn ((4 * v2) + (irem v4_1 4)) 1) (fun r_3 => bnd1 (kX10_arc r_3 f_now) (fun r_4 => if r_2 = r_4 then bnd1 (kX10_turn ((4 * v1) + (v4_1 / 4)) 1) (fun r_5 => bnd1 (kX10_arc r_5 f_now) (fun r_6 => bnd1 (kX10_arc ((4 * v2) + (irem v4_1 4)) f_now) (fun r_7 => if r_6 = r_7 then kX10_bigon_J2 K_1 v3_1 v4_1 1 else kX10_bigon_J3 K_1 v3_1 v4_1))) else kX10_bigon_J3 K_1 v3_1 v4_1))) else kX10_bigon_J3 K_1 v3_1 v4_1
def kX10_bigon (v1 : Int32) (v2 : Int32) (f_now : Nat → Int32) : Option (Int32) :=
  it2 (kX10_bigon_L1 v1 v2 f_now) 400 (-1) 15
def rmX10_bigon : Room := { frames := 1, cells := 0, slots := 0, locals := 21 }
set_option maxHeartbeats 4000000 in
set_option maxRecDepth 100000 in
theorem mX10_bigon (l : Launch) (D : va_G) (cyI cyZ : ClassId) (sz : Nat) (a_this a_now a_history a_kept a_isKept a_text a_read a_uses a_entry a_passed a_draft a_label a_met a_bracket a_matrix : Nat) (v1 : Int32) (v2 : Int32) (i_saved : Int32) (i_length : Int32) (i_next : Int32) (f_now : Nat → Int32) (r : Int32) (hf : kX10_bigon v1 v2 f_now = some r) : Met l yX10_bigon wsX10_bigon rmX10_bigon (kPre D cyI cyZ [.ref a_this, .int v1, .int v2] [(a_this, .inr (7, [.ref a_now, .ref a_history, .int i_saved, .ref a_kept, .ref a_isKept, .ref a_text, .int i_length, .int i_next, .ref a_read, .ref a_uses, .ref a_entry, .ref a_passed, .ref a_draft, .ref a_label, .ref a_met, .ref a_bracket, .ref a_matrix])), (a_now, .inl (cyI, 34, .inl f_now))] sz) (kQi D cyI cyZ (va_A [(a_this, .inr (7, [.ref a_now, .ref a_history, .int i_saved, .ref a_kept, .ref a_isKept, .ref a_text, .int i_length, .int i_next, .ref a_read, .ref a_uses, .ref a_entry, .ref a_passed, .ref a_draft, .ref a_label, .ref a_met, .ref a_bracket, .ref a_matrix])), (a_now, .inl (cyI, 34, .inl f_now))] sz) [(a_this, .inr (7, [.ref a_now, .ref a_history, .int i_saved, .ref a_kept, .ref a_isKept, .ref a_text, .int i_length, .int i_next, .ref a_read, .ref a_uses, .ref a_entry, .ref a_passed, .ref a_draft, .ref a_label, .ref a_met, .ref a_bracket, .ref a_matrix])), (a_now, .inl (cyI, 34, .inl f_now))] r) 0 0 (va_A [(a_this, .inr (7, [.ref a_now, .ref a_history, .int i_saved, .ref a_kept, .ref a_isKept, .ref a_text, .int i_length, .int i_next, .ref a_read, .ref a_uses, .ref a_entry, .ref a_passed, .ref a_draft, .ref a_label, .ref a_met, .ref a_bracket, .ref a_matrix])), (a_now, .inl (cyI, 34, .inl f_now))] sz) := by
  refine Met.ofW (cc := cX10_bigon) (maxL := 8) (ret := (some .int)) (by decide) rfl ?_
  intro p e s m args below meth c s₁ B hml hv
  obtain ⟨rfl, hsz, hP, hK, hD0, hN⟩ := hv
  have hx := B.exec
  have hb := B.bytes
  have hr := B.returns
  have hts := atoms_spec (ws := wsX10_bigon) B.pre
  have hown : s.vm.findClass RX10 = some m.cls := findClass_of_methodNamed B.named
  have hlocks := B.notSynchronized
  subst hsz
  have hD := hD0.self (sz := s.heap.size)
  generalize hAe : va_A [(a_this, .inr (7, [.ref a_now, .ref a_history, .int i_saved, .ref a_kept, .ref a_isKept, .ref a_text, .int i_length, .int i_next, .ref a_read, .ref a_uses, .ref a_entry, .ref a_passed, .ref a_draft, .ref a_label, .ref a_met, .ref a_bracket, .ref a_matrix])), (a_now, .inl (cyI, 34, .inl f_now))] s.heap.size = A at hD ⊢
  have hA : ∀ q : Nat, s.heap.size ≤ q → A q := fun q h => by rw [← hAe]; exact Or.inr h
  clear hAe hD0
  have hS : va_S A s.heap s.heap [] := va_S.rf
  have S : CallFix p m c cX10_bigon 8 s (([.ref a_this, .int v1, .int v2] : List Value).toArray) wsX10_bigon RX10 := ⟨hx, hb, hml, hown, hts⟩
  have hl := lv_entry ([.ref a_this, .int v1, .int v2]) (n := 8) (Nat.le_of_ble_eq_true rfl)
  rw [lg_entry_eq]
  generalize (lg_sl ([.ref a_this, .int v1, .int v2]) ++ List.replicate (8 - (lg_sl ([.ref a_this, .int v1, .int v2])).length) Slot.unset).toArray = ls at hl ⊢
  replace hl : lv_has ls 8 [(0, .ref a_this), (1, .int v1), (2, .int v2)] := hl
  generalize ([] : List Loc) = locs at hS ⊢
  delta kX10_bigon at hf
  obtain ⟨H, hH⟩ : ∃ H, H = s.heap := ⟨_, rfl⟩
  have hS : va_S A s.heap H locs := by rw [hH]; exact hS
  have hP : va_P D vwCl [(a_this, .inr (7, [.ref a_now, .ref a_history, .int i_saved, .ref a_kept, .ref a_isKept, .ref a_text, .int i_length, .int i_next, .ref a_read, .ref a_uses, .ref a_entry, .ref a_passed, .ref a_draft, .ref a_label, .ref a_met, .ref a_bracket, .ref a_matrix])), (a_now, .inl (cyI, 34, .inl f_now))] H := by rw [hH]; exact hP
  suffices hgo : W p l e (headSpec wsX10_bigon rmX10_bigon).room s m (([.ref a_this, .int v1, .int v2] : List Value).toArray) below meth c H locs 0 0 (MQ below (kQi D cyI cyZ A [(a_this, .inr (7, [.ref a_now, .ref a_history, .int i_saved, .ref a_kept, .ref a_isKept, .ref a_text, .int i_length, .int i_next, .ref a_read, .ref a_uses, .ref a_entry, .ref a_passed, .ref a_draft, .ref a_label, .ref a_met, .ref a_bracket, .ref a_matrix])), (a_now, .inl (cyI, 34, .inl f_now))] r) (([.ref a_this, .int v1, .int v2] : List Value).toArray) s 0 0 A) (F0 m 0 ls []) by rw [hH] at hgo; exact hgo
  clear hH
  refine lv_iconst (v := (-1)) hx hb dX10_bigon_0 (by decide) ?_
  refine lv_istore_n (lv' := [(3, .int (-1)), (0, .ref a_this), (1, .int v1), (2, .int v2)]) hx hb dX10_bigon_1 rfl hl (by decide) rfl (fun ls hl => ?_)
  refine lv_bipush (v := 15) hx hb dX10_bigon_2 (by decide) ?_
  refine lv_istore (lv' := [(4, .int 15), (3, .int (-1)), (0, .ref a_this), (1, .int v1), (2, .int v2)]) hx hb dX10_bigon_4 hl (by decide) rfl (fun ls hl => ?_)
  have hL_1 : ∀ (n : Nat) (v3_1 : Int32) (v4_1 : Int32) (H : Heap) (locs : List Loc) (ls : Array Slot), it2 (kX10_bigon_L1 v1 v2 f_now) n v3_1 v4_1 = some r → va_P D vwCl [(a_this, .inr (7, [.ref a_now, .ref a_history, .int i_saved, .ref a_kept, .ref a_isKept, .ref a_text, .int i_length, .int i_next, .ref a_read, .ref a_uses, .ref a_entry, .ref a_passed, .ref a_draft, .ref a_label, .ref a_met, .ref a_bracket, .ref a_matrix])), (a_now, .inl (cyI, 34, .inl f_now))] H → va_D A [(a_this, .inr (7, [.ref a_now, .ref a_history, .int i_saved, .ref a_kept, .ref a_isKept, .ref a_text, .int i_length, .int i_next, .ref a_read, .ref a_uses, .ref a_entry, .ref a_passed, .ref a_draft, .ref a_label, .ref a_met, .ref a_bracket, .ref a_matrix])), (a_now, .inl (cyI, 34, .inl f_now))] → va_S A s.heap H locs → lv_has ls 8 [(0, .ref a_this), (1, .int v1), (2, .int v2), (3, .int v3_1), (4, .int v4_1)] → W p l e (headSpec wsX10_bigon rmX10_bigon).room s m (([.ref a_this, .int v1, .int v2] : List Value).toArray) below meth c H locs 0 0 (MQ below (kQi D cyI cyZ A [(a_this, .inr (7, [.ref a_now, .ref a_history, .int i_saved, .ref a_kept, .ref a_isKept, .ref a_text, .int i_length, .int i_next, .ref a_read, .ref a_uses, .ref a_entry, .ref a_passed, .ref a_draft, .ref a_label, .ref a_met, .ref a_bracket, .ref a_matrix])), (a_now, .inl (cyI, 34, .inl f_now))] r) (([.ref a_this, .int v1, .int v2] : List Value).toArray) s 0 0 A) (F0 m 6 ls []) := by
    intro n_1
    induction n_1 with
    | zero =>
      intro _ _ _ _ _ hf
      exact (it2_z hf).elim
    | succ n_1 ih_1 =>
      intro v3_1 v4_1 H locs ls hf hP hD hS hl
      replace hf := it2_s hf
      rw [kX10_bigon_L1] at hf
      refine lv_iload hx hb dX10_bigon_6 (lv_at hl 4 rfl) ?_
      refine lv_if_lt (tgt := 105) hx hb dX10_bigon_8 (by decide) (fun c_11 => ?_) (fun c_11 => ?_)
      · replace hf := kt_p hf c_11
        refine lv_iload_n hx hb dX10_bigon_105 rfl (lv_at hl 3 rfl) ?_
        obtain rfl := some1_s hf
        exact kRi hx hb hr hlocks hP hK hD hS rfl dX10_bigon_106
      · replace hf := kt_n hf c_11
        refine lv_iconst (v := 4) hx hb dX10_bigon_11 (by decide) ?_
        refine lv_iload_n hx hb dX10_bigon_12 rfl (lv_at hl 1 rfl) ?_
        refine lv_imul hx hb dX10_bigon_13 ?_
        refine lv_iload hx hb dX10_bigon_14 (lv_at hl 4 rfl) ?_
        refine lv_iconst (v := 4) hx hb dX10_bigon_16 (by decide) ?_
        refine lv_idiv hx hb dX10_bigon_17 (by decide) ?_
        refine lv_iadd hx hb dX10_bigon_18 ?_
        refine lv_istore (lv' := [(5, .int ((4 * v1) + (v4_1 / 4))), (0, .ref a_this), (1, .int v1), (2, .int v2), (3, .int v3_1), (4, .int v4_1)]) hx hb dX10_bigon_19 hl (by decide) rfl (fun ls hl => ?_)
        refine lv_iconst (v := 4) hx hb dX10_bigon_21 (by decide) ?_
        refine lv_iload_n hx hb dX10_bigon_22 rfl (lv_at hl 3 rfl) ?_
        refine lv_imul hx hb dX10_bigon_23 ?_
        refine lv_iload hx hb dX10_bigon_24 (lv_at hl 5 rfl) ?_
        refine lv_iconst (v := 4) hx hb dX10_bigon_26 (by decide) ?_
        refine k_irem hx hb dX10_bigon_27 (by decide) ?_
        refine lv_iadd hx hb dX10_bigon_28 ?_
        refine lv_istore (lv' := [(6, .int ((4 * v2) + (irem v4_1 4))), (5, .int ((4 * v1) + (v4_1 / 4))), (0, .ref a_this), (1, .int v1), (2, .int v2), (3, .int v3_1), (4, .int v4_1)]) hx hb dX10_bigon_29 hl (by decide) rfl (fun ls hl => ?_)
        refine lv_iload hx hb dX10_bigon_31 (lv_at hl 1 rfl) ?_
        refine lv_iload hx hb dX10_bigon_33 (lv_at hl 0 rfl) ?_
        refine lv_iadd hx hb dX10_bigon_35 ?_
        refine lv_iconst (v := 2) hx hb dX10_bigon_36 (by decide) ?_
        refine k_irem hx hb dX10_bigon_37 (by decide) ?_
        refine lv_iconst (v := 1) hx hb dX10_bigon_38 (by decide) ?_
        have hJ_2 : ∀ (t0_2 : Int32) (H : Heap) (locs : List Loc) (ls : Array Slot), kX10_bigon_J2 (it2 (kX10_bigon_L1 v1 v2 f_now) n_1) v3_1 v4_1 t0_2 = some r → va_P D vwCl [(a_this, .inr (7, [.ref a_now, .ref a_history, .int i_saved, .ref a_kept, .ref a_isKept, .ref a_text, .int i_length, .int i_next, .ref a_read, .ref a_uses, .ref a_entry, .ref a_passed, .ref a_draft, .ref a_label, .ref a_met, .ref a_bracket, .ref a_matrix])), (a_now, .inl (cyI, 34, .inl f_now))] H → va_D A [(a_this, .inr (7, [.ref a_now, .ref a_history, .int i_saved, .ref a_kept, .ref a_isKept, .ref a_text, .int i_length, .int i_next, .ref a_read, .ref a_uses, .ref a_entry, .ref a_passed, .ref a_draft, .ref a_label, .ref a_met, .ref a_bracket, .ref a_matrix])), (a_now, .inl (cyI, 34, .inl f_now))] → va_S A s.heap H locs → lv_has ls 8 [(0, .ref a_this), (1, .int v1), (2, .int v2), (3, .int v3_1), (4, .int v4_1)] → W p l e (headSpec wsX10_bigon rmX10_bigon).room s m (([.ref a_this, .int v1, .int v2] : List Value).toArray) below meth c H locs 0 0 (MQ below (kQi D cyI cyZ A [(a_this, .inr (7, [.ref a_now, .ref a_history, .int i_saved, .ref a_kept, .ref a_isKept, .ref a_text, .int i_length, .int i_next, .ref a_read, .ref a_uses, .ref a_entry, .ref a_passed, .ref a_draft, .ref a_label, .ref a_met, .ref a_bracket, .ref a_matrix])), (a_now, .inl (cyI, 34, .inl f_now))] r) (([.ref a_this, .int v1, .int v2] : List Value).toArray) s 0 0 A) (F0 m 85 ls [.int t0_2]) := by
          intro t0_2 H locs ls hf hP hD hS hl
          delta kX10_bigon_J2 at hf
          refine lv_istore (lv' := [(7, .int t0_2), (0, .ref a_this), (1, .int v1), (2, .int v2), (3, .int v3_1), (4, .int v4_1)]) hx hb dX10_bigon_85 hl (by decide) rfl (fun ls hl => ?_)
          refine lv_iload hx hb dX10_bigon_87 (lv_at hl 0 rfl) ?_
          refine lv_if_eq (tgt := 97) hx hb dX10_bigon_89 (by decide) (fun c_1 => ?_) (fun c_1 => ?_)
          · replace hf := kt_p hf c_1
            refine lv_iload_n hx hb dX10_bigon_97 rfl (lv_at hl 4 rfl) ?_
            refine lv_istore_n (lv' := [(3, .int v3_1), (7, .int t0_2), (0, .ref a_this), (1, .int v1), (2, .int v2), (4, .int v4_1)]) hx hb dX10_bigon_98 rfl hl (by decide) rfl (fun ls hl => ?_)
            refine lv_iinc (v := (v4_1 + (-1))) (lv' := [(4, .int (v4_1 + (-1))), (3, .int v3_1), (7, .int t0_2), (0, .ref a_this), (1, .int v1), (2, .int v2)]) hx hb dX10_bigon_99 hl (k := 5) rfl rfl (by decide) rfl (fun ls hl => ?_)
            refine lv_goto (tgt := 6) hx hb dX10_bigon_102 (by decide) ?_
            exact ih_1 v3_1 (v4_1 + (-1)) H locs ls hf hP hD hS (lv_sub hl [3, 4, 5, 1, 0] rfl)
          · replace hf := kt_n hf c_1
            refine lv_iload hx hb dX10_bigon_92 (lv_at hl 5 rfl) ?_
            refine lv_goto (tgt := 98) hx hb dX10_bigon_94 (by decide) ?_
            refine lv_istore_n (lv' := [(3, .int v4_1), (7, .int t0_2), (0, .ref a_this), (1, .int v1), (2, .int v2), (4, .int v4_1)]) hx hb dX10_bigon_98 rfl hl (by decide) rfl (fun ls hl => ?_)
            refine lv_iinc (v := (v4_1 + (-1))) (lv' := [(4, .int (v4_1 + (-1))), (3, .int v4_1), (7, .int t0_2), (0, .ref a_this), (1, .int v1), (2, .int v2)]) hx hb dX10_bigon_99 hl (k := 5) rfl rfl (by decide) rfl (fun ls hl => ?_)
            refine lv_goto (tgt := 6) hx hb dX10_bigon_102 (by decide) ?_
            exact ih_1 v4_1 (v4_1 + (-1)) H locs ls hf hP hD hS (lv_sub hl [3, 4, 5, 1, 0] rfl)
        have hJ_3 : ∀  (H : Heap) (locs : List Loc) (ls : Array Slot), kX10_bigon_J3 (it2 (kX10_bigon_L1 v1 v2 f_now) n_1) v3_1 v4_1  = some r → va_P D vwCl [(a_this, .inr (7, [.ref a_now, .ref a_history, .int i_saved, .ref a_kept, .ref a_isKept, .ref a_text, .int i_length, .int i_next, .ref a_read, .ref a_uses, .ref a_entry, .ref a_passed, .ref a_draft, .ref a_label, .ref a_met, .ref a_bracket, .ref a_matrix])), (a_now, .inl (cyI, 34, .inl f_now))] H → va_D A [(a_this, .inr (7, [.ref a_now, .ref a_history, .int i_saved, .ref a_kept, .ref a_isKept, .ref a_text, .int i_length, .int i_next, .ref a_read, .ref a_uses, .ref a_entry, .ref a_passed, .ref a_draft, .ref a_label, .ref a_met, .ref a_bracket, .ref a_matrix])), (a_now, .inl (cyI, 34, .inl f_now))] → va_S A s.heap H locs → lv_has ls 8 [(0, .ref a_this), (1, .int v1), (2, .int v2), (3, .int v3_1), (4, .int v4_1)] → W p l e (headSpec wsX10_bigon rmX10_bigon).room s m (([.ref a_this, .int v1, .int v2] : List Value).toArray) below meth c H locs 0 0 (MQ below (kQi D cyI cyZ A [(a_this, .inr (7, [.ref a_now, .ref a_history, .int i_saved, .ref a_kept, .ref a_isKept, .ref a_text, .int i_length, .int i_next, .ref a_read, .ref a_uses, .ref a_entry, .ref a_passed, .ref a_draft, .ref a_label, .ref a_met, .ref a_bracket, .ref a_matrix])), (a_now, .inl (cyI, 34, .inl f_now))] r) (([.ref a_this, .int v1, .int v2] : List Value).toArray) s 0 0 A) (F0 m 84 ls []) := by
          intro  H locs ls hf hP hD hS hl
          delta kX10_bigon_J3 at hf
          refine lv_iconst (v := 0) hx hb dX10_bigon_84 (by decide) ?_
          exact hJ_2 0 H locs ls hf hP hD hS (lv_sub hl [0, 1, 2, 3, 4] rfl)
        refine lv_icmp_ne (tgt := 84) hx hb dX10_bigon_39 (by decide) (fun c_10 => ?_) (fun c_10 => ?_)
        · replace hf := kt_n hf c_10
          exact hJ_3 H locs ls hf hP hD hS (lv_sub hl [2, 3, 4, 5, 6] rfl)
        · replace hf := kt_p hf c_10
          refine lv_aload_n hx hb dX10_bigon_42 rfl (lv_at hl 2 rfl) ?_
          refine lv_iload hx hb dX10_bigon_43 (lv_at hl 1 rfl) ?_
          obtain ⟨r_2, hc_2, hf⟩ := bnd1_s hf
          refine kcVi (As := [.int ((4 * v1) + (v4_1 / 4))]) (rest := []) (w2 := [(a_this, .inr (7, [.ref a_now, .ref a_history, .int i_saved, .ref a_kept, .ref a_isKept, .ref a_text, .int i_length, .int i_next, .ref a_read, .ref a_uses, .ref a_entry, .ref a_passed, .ref a_draft, .ref a_label, .ref a_met, .ref a_bracket, .ref a_matrix])), (a_now, .inl (cyI, 34, .inl f_now))]) S hK hP hD hS hA hN (mX10_arc l D cyI cyZ H.size a_this a_now a_history a_kept a_isKept a_text a_read a_uses a_entry a_passed a_draft a_label a_met a_bracket a_matrix ((4 * v1) + (v4_1 / 4)) i_saved i_length i_next f_now r_2 hc_2) (cwV 1 hts gX10_bigon_X10_arc rfl rfl rfl (by decide +kernel) ⟨Nat.le_of_ble_eq_true rfl, Nat.le_of_ble_eq_true rfl⟩) 7 0 rfl rfl [0, 1] [] [0, 1] rfl rfl rfl rfl (by decide) rfl rfl hl.1 (Nat.le_of_ble_eq_true rfl) dX10_bigon_45 ⟨Nat.le_of_ble_eq_true rfl, Nat.le_of_ble_eq_true rfl⟩ (fun H locs hP hD hS => ?_)
          refine lv_aload_n hx hb dX10_bigon_48 rfl (lv_at hl 2 rfl) ?_
          refine lv_iload hx hb dX10_bigon_49 (lv_at hl 0 rfl) ?_
          refine lv_iconst (v := 1) hx hb dX10_bigon_51 (by decide) ?_
          obtain ⟨r_3, hc_3, hf⟩ := bnd1_s hf
          refine kcSi (As := [.int ((4 * v2) + (irem v4_1 4)), .int 1]) (rest := [.ref a_this, .int r_2]) (w2 := [(a_this, .inr (7, [.ref a_now, .ref a_history, .int i_saved, .ref a_kept, .ref a_isKept, .ref a_text, .int i_length, .int i_next, .ref a_read, .ref a_uses, .ref a_entry, .ref a_passed, .ref a_draft, .ref a_label, .ref a_met, .ref a_bracket, .ref a_matrix])), (a_now, .inl (cyI, 34, .inl f_now))]) S hK hP hD hS hA hN (mX10_turn l D cyI cyZ H.size ((4 * v2) + (irem v4_1 4)) 1 r_3 hc_3) (va_cwS 2 hts gX10_bigon_X10_turn rfl rfl rfl (by decide +kernel) ⟨Nat.le_of_ble_eq_true rfl, Nat.le_of_ble_eq_true rfl⟩) [] [0, 1] [0, 1] rfl rfl rfl rfl (by decide) rfl rfl hl.1 (Nat.le_of_ble_eq_true rfl) dX10_bigon_52 ⟨Nat.le_of_ble_eq_true rfl, Nat.le_of_ble_eq_true rfl⟩ (fun H locs hP hD hS => ?_)
          obtain ⟨r_4, hc_4, hf⟩ := bnd1_s hf
          refine kcVi (As := [.int r_3]) (rest := [.int r_2]) (w2 := [(a_this, .inr (7, [.ref a_now, .ref a_history, .int i_saved, .ref a_kept, .ref a_isKept, .ref a_text, .int i_length, .int i_next, .ref a_read, .ref a_uses, .ref a_entry, .ref a_passed, .ref a_draft, .ref a_label, .ref a_met, .ref a_bracket, .ref a_matrix])), (a_now, .inl (cyI, 34, .inl f_now))]) S hK hP hD hS hA hN (mX10_arc l D cyI cyZ H.size a_this a_now a_history a_kept a_isKept a_text a_read a_uses a_entry a_passed a_draft a_label a_met a_bracket a_matrix r_3 i_saved i_length i_next f_now r_4 hc_4) (cwV 1 hts gX10_bigon_X10_arc rfl rfl rfl (by decide +kernel) ⟨Nat.le_of_ble_eq_true rfl, Nat.le_of_ble_eq_true rfl⟩) 7 0 rfl rfl [0, 1] [] [0, 1] rfl rfl rfl rfl (by decide) rfl rfl hl.1 (Nat.le_of_ble_eq_true rfl) dX10_bigon_55 ⟨Nat.le_of_ble_eq_true rfl, Nat.le_of_ble_eq_true rfl⟩ (fun H locs hP hD hS => ?_)
          refine lv_icmp_ne (tgt := 84) hx hb dX10_bigon_58 (by decide) (fun c_9 => ?_) (fun c_9 => ?_)
          · replace hf := kt_n hf c_9
            exact hJ_3 H locs ls hf hP hD hS (lv_sub hl [2, 3, 4, 5, 6] rfl)
          · replace hf := kt_p hf c_9
            refine lv_aload_n hx hb dX10_bigon_61 rfl (lv_at hl 2 rfl) ?_
            refine lv_iload hx hb dX10_bigon_62 (lv_at hl 1 rfl) ?_
            refine lv_iconst (v := 1) hx hb dX10_bigon_64 (by decide) ?_
            obtain ⟨r_5, hc_5, hf⟩ := bnd1_s hf
            refine kcSi (As := [.int ((4 * v1) + (v4_1 / 4)), .int 1]) (rest := [.ref a_this]) (w2 := [(a_this, .inr (7, [.ref a_now, .ref a_history, .int i_saved, .ref a_kept, .ref a_isKept, .ref a_text, .int i_length, .int i_next, .ref a_read, .ref a_uses, .ref a_entry, .ref a_passed, .ref a_draft, .ref a_label, .ref a_met, .ref a_bracket, .ref a_matrix])), (a_now, .inl (cyI, 34, .inl f_now))]) S hK hP hD hS hA hN (mX10_turn l D cyI cyZ H.size ((4 * v1) + (v4_1 / 4)) 1 r_5 hc_5) (va_cwS 2 hts gX10_bigon_X10_turn rfl rfl rfl (by decide +kernel) ⟨Nat.le_of_ble_eq_true rfl, Nat.le_of_ble_eq_true rfl⟩) [] [0, 1] [0, 1] rfl rfl rfl rfl (by decide) rfl rfl hl.1 (Nat.le_of_ble_eq_true rfl) dX10_bigon_65 ⟨Nat.le_of_ble_eq_true rfl, Nat.le_of_ble_eq_true rfl⟩ (fun H locs hP hD hS => ?_)
            obtain ⟨r_6, hc_6, hf⟩ := bnd1_s hf
            refine kcVi (As := [.int r_5]) (rest := []) (w2 := [(a_this, .inr (7, [.ref a_now, .ref a_history, .int i_saved, .ref a_kept, .ref a_isKept, .ref a_text, .int i_length, .int i_next, .ref a_read, .ref a_uses, .ref a_entry, .ref a_passed, .ref a_draft, .ref a_label, .ref a_met, .ref a_bracket, .ref a_matrix])), (a_now, .inl (cyI, 34, .inl f_now))]) S hK hP hD hS hA hN (mX10_arc l D cyI cyZ H.size a_this a_now a_history a_kept a_isKept a_text a_read a_uses a_entry a_passed a_draft a_label a_met a_bracket a_matrix r_5 i_saved i_length i_next f_now r_6 hc_6) (cwV 1 hts gX10_bigon_X10_arc rfl rfl rfl (by decide +kernel) ⟨Nat.le_of_ble_eq_true rfl, Nat.le_of_ble_eq_true rfl⟩) 7 0 rfl rfl [0, 1] [] [0, 1] rfl rfl rfl rfl (by decide) rfl rfl hl.1 (Nat.le_of_ble_eq_true rfl) dX10_bigon_68 ⟨Nat.le_of_ble_eq_true rfl, Nat.le_of_ble_eq_true rfl⟩ (fun H locs hP hD hS => ?_)
            refine lv_aload_n hx hb dX10_bigon_71 rfl (lv_at hl 2 rfl) ?_
            refine lv_iload hx hb dX10_bigon_72 (lv_at hl 0 rfl) ?_
            obtain ⟨r_7, hc_7, hf⟩ := bnd1_s hf
            refine kcVi (As := [.int ((4 * v2) + (irem v4_1 4))]) (rest := [.int r_6]) (w2 := [(a_this, .inr (7, [.ref a_now, .ref a_history, .int i_saved, .ref a_kept, .ref a_isKept, .ref a_text, .int i_length, .int i_next, .ref a_read, .ref a_uses, .ref a_entry, .ref a_passed, .ref a_draft, .ref a_label, .ref a_met, .ref a_bracket, .ref a_matrix])), (a_now, .inl (cyI, 34, .inl f_now))]) S hK hP hD hS hA hN (mX10_arc l D cyI cyZ H.size a_this a_now a_history a_kept a_isKept a_text a_read a_uses a_entry a_passed a_draft a_label a_met a_bracket a_matrix ((4 * v2) + (irem v4_1 4)) i_saved i_length i_next f_now r_7 hc_7) (cwV 1 hts gX10_bigon_X10_arc rfl rfl rfl (by decide +kernel) ⟨Nat.le_of_ble_eq_true rfl, Nat.le_of_ble_eq_true rfl⟩) 7 0 rfl rfl [0, 1] [] [0, 1] rfl rfl rfl rfl (by decide) rfl rfl hl.1 (Nat.le_of_ble_eq_true rfl) dX10_bigon_74 ⟨Nat.le_of_ble_eq_true rfl, Nat.le_of_ble_eq_true rfl⟩ (fun H locs hP hD hS => ?_)
            refine lv_icmp_ne (tgt := 84) hx hb dX10_bigon_77 (by decide) (fun c_8 => ?_) (fun c_8 => ?_)
            · replace hf := kt_n hf c_8
              exact hJ_3 H locs ls hf hP hD hS (lv_sub hl [2, 3, 4, 5, 6] rfl)
            · replace hf := kt_p hf c_8
              refine lv_iconst (v := 1) hx hb dX10_bigon_80 (by decide) ?_
              refine lv_goto (tgt := 85) hx hb dX10_bigon_81 (by decide) ?_
              exact hJ_2 1 H locs ls hf hP hD hS (lv_sub hl [2, 3, 4, 5, 6] rfl)
  exact hL_1 400 (-1) 15 H locs ls hf hP hD hS (lv_sub hl [2, 3, 4, 1, 0] rfl)
def kX10_removeBigon_J2 (o_p0_19 : Nat → Int32) (i_saved : Int32) (f_now : Nat → Int32) (f_history : Nat → Int32) (t1_2 : Int32) : Option (Int32 × Int32 × (Nat → Int32) × (Nat → Int32) × (Nat → Int32)) :=
  bnd1 (kX10_dropCrossing 34 t1_2 o_p0_19) (fun o_p0_20 => bnd4 (kX10_finishDraft i_saved f_now f_history o_p0_20) (fun r_21 o_saved_21 o_now_21 o_history_21 => some (r_21, o_saved_21, o_now_21, o_history_21, o_p0_20)))
def kX10_removeBigon_J1 (o_p0_17 : Nat → Int32) (o_p0_10 : Nat → Int32) (o_draft_4 : Nat → Int32) (r_10 : Int32) (r_17 : Int32) (v1 : Int32) (v2 : Int32) (i_saved : Int32) (f_now : Nat → Int32) (f_history : Nat → Int32) (t1_1 : Int32) : Option (Int32 × Int32 × (Nat → Int32) × (Nat → Int32) × (Nat → Int32)) :=
  bnd1 (kX10_dropCrossing 34 t1_1 (upd o_p0_17 (1 : Int32).toNatClampNeg (((upd o_p0_10 (1 : Int32).toNatClampNeg ((o_draft_4 (1 : Int32).toNatClampNeg) + r_10)) (1 : Int32).toNatClampNeg) + r_17))) (fun o_p0_19 => if v1 ≤ v2 then kX10_removeBigon_J2 o_p0_19 i_saved f_now f_history v1 else kX10_removeBigon_J2 o_p0_19 i_saved f_now f_history v2)
def kX10_removeBigon (v1 : Int32) (v2 : Int32) (i_saved : Int32) (f_now : Nat → Int32) (f_history : Nat → Int32) (f_draft : Nat → Int32) : Option (Int32 × Int32 × (Nat → Int32) × (Nat → Int32) × (Nat → Int32)) :=
  bnd1 (kX10_isCrossing v1 f_now) (fun r_1 => if r_1 = 0 then some ((-1000001), i_saved, f_now, f_history, f_draft) else bnd1 (kX10_isCrossing v2 f_now) (fun r_2 => if r_2 = 0 then some ((-1000001), i_saved, f_now, f_history, f_draft) else if v1 = v2 then some ((-1000001), i_saved, f_now, f_history, f_draft) else bnd1 (kX10_bigon v1 v2 f_now) (fun r_3 => if 0 ≤ r_3 then bnd1 (kX10_beginDraft f_now f_draft) (fun o_draft_4 => ck 1 34 (bnd1 (kX10_turn ((4 * v1) + (r_3 / 4)) 2) (fun r_6 => ck (2 + r_6) 34 (bnd1 (kX10_turn ((4 * v2) + (irem r_3 4)) 3) (fun r_8 => ck (2 + r_8) 34 (bnd2 (kX10_join 34 (o_draft_4 (2 + r_6).toNatClampNeg) (o_draft_4 (2 + r_8).toNatClampNeg) o_draft_4) (fun r_10 o_p0_10 => ck 1 34 (ck 1 34 (bnd1 (kX10_turn ((4 * v1) + (r_3 / 4)) 3) (fun r_13 => ck (2 + r_13) 34 (bnd1 (kX10_turn ((4 * v2) + (irem r_3 4)) 2) (fun r_15 => ck (2 + r_15) 34 (bnd2 (kX10_join 34 ((upd o_p0_10 (1 : Int32).toNatClampNeg ((o_draft_4 (1 : Int32).toNatClampNeg) + r_10)) (2 + r_13).toNatClampNeg) ((upd o_p0_10 (1 : Int32).toNatClampNeg ((o_draft_4 (1 : Int32).toNatClampNeg) + r_10)) (2 + r_15).toNatClampNeg) (upd o_p0_10 (1 : Int32).toNatClampNeg ((o_draft_4 (1 : Int32).toNatClampNeg) + r_10))) (fun r_17 o_p0_17 => ck 1 34 (if v1 ≤ v2 then kX10_removeBigon_J1 o_p0_17 o_p0_10 o_draft_4 r_10 r_17 v1 v2 i_saved f_now f_history v2 else kX10_removeBigon_J1 o_p0_17 o_p0_10 o_draft_4 r_10 r_17 v1 v2 i_saved f_now f_history v1))))))))))))))) else some ((-1000002), i_saved, f_now, f_history, f_draft))))
def rmX10_removeBigon : Room := { frames := 2, cells := 0, slots := 0, locals := 48 }
theorem qX10_removeBigon_0 : (.constant RX10 68 (-1000001) : Cond) ∈ wsX10_removeBigon := by decide +kernel
theorem qX10_removeBigon_1 : (.fieldLink RX10 38 "KnotDiagramModel" "draft" "[I" : Cond) ∈ wsX10_removeBigon := by decide +kernel
theorem qX10_removeBigon_2 : (.constant RX10 133 (-1000002) : Cond) ∈ wsX10_removeBigon := by decide +kernel
theorem qX10_removeBigon_X10 : ∀ w ∈ wsX100, w ∈ wsX10_removeBigon := by decide +kernel
set_option maxHeartbeats 4000000 in
set_option maxRecDepth 100000 in
theorem mX10_removeBigon (l : Launch) (D : va_G) (cyI cyZ : ClassId) (sz : Nat) (a_this a_now a_history a_kept a_isKept a_text a_read a_uses a_entry a_passed a_draft a_label a_met a_bracket a_matrix : Nat) (v1 : Int32) (v2 : Int32) (i_saved : Int32) (i_length : Int32) (i_next : Int32) (f_now : Nat → Int32) (f_history : Nat → Int32) (f_draft : Nat → Int32) (r : Int32) (o_saved : Int32) (o_now : Nat → Int32) (o_history : Nat → Int32) (o_draft : Nat → Int32) (hf : kX10_removeBigon v1 v2 i_saved f_now f_history f_draft = some (r, o_saved, o_now, o_history, o_draft)) : Met l yX10_removeBigon wsX10_removeBigon rmX10_removeBigon (kPre D cyI cyZ [.ref a_this, .int v1, .int v2] [(a_this, .inr (7, [.ref a_now, .ref a_history, .int i_saved, .ref a_kept, .ref a_isKept, .ref a_text, .int i_length, .int i_next, .ref a_read, .ref a_uses, .ref a_entry, .ref a_passed, .ref a_draft, .ref a_label, .ref a_met, .ref a_bracket, .ref a_matrix])), (a_now, .inl (cyI, 34, .inl f_now)), (a_history, .inl (cyI, 272, .inl f_history)), (a_draft, .inl (cyI, 34, .inl f_draft))] sz) (kQi D cyI cyZ (va_A [(a_this, .inr (7, [.ref a_now, .ref a_history, .int i_saved, .ref a_kept, .ref a_isKept, .ref a_text, .int i_length, .int i_next, .ref a_read, .ref a_uses, .ref a_entry, .ref a_passed, .ref a_draft, .ref a_label, .ref a_met, .ref a_bracket, .ref a_matrix])), (a_now, .inl (cyI, 34, .inl f_now)), (a_history, .inl (cyI, 272, .inl f_history)), (a_draft, .inl (cyI, 34, .inl f_draft))] sz) [(a_this, .inr (7, [.ref a_now, .ref a_history, .int o_saved, .ref a_kept, .ref a_isKept, .ref a_text, .int i_length, .int i_next, .ref a_read, .ref a_uses, .ref a_entry, .ref a_passed, .ref a_draft, .ref a_label, .ref a_met, .ref a_bracket, .ref a_matrix])), (a_now, .inl (cyI, 34, .inl o_now)), (a_history, .inl (cyI, 272, .inl o_history)), (a_draft, .inl (cyI, 34, .inl o_draft))] r) 0 0 (va_A [(a_this, .inr (7, [.ref a_now, .ref a_history, .int i_saved, .ref a_kept, .ref a_isKept, .ref a_text, .int i_length, .int i_next, .ref a_read, .ref a_uses, .ref a_entry, .ref a_passed, .ref a_draft, .ref a_label, .ref a_met, .ref a_bracket, .ref a_matrix])), (a_now, .inl (cyI, 34, .inl f_now)), (a_history, .inl (cyI, 272, .inl f_history)), (a_draft, .inl (cyI, 34, .inl f_draft))] sz) := by
  refine Met.ofW (cc := cX10_removeBigon) (maxL := 6) (ret := (some .int)) (by decide) rfl ?_
  intro p e s m args below meth c s₁ B hml hv
  obtain ⟨rfl, hsz, hP, hK, hD0, hN⟩ := hv
  have hx := B.exec
  have hb := B.bytes
  have hr := B.returns
  have hts := atoms_spec (ws := wsX10_removeBigon) B.pre
  have hown : s.vm.findClass RX10 = some m.cls := findClass_of_methodNamed B.named
  have hlocks := B.notSynchronized
  subst hsz
  have hD := hD0.self (sz := s.heap.size)
  generalize hAe : va_A [(a_this, .inr (7, [.ref a_now, .ref a_history, .int i_saved, .ref a_kept, .ref a_isKept, .ref a_text, .int i_length, .int i_next, .ref a_read, .ref a_uses, .ref a_entry, .ref a_passed, .ref a_draft, .ref a_label, .ref a_met, .ref a_bracket, .ref a_matrix])), (a_now, .inl (cyI, 34, .inl f_now)), (a_history, .inl (cyI, 272, .inl f_history)), (a_draft, .inl (cyI, 34, .inl f_draft))] s.heap.size = A at hD ⊢
  have hA : ∀ q : Nat, s.heap.size ≤ q → A q := fun q h => by rw [← hAe]; exact Or.inr h
  clear hAe hD0
  have hS : va_S A s.heap s.heap [] := va_S.rf
  have S : CallFix p m c cX10_removeBigon 6 s (([.ref a_this, .int v1, .int v2] : List Value).toArray) wsX10_removeBigon RX10 := ⟨hx, hb, hml, hown, hts⟩
  have hl := lv_entry ([.ref a_this, .int v1, .int v2]) (n := 6) (Nat.le_of_ble_eq_true rfl)
  rw [lg_entry_eq]
  generalize (lg_sl ([.ref a_this, .int v1, .int v2]) ++ List.replicate (6 - (lg_sl ([.ref a_this, .int v1, .int v2])).length) Slot.unset).toArray = ls at hl ⊢
  replace hl : lv_has ls 6 [(0, .ref a_this), (1, .int v1), (2, .int v2)] := hl
  generalize ([] : List Loc) = locs at hS ⊢
  delta kX10_removeBigon at hf
  obtain ⟨H, hH⟩ : ∃ H, H = s.heap := ⟨_, rfl⟩
  have hS : va_S A s.heap H locs := by rw [hH]; exact hS
  have hP : va_P D vwCl [(a_this, .inr (7, [.ref a_now, .ref a_history, .int i_saved, .ref a_kept, .ref a_isKept, .ref a_text, .int i_length, .int i_next, .ref a_read, .ref a_uses, .ref a_entry, .ref a_passed, .ref a_draft, .ref a_label, .ref a_met, .ref a_bracket, .ref a_matrix])), (a_now, .inl (cyI, 34, .inl f_now)), (a_history, .inl (cyI, 272, .inl f_history)), (a_draft, .inl (cyI, 34, .inl f_draft))] H := by rw [hH]; exact hP
  suffices hgo : W p l e (headSpec wsX10_removeBigon rmX10_removeBigon).room s m (([.ref a_this, .int v1, .int v2] : List Value).toArray) below meth c H locs 0 0 (MQ below (kQi D cyI cyZ A [(a_this, .inr (7, [.ref a_now, .ref a_history, .int o_saved, .ref a_kept, .ref a_isKept, .ref a_text, .int i_length, .int i_next, .ref a_read, .ref a_uses, .ref a_entry, .ref a_passed, .ref a_draft, .ref a_label, .ref a_met, .ref a_bracket, .ref a_matrix])), (a_now, .inl (cyI, 34, .inl o_now)), (a_history, .inl (cyI, 272, .inl o_history)), (a_draft, .inl (cyI, 34, .inl o_draft))] r) (([.ref a_this, .int v1, .int v2] : List Value).toArray) s 0 0 A) (F0 m 0 ls []) by rw [hH] at hgo; exact hgo
  clear hH
  refine lv_aload_n hx hb dX10_removeBigon_0 rfl (lv_at hl 0 rfl) ?_
  refine lv_iload_n hx hb dX10_removeBigon_1 rfl (lv_at hl 1 rfl) ?_
  obtain ⟨r_1, hc_1, hf⟩ := bnd1_s hf
  refine kcVi (As := [.int v1]) (rest := []) (w2 := [(a_this, .inr (7, [.ref a_now, .ref a_history, .int i_saved, .ref a_kept, .ref a_isKept, .ref a_text, .int i_length, .int i_next, .ref a_read, .ref a_uses, .ref a_entry, .ref a_passed, .ref a_draft, .ref a_label, .ref a_met, .ref a_bracket, .ref a_matrix])), (a_now, .inl (cyI, 34, .inl f_now)), (a_history, .inl (cyI, 272, .inl f_history)), (a_draft, .inl (cyI, 34, .inl f_draft))]) S hK hP hD hS hA hN (mX10_isCrossing l D cyI cyZ H.size a_this a_now a_history a_kept a_isKept a_text a_read a_uses a_entry a_passed a_draft a_label a_met a_bracket a_matrix v1 i_saved i_length i_next f_now r_1 hc_1) (cwV 1 hts gX10_removeBigon_X10_isCrossing rfl rfl rfl (by decide +kernel) ⟨Nat.le_of_ble_eq_true rfl, Nat.le_of_ble_eq_true rfl⟩) 7 0 rfl rfl [0, 1] [2, 3] [2, 3, 0, 1] rfl rfl rfl rfl (by decide) rfl rfl hl.1 (Nat.le_of_ble_eq_true rfl) dX10_removeBigon_2 ⟨Nat.le_of_ble_eq_true rfl, Nat.le_of_ble_eq_true rfl⟩ (fun H locs hP hD hS => ?_)
  refine lv_if_eq (tgt := 21) hx hb dX10_removeBigon_5 (by decide) (fun c_27 => ?_) (fun c_27 => ?_)
  · replace hf := kt_p hf c_27
    refine lv_ldc (v := (-1000001)) hx hb hown (hts (.constant RX10 68 (-1000001)) qX10_removeBigon_0) dX10_removeBigon_21 ?_
    obtain ⟨rfl, rfl, rfl, rfl, rfl⟩ := some5_s hf
    exact kRi hx hb hr hlocks hP hK hD hS rfl dX10_removeBigon_23
  · replace hf := kt_n hf c_27
    refine lv_aload_n hx hb dX10_removeBigon_8 rfl (lv_at hl 0 rfl) ?_
    refine lv_iload_n hx hb dX10_removeBigon_9 rfl (lv_at hl 2 rfl) ?_
    obtain ⟨r_2, hc_2, hf⟩ := bnd1_s hf
    refine kcVi (As := [.int v2]) (rest := []) (w2 := [(a_this, .inr (7, [.ref a_now, .ref a_history, .int i_saved, .ref a_kept, .ref a_isKept, .ref a_text, .int i_length, .int i_next, .ref a_read, .ref a_uses, .ref a_entry, .ref a_passed, .ref a_draft, .ref a_label, .ref a_met, .ref a_bracket, .ref a_matrix])), (a_now, .inl (cyI, 34, .inl f_now)), (a_history, .inl (cyI, 272, .inl f_history)), (a_draft, .inl (cyI, 34, .inl f_draft))]) S hK hP hD hS hA hN (mX10_isCrossing l D cyI cyZ H.size a_this a_now a_history a_kept a_isKept a_text a_read a_uses a_entry a_passed a_draft a_label a_met a_bracket a_matrix v2 i_saved i_length i_next f_now r_2 hc_2) (cwV 1 hts gX10_removeBigon_X10_isCrossing rfl rfl rfl (by decide +kernel) ⟨Nat.le_of_ble_eq_true rfl, Nat.le_of_ble_eq_true rfl⟩) 7 0 rfl rfl [0, 1] [2, 3] [2, 3, 0, 1] rfl rfl rfl rfl (by decide) rfl rfl hl.1 (Nat.le_of_ble_eq_true rfl) dX10_removeBigon_10 ⟨Nat.le_of_ble_eq_true rfl, Nat.le_of_ble_eq_true rfl⟩ (fun H locs hP hD hS => ?_)
    refine lv_if_eq (tgt := 21) hx hb dX10_removeBigon_13 (by decide) (fun c_26 => ?_) (fun c_26 => ?_)
    · replace hf := kt_p hf c_26
      refine lv_ldc (v := (-1000001)) hx hb hown (hts (.constant RX10 68 (-1000001)) qX10_removeBigon_0) dX10_removeBigon_21 ?_
      obtain ⟨rfl, rfl, rfl, rfl, rfl⟩ := some5_s hf
      exact kRi hx hb hr hlocks hP hK hD hS rfl dX10_removeBigon_23
    · replace hf := kt_n hf c_26
      refine lv_iload_n hx hb dX10_removeBigon_16 rfl (lv_at hl 1 rfl) ?_
      refine lv_iload_n hx hb dX10_removeBigon_17 rfl (lv_at hl 2 rfl) ?_
      refine lv_icmp_ne (tgt := 24) hx hb dX10_removeBigon_18 (by decide) (fun c_25 => ?_) (fun c_25 => ?_)
      · replace hf := kt_n hf c_25
        refine lv_aload_n hx hb dX10_removeBigon_24 rfl (lv_at hl 0 rfl) ?_
        refine lv_iload_n hx hb dX10_removeBigon_25 rfl (lv_at hl 1 rfl) ?_
        refine lv_iload_n hx hb dX10_removeBigon_26 rfl (lv_at hl 2 rfl) ?_
        obtain ⟨r_3, hc_3, hf⟩ := bnd1_s hf
        refine kcVi (As := [.int v1, .int v2]) (rest := []) (w2 := [(a_this, .inr (7, [.ref a_now, .ref a_history, .int i_saved, .ref a_kept, .ref a_isKept, .ref a_text, .int i_length, .int i_next, .ref a_read, .ref a_uses, .ref a_entry, .ref a_passed, .ref a_draft, .ref a_label, .ref a_met, .ref a_bracket, .ref a_matrix])), (a_now, .inl (cyI, 34, .inl f_now)), (a_history, .inl (cyI, 272, .inl f_history)), (a_draft, .inl (cyI, 34, .inl f_draft))]) S hK hP hD hS hA hN (mX10_bigon l D cyI cyZ H.size a_this a_now a_history a_kept a_isKept a_text a_read a_uses a_entry a_passed a_draft a_label a_met a_bracket a_matrix v1 v2 i_saved i_length i_next f_now r_3 hc_3) (cwV 2 hts gX10_removeBigon_X10_bigon rfl rfl rfl (by decide +kernel) ⟨Nat.le_of_ble_eq_true rfl, Nat.le_of_ble_eq_true rfl⟩) 7 0 rfl rfl [0, 1] [2, 3] [2, 3, 0, 1] rfl rfl rfl rfl (by decide) rfl rfl hl.1 (Nat.le_of_ble_eq_true rfl) dX10_removeBigon_27 ⟨Nat.le_of_ble_eq_true rfl, Nat.le_of_ble_eq_true rfl⟩ (fun H locs hP hD hS => ?_)
        refine lv_istore_n (lv' := [(3, .int r_3), (0, .ref a_this), (1, .int v1), (2, .int v2)]) hx hb dX10_removeBigon_30 rfl hl (by decide) rfl (fun ls hl => ?_)
        refine lv_iload_n hx hb dX10_removeBigon_31 rfl (lv_at hl 0 rfl) ?_
        refine lv_if_ge (tgt := 38) hx hb dX10_removeBigon_32 (by decide) (fun c_24 => ?_) (fun c_24 => ?_)
        · replace hf := kt_p hf c_24
          refine lv_iconst (v := 4) hx hb dX10_removeBigon_38 (by decide) ?_
          refine lv_iload_n hx hb dX10_removeBigon_39 rfl (lv_at hl 2 rfl) ?_
          refine lv_imul hx hb dX10_removeBigon_40 ?_
          refine lv_iload_n hx hb dX10_removeBigon_41 rfl (lv_at hl 0 rfl) ?_
          refine lv_iconst (v := 4) hx hb dX10_removeBigon_42 (by decide) ?_
          refine lv_idiv hx hb dX10_removeBigon_43 (by decide) ?_
          refine lv_iadd hx hb dX10_removeBigon_44 ?_
          refine lv_istore (lv' := [(4, .int ((4 * v1) + (r_3 / 4))), (3, .int r_3), (0, .ref a_this), (1, .int v1), (2, .int v2)]) hx hb dX10_removeBigon_45 hl (by decide) rfl (fun ls hl => ?_)
          refine lv_iconst (v := 4) hx hb dX10_removeBigon_47 (by decide) ?_
          refine lv_iload_n hx hb dX10_removeBigon_48 rfl (lv_at hl 4 rfl) ?_
          refine lv_imul hx hb dX10_removeBigon_49 ?_
          refine lv_iload_n hx hb dX10_removeBigon_50 rfl (lv_at hl 1 rfl) ?_
          refine lv_iconst (v := 4) hx hb dX10_removeBigon_51 (by decide) ?_
          refine k_irem hx hb dX10_removeBigon_52 (by decide) ?_
          refine lv_iadd hx hb dX10_removeBigon_53 ?_
          refine lv_istore (lv' := [(5, .int ((4 * v2) + (irem r_3 4))), (4, .int ((4 * v1) + (r_3 / 4))), (3, .int r_3), (0, .ref a_this), (1, .int v1), (2, .int v2)]) hx hb dX10_removeBigon_54 hl (by decide) rfl (fun ls hl => ?_)
          refine lv_aload_n hx hb dX10_removeBigon_56 rfl (lv_at hl 3 rfl) ?_
          obtain ⟨o_draft_4, hc_4, hf⟩ := bnd1_s hf
          refine kcVv (As := []) (rest := []) (w2 := [(a_this, .inr (7, [.ref a_now, .ref a_history, .int i_saved, .ref a_kept, .ref a_isKept, .ref a_text, .int i_length, .int i_next, .ref a_read, .ref a_uses, .ref a_entry, .ref a_passed, .ref a_draft, .ref a_label, .ref a_met, .ref a_bracket, .ref a_matrix])), (a_now, .inl (cyI, 34, .inl f_now)), (a_history, .inl (cyI, 272, .inl f_history)), (a_draft, .inl (cyI, 34, .inl o_draft_4))]) S hK hP hD hS hA hN (mX10_beginDraft l D cyI cyZ H.size a_this a_now a_history a_kept a_isKept a_text a_read a_uses a_entry a_passed a_draft a_label a_met a_bracket a_matrix i_saved i_length i_next f_now f_draft o_draft_4 hc_4) (cwV 0 hts gX10_removeBigon_X10_beginDraft rfl rfl rfl (by decide +kernel) ⟨Nat.le_of_ble_eq_true rfl, Nat.le_of_ble_eq_true rfl⟩) 7 0 rfl rfl [0, 1, 3] [2] [1, 2, 0, 3] rfl rfl rfl rfl (by decide) rfl rfl hl.1 (Nat.le_of_ble_eq_true rfl) dX10_removeBigon_57 ⟨Nat.le_of_ble_eq_true rfl, Nat.le_of_ble_eq_true rfl⟩ (fun H locs hP hD hS => ?_)
          refine lv_aload_n hx hb dX10_removeBigon_60 rfl (lv_at hl 3 rfl) ?_
          refine va_get (D := D) (ci := 7) (v := .ref a_draft) (C := RX10) (T := TX10) (N := 17) hx hb hts qX10_removeBigon_X10 hown hK hP 0 rfl rfl 12 (Nat.le_of_ble_eq_true rfl) (hts (.fieldLink RX10 38 "KnotDiagramModel" "draft" "[I") qX10_removeBigon_1) (fun _ h9 => h9) rfl dX10_removeBigon_61 ?_
          refine lv_iconst (v := 1) hx hb dX10_removeBigon_64 (by decide) ?_
          refine lv_dup2_11 hx hb dX10_removeBigon_65 rfl rfl ?_
          obtain ⟨hi_5, hf⟩ := ck_s hf
          refine va_iald hx hb hK hP 3 0 rfl rfl hi_5 dX10_removeBigon_66 ?_
          refine lv_aload_n hx hb dX10_removeBigon_67 rfl (lv_at hl 3 rfl) ?_
          refine va_get (D := D) (ci := 7) (v := .ref a_draft) (C := RX10) (T := TX10) (N := 17) hx hb hts qX10_removeBigon_X10 hown hK hP 0 rfl rfl 12 (Nat.le_of_ble_eq_true rfl) (hts (.fieldLink RX10 38 "KnotDiagramModel" "draft" "[I") qX10_removeBigon_1) (fun _ h9 => h9) rfl dX10_removeBigon_68 ?_
          refine lv_aload_n hx hb dX10_removeBigon_71 rfl (lv_at hl 3 rfl) ?_
          refine va_get (D := D) (ci := 7) (v := .ref a_draft) (C := RX10) (T := TX10) (N := 17) hx hb hts qX10_removeBigon_X10 hown hK hP 0 rfl rfl 12 (Nat.le_of_ble_eq_true rfl) (hts (.fieldLink RX10 38 "KnotDiagramModel" "draft" "[I") qX10_removeBigon_1) (fun _ h9 => h9) rfl dX10_removeBigon_72 ?_
          refine lv_iconst (v := 2) hx hb dX10_removeBigon_75 (by decide) ?_
          refine lv_iload hx hb dX10_removeBigon_76 (lv_at hl 1 rfl) ?_
          refine lv_iconst (v := 2) hx hb dX10_removeBigon_78 (by decide) ?_
          obtain ⟨r_6, hc_6, hf⟩ := bnd1_s hf
          refine kcSi (As := [.int ((4 * v1) + (r_3 / 4)), .int 2]) (rest := [.int 2, .ref a_draft, .ref a_draft, .int (o_draft_4 (1 : Int32).toNatClampNeg), .int 1, .ref a_draft]) (w2 := [(a_this, .inr (7, [.ref a_now, .ref a_history, .int i_saved, .ref a_kept, .ref a_isKept, .ref a_text, .int i_length, .int i_next, .ref a_read, .ref a_uses, .ref a_entry, .ref a_passed, .ref a_draft, .ref a_label, .ref a_met, .ref a_bracket, .ref a_matrix])), (a_now, .inl (cyI, 34, .inl f_now)), (a_history, .inl (cyI, 272, .inl f_history)), (a_draft, .inl (cyI, 34, .inl o_draft_4))]) S hK hP hD hS hA hN (mX10_turn l D cyI cyZ H.size ((4 * v1) + (r_3 / 4)) 2 r_6 hc_6) (va_cwS 2 hts gX10_removeBigon_X10_turn rfl rfl rfl (by decide +kernel) ⟨Nat.le_of_ble_eq_true rfl, Nat.le_of_ble_eq_true rfl⟩) [] [0, 1, 2, 3] [0, 1, 2, 3] rfl rfl rfl rfl (by decide) rfl rfl hl.1 (Nat.le_of_ble_eq_true rfl) dX10_removeBigon_79 ⟨Nat.le_of_ble_eq_true rfl, Nat.le_of_ble_eq_true rfl⟩ (fun H locs hP hD hS => ?_)
          refine lv_iadd hx hb dX10_removeBigon_82 ?_
          obtain ⟨hi_7, hf⟩ := ck_s hf
          refine va_iald hx hb hK hP 3 0 rfl rfl hi_7 dX10_removeBigon_83 ?_
          refine lv_aload_n hx hb dX10_removeBigon_84 rfl (lv_at hl 3 rfl) ?_
          refine va_get (D := D) (ci := 7) (v := .ref a_draft) (C := RX10) (T := TX10) (N := 17) hx hb hts qX10_removeBigon_X10 hown hK hP 0 rfl rfl 12 (Nat.le_of_ble_eq_true rfl) (hts (.fieldLink RX10 38 "KnotDiagramModel" "draft" "[I") qX10_removeBigon_1) (fun _ h9 => h9) rfl dX10_removeBigon_85 ?_
          refine lv_iconst (v := 2) hx hb dX10_removeBigon_88 (by decide) ?_
          refine lv_iload hx hb dX10_removeBigon_89 (lv_at hl 0 rfl) ?_
          refine lv_iconst (v := 3) hx hb dX10_removeBigon_91 (by decide) ?_
          obtain ⟨r_8, hc_8, hf⟩ := bnd1_s hf
          refine kcSi (As := [.int ((4 * v2) + (irem r_3 4)), .int 3]) (rest := [.int 2, .ref a_draft, .int (o_draft_4 (2 + r_6).toNatClampNeg), .ref a_draft, .int (o_draft_4 (1 : Int32).toNatClampNeg), .int 1, .ref a_draft]) (w2 := [(a_this, .inr (7, [.ref a_now, .ref a_history, .int i_saved, .ref a_kept, .ref a_isKept, .ref a_text, .int i_length, .int i_next, .ref a_read, .ref a_uses, .ref a_entry, .ref a_passed, .ref a_draft, .ref a_label, .ref a_met, .ref a_bracket, .ref a_matrix])), (a_now, .inl (cyI, 34, .inl f_now)), (a_history, .inl (cyI, 272, .inl f_history)), (a_draft, .inl (cyI, 34, .inl o_draft_4))]) S hK hP hD hS hA hN (mX10_turn l D cyI cyZ H.size ((4 * v2) + (irem r_3 4)) 3 r_8 hc_8) (va_cwS 2 hts gX10_removeBigon_X10_turn rfl rfl rfl (by decide +kernel) ⟨Nat.le_of_ble_eq_true rfl, Nat.le_of_ble_eq_true rfl⟩) [] [0, 1, 2, 3] [0, 1, 2, 3] rfl rfl rfl rfl (by decide) rfl rfl hl.1 (Nat.le_of_ble_eq_true rfl) dX10_removeBigon_92 ⟨Nat.le_of_ble_eq_true rfl, Nat.le_of_ble_eq_true rfl⟩ (fun H locs hP hD hS => ?_)
          refine lv_iadd hx hb dX10_removeBigon_95 ?_
          obtain ⟨hi_9, hf⟩ := ck_s hf
          refine va_iald hx hb hK hP 3 0 rfl rfl hi_9 dX10_removeBigon_96 ?_
          obtain ⟨r_10, o_p0_10, hc_10, hf⟩ := bnd2_s hf
          refine kcSi (As := [.ref a_draft, .int (o_draft_4 (2 + r_6).toNatClampNeg), .int (o_draft_4 (2 + r_8).toNatClampNeg)]) (rest := [.int (o_draft_4 (1 : Int32).toNatClampNeg), .int 1, .ref a_draft]) (w2 := [(a_this, .inr (7, [.ref a_now, .ref a_history, .int i_saved, .ref a_kept, .ref a_isKept, .ref a_text, .int i_length, .int i_next, .ref a_read, .ref a_uses, .ref a_entry, .ref a_passed, .ref a_draft, .ref a_label, .ref a_met, .ref a_bracket, .ref a_matrix])), (a_now, .inl (cyI, 34, .inl f_now)), (a_history, .inl (cyI, 272, .inl f_history)), (a_draft, .inl (cyI, 34, .inl o_p0_10))]) S hK hP hD hS hA hN (mX10_join l D cyI cyZ H.size a_draft 34 (o_draft_4 (2 + r_6).toNatClampNeg) (o_draft_4 (2 + r_8).toNatClampNeg) o_draft_4 r_10 o_p0_10 hc_10) (va_cwS 3 hts gX10_removeBigon_X10_join rfl rfl rfl (by decide +kernel) ⟨Nat.le_of_ble_eq_true rfl, Nat.le_of_ble_eq_true rfl⟩) [3] [0, 1, 2] [0, 1, 2, 3] rfl rfl rfl rfl (by decide) rfl rfl hl.1 (Nat.le_of_ble_eq_true rfl) dX10_removeBigon_97 ⟨Nat.le_of_ble_eq_true rfl, Nat.le_of_ble_eq_true rfl⟩ (fun H locs hP hD hS => ?_)
          refine lv_iadd hx hb dX10_removeBigon_100 ?_
          obtain ⟨hi_11, hf⟩ := ck_s hf
          refine va_iast hx hb hK hP hD hS 3 0 rfl rfl hi_11 dX10_removeBigon_101 (fun H locs hP hD hS => ?_)
          replace hP : va_P D vwCl [(a_this, .inr (7, [.ref a_now, .ref a_history, .int i_saved, .ref a_kept, .ref a_isKept, .ref a_text, .int i_length, .int i_next, .ref a_read, .ref a_uses, .ref a_entry, .ref a_passed, .ref a_draft, .ref a_label, .ref a_met, .ref a_bracket, .ref a_matrix])), (a_now, .inl (cyI, 34, .inl f_now)), (a_history, .inl (cyI, 272, .inl f_history)), (a_draft, .inl (cyI, 34, .inl (upd o_p0_10 (1 : Int32).toNatClampNeg ((o_draft_4 (1 : Int32).toNatClampNeg) + r_10))))] H := hP
          replace hD : va_D A [(a_this, .inr (7, [.ref a_now, .ref a_history, .int i_saved, .ref a_kept, .ref a_isKept, .ref a_text, .int i_length, .int i_next, .ref a_read, .ref a_uses, .ref a_entry, .ref a_passed, .ref a_draft, .ref a_label, .ref a_met, .ref a_bracket, .ref a_matrix])), (a_now, .inl (cyI, 34, .inl f_now)), (a_history, .inl (cyI, 272, .inl f_history)), (a_draft, .inl (cyI, 34, .inl (upd o_p0_10 (1 : Int32).toNatClampNeg ((o_draft_4 (1 : Int32).toNatClampNeg) + r_10))))] := hD
          refine lv_aload_n hx hb dX10_removeBigon_102 rfl (lv_at hl 3 rfl) ?_
          refine va_get (D := D) (ci := 7) (v := .ref a_draft) (C := RX10) (T := TX10) (N := 17) hx hb hts qX10_removeBigon_X10 hown hK hP 0 rfl rfl 12 (Nat.le_of_ble_eq_true rfl) (hts (.fieldLink RX10 38 "KnotDiagramModel" "draft" "[I") qX10_removeBigon_1) (fun _ h9 => h9) rfl dX10_removeBigon_103 ?_
          refine lv_iconst (v := 1) hx hb dX10_removeBigon_106 (by decide) ?_
          refine lv_dup2_11 hx hb dX10_removeBigon_107 rfl rfl ?_
          obtain ⟨hi_12, hf⟩ := ck_s hf
          refine va_iald hx hb hK hP 3 0 rfl rfl hi_12 dX10_removeBigon_108 ?_
          refine lv_aload_n hx hb dX10_removeBigon_109 rfl (lv_at hl 3 rfl) ?_
          refine va_get (D := D) (ci := 7) (v := .ref a_draft) (C := RX10) (T := TX10) (N := 17) hx hb hts qX10_removeBigon_X10 hown hK hP 0 rfl rfl 12 (Nat.le_of_ble_eq_true rfl) (hts (.fieldLink RX10 38 "KnotDiagramModel" "draft" "[I") qX10_removeBigon_1) (fun _ h9 => h9) rfl dX10_removeBigon_110 ?_
          refine lv_aload_n hx hb dX10_removeBigon_113 rfl (lv_at hl 3 rfl) ?_
          refine va_get (D := D) (ci := 7) (v := .ref a_draft) (C := RX10) (T := TX10) (N := 17) hx hb hts qX10_removeBigon_X10 hown hK hP 0 rfl rfl 12 (Nat.le_of_ble_eq_true rfl) (hts (.fieldLink RX10 38 "KnotDiagramModel" "draft" "[I") qX10_removeBigon_1) (fun _ h9 => h9) rfl dX10_removeBigon_114 ?_
          refine lv_iconst (v := 2) hx hb dX10_removeBigon_117 (by decide) ?_
          refine lv_iload hx hb dX10_removeBigon_118 (lv_at hl 1 rfl) ?_
          refine lv_iconst (v := 3) hx hb dX10_removeBigon_120 (by decide) ?_
          obtain ⟨r_13, hc_13, hf⟩ := bnd1_s hf
          refine kcSi (As := [.int ((4 * v1) + (r_3 / 4)), .int 3]) (rest := [.int 2, .ref a_draft, .ref a_draft, .int ((upd o_p0_10 (1 : Int32).toNatClampNeg ((o_draft_4 (1 : Int32).toNatClampNeg) + r_10)) (1 : Int32).toNatClampNeg), .int 1, .ref a_draft]) (w2 := [(a_this, .inr (7, [.ref a_now, .ref a_history, .int i_saved, .ref a_kept, .ref a_isKept, .ref a_text, .int i_length, .int i_next, .ref a_read, .ref a_uses, .ref a_entry, .ref a_passed, .ref a_draft, .ref a_label, .ref a_met, .ref a_bracket, .ref a_matrix])), (a_now, .inl (cyI, 34, .inl f_now)), (a_history, .inl (cyI, 272, .inl f_history)), (a_draft, .inl (cyI, 34, .inl (upd o_p0_10 (1 : Int32).toNatClampNeg ((o_draft_4 (1 : Int32).toNatClampNeg) + r_10))))]) S hK hP hD hS hA hN (mX10_turn l D cyI cyZ H.size ((4 * v1) + (r_3 / 4)) 3 r_13 hc_13) (va_cwS 2 hts gX10_removeBigon_X10_turn rfl rfl rfl (by decide +kernel) ⟨Nat.le_of_ble_eq_true rfl, Nat.le_of_ble_eq_true rfl⟩) [] [0, 1, 2, 3] [0, 1, 2, 3] rfl rfl rfl rfl (by decide) rfl rfl hl.1 (Nat.le_of_ble_eq_true rfl) dX10_removeBigon_121 ⟨Nat.le_of_ble_eq_true rfl, Nat.le_of_ble_eq_true rfl⟩ (fun H locs hP hD hS => ?_)
          refine lv_iadd hx hb dX10_removeBigon_124 ?_
          obtain ⟨hi_14, hf⟩ := ck_s hf
          refine va_iald hx hb hK hP 3 0 rfl rfl hi_14 dX10_removeBigon_125 ?_
          refine lv_aload_n hx hb dX10_removeBigon_126 rfl (lv_at hl 3 rfl) ?_
          refine va_get (D := D) (ci := 7) (v := .ref a_draft) (C := RX10) (T := TX10) (N := 17) hx hb hts qX10_removeBigon_X10 hown hK hP 0 rfl rfl 12 (Nat.le_of_ble_eq_true rfl) (hts (.fieldLink RX10 38 "KnotDiagramModel" "draft" "[I") qX10_removeBigon_1) (fun _ h9 => h9) rfl dX10_removeBigon_127 ?_
          refine lv_iconst (v := 2) hx hb dX10_removeBigon_130 (by decide) ?_
          refine lv_iload hx hb dX10_removeBigon_131 (lv_at hl 0 rfl) ?_
          refine lv_iconst (v := 2) hx hb dX10_removeBigon_133 (by decide) ?_
          obtain ⟨r_15, hc_15, hf⟩ := bnd1_s hf
          refine kcSi (As := [.int ((4 * v2) + (irem r_3 4)), .int 2]) (rest := [.int 2, .ref a_draft, .int ((upd o_p0_10 (1 : Int32).toNatClampNeg ((o_draft_4 (1 : Int32).toNatClampNeg) + r_10)) (2 + r_13).toNatClampNeg), .ref a_draft, .int ((upd o_p0_10 (1 : Int32).toNatClampNeg ((o_draft_4 (1 : Int32).toNatClampNeg) + r_10)) (1 : Int32).toNatClampNeg), .int 1, .ref a_draft]) (w2 := [(a_this, .inr (7, [.ref a_now, .ref a_history, .int i_saved, .ref a_kept, .ref a_isKept, .ref a_text, .int i_length, .int i_next, .ref a_read, .ref a_uses, .ref a_entry, .ref a_passed, .ref a_draft, .ref a_label, .ref a_met, .ref a_bracket, .ref a_matrix])), (a_now, .inl (cyI, 34, .inl f_now)), (a_history, .inl (cyI, 272, .inl f_history)), (a_draft, .inl (cyI, 34, .inl (upd o_p0_10 (1 : Int32).toNatClampNeg ((o_draft_4 (1 : Int32).toNatClampNeg) + r_10))))]) S hK hP hD hS hA hN (mX10_turn l D cyI cyZ H.size ((4 * v2) + (irem r_3 4)) 2 r_15 hc_15) (va_cwS 2 hts gX10_removeBigon_X10_turn rfl rfl rfl (by decide +kernel) ⟨Nat.le_of_ble_eq_true rfl, Nat.le_of_ble_eq_true rfl⟩) [] [0, 1, 2, 3] [0, 1, 2, 3] rfl rfl rfl rfl (by decide) rfl rfl hl.1 (Nat.le_of_ble_eq_true rfl) dX10_removeBigon_134 ⟨Nat.le_of_ble_eq_true rfl, Nat.le_of_ble_eq_true rfl⟩ (fun H locs hP hD hS => ?_)
          refine lv_iadd hx hb dX10_removeBigon_137 ?_
          obtain ⟨hi_16, hf⟩ := ck_s hf
          refine va_iald hx hb hK hP 3 0 rfl rfl hi_16 dX10_removeBigon_138 ?_
          obtain ⟨r_17, o_p0_17, hc_17, hf⟩ := bnd2_s hf
          refine kcSi (As := [.ref a_draft, .int ((upd o_p0_10 (1 : Int32).toNatClampNeg ((o_draft_4 (1 : Int32).toNatClampNeg) + r_10)) (2 + r_13).toNatClampNeg), .int ((upd o_p0_10 (1 : Int32).toNatClampNeg ((o_draft_4 (1 : Int32).toNatClampNeg) + r_10)) (2 + r_15).toNatClampNeg)]) (rest := [.int ((upd o_p0_10 (1 : Int32).toNatClampNeg ((o_draft_4 (1 : Int32).toNatClampNeg) + r_10)) (1 : Int32).toNatClampNeg), .int 1, .ref a_draft]) (w2 := [(a_this, .inr (7, [.ref a_now, .ref a_history, .int i_saved, .ref a_kept, .ref a_isKept, .ref a_text, .int i_length, .int i_next, .ref a_read, .ref a_uses, .ref a_entry, .ref a_passed, .ref a_draft, .ref a_label, .ref a_met, .ref a_bracket, .ref a_matrix])), (a_now, .inl (cyI, 34, .inl f_now)), (a_history, .inl (cyI, 272, .inl f_history)), (a_draft, .inl (cyI, 34, .inl o_p0_17))]) S hK hP hD hS hA hN (mX10_join l D cyI cyZ H.size a_draft 34 ((upd o_p0_10 (1 : Int32).toNatClampNeg ((o_draft_4 (1 : Int32).toNatClampNeg) + r_10)) (2 + r_13).toNatClampNeg) ((upd o_p0_10 (1 : Int32).toNatClampNeg ((o_draft_4 (1 : Int32).toNatClampNeg) + r_10)) (2 + r_15).toNatClampNeg) (upd o_p0_10 (1 : Int32).toNatClampNeg ((o_draft_4 (1 : Int32).toNatClampNeg) + r_10)) r_17 o_p0_17 hc_17) (va_cwS 3 hts gX10_removeBigon_X10_join rfl rfl rfl (by decide +kernel) ⟨Nat.le_of_ble_eq_true rfl, Nat.le_of_ble_eq_true rfl⟩) [3] [0, 1, 2] [0, 1, 2, 3] rfl rfl rfl rfl (by decide) rfl rfl hl.1 (Nat.le_of_ble_eq_true rfl) dX10_removeBigon_139 ⟨Nat.le_of_ble_eq_true rfl, Nat.le_of_ble_eq_true rfl⟩ (fun H locs hP hD hS => ?_)
          refine lv_iadd hx hb dX10_removeBigon_142 ?_
          obtain ⟨hi_18, hf⟩ := ck_s hf
          refine va_iast hx hb hK hP hD hS 3 0 rfl rfl hi_18 dX10_removeBigon_143 (fun H locs hP hD hS => ?_)
          replace hP : va_P D vwCl [(a_this, .inr (7, [.ref a_now, .ref a_history, .int i_saved, .ref a_kept, .ref a_isKept, .ref a_text, .int i_length, .int i_next, .ref a_read, .ref a_uses, .ref a_entry, .ref a_passed, .ref a_draft, .ref a_label, .ref a_met, .ref a_bracket, .ref a_matrix])), (a_now, .inl (cyI, 34, .inl f_now)), (a_history, .inl (cyI, 272, .inl f_history)), (a_draft, .inl (cyI, 34, .inl (upd o_p0_17 (1 : Int32).toNatClampNeg (((upd o_p0_10 (1 : Int32).toNatClampNeg ((o_draft_4 (1 : Int32).toNatClampNeg) + r_10)) (1 : Int32).toNatClampNeg) + r_17))))] H := hP
          replace hD : va_D A [(a_this, .inr (7, [.ref a_now, .ref a_history, .int i_saved, .ref a_kept, .ref a_isKept, .ref a_text, .int i_length, .int i_next, .ref a_read, .ref a_uses, .ref a_entry, .ref a_passed, .ref a_draft, .ref a_label, .ref a_met, .ref a_bracket, .ref a_matrix])), (a_now, .inl (cyI, 34, .inl f_now)), (a_history, .inl (cyI, 272, .inl f_history)), (a_draft, .inl (cyI, 34, .inl (upd o_p0_17 (1 : Int32).toNatClampNeg (((upd o_p0_10 (1 : Int32).toNatClampNeg ((o_draft_4 (1 : Int32).toNatClampNeg) + r_10)) (1 : Int32).toNatClampNeg) + r_17))))] := hD
          refine lv_aload_n hx hb dX10_removeBigon_144 rfl (lv_at hl 3 rfl) ?_
          refine va_get (D := D) (ci := 7) (v := .ref a_draft) (C := RX10) (T := TX10) (N := 17) hx hb hts qX10_removeBigon_X10 hown hK hP 0 rfl rfl 12 (Nat.le_of_ble_eq_true rfl) (hts (.fieldLink RX10 38 "KnotDiagramModel" "draft" "[I") qX10_removeBigon_1) (fun _ h9 => h9) rfl dX10_removeBigon_145 ?_
          refine lv_iload_n hx hb dX10_removeBigon_148 rfl (lv_at hl 4 rfl) ?_
          refine lv_iload_n hx hb dX10_removeBigon_149 rfl (lv_at hl 5 rfl) ?_
          have hJ_1 : ∀ (t1_1 : Int32) (H : Heap) (locs : List Loc) (ls : Array Slot), kX10_removeBigon_J1 o_p0_17 o_p0_10 o_draft_4 r_10 r_17 v1 v2 i_saved f_now f_history t1_1 = some (r, o_saved, o_now, o_history, o_draft) → va_P D vwCl [(a_this, .inr (7, [.ref a_now, .ref a_history, .int i_saved, .ref a_kept, .ref a_isKept, .ref a_text, .int i_length, .int i_next, .ref a_read, .ref a_uses, .ref a_entry, .ref a_passed, .ref a_draft, .ref a_label, .ref a_met, .ref a_bracket, .ref a_matrix])), (a_now, .inl (cyI, 34, .inl f_now)), (a_history, .inl (cyI, 272, .inl f_history)), (a_draft, .inl (cyI, 34, .inl (upd o_p0_17 (1 : Int32).toNatClampNeg (((upd o_p0_10 (1 : Int32).toNatClampNeg ((o_draft_4 (1 : Int32).toNatClampNeg) + r_10)) (1 : Int32).toNatClampNeg) + r_17))))] H → va_D A [(a_this, .inr (7, [.ref a_now, .ref a_history, .int i_saved, .ref a_kept, .ref a_isKept, .ref a_text, .int i_length, .int i_next, .ref a_read, .ref a_uses, .ref a_entry, .ref a_passed, .ref a_draft, .ref a_label, .ref a_met, .ref a_bracket, .ref a_matrix])), (a_now, .inl (cyI, 34, .inl f_now)), (a_history, .inl (cyI, 272, .inl f_history)), (a_draft, .inl (cyI, 34, .inl (upd o_p0_17 (1 : Int32).toNatClampNeg (((upd o_p0_10 (1 : Int32).toNatClampNeg ((o_draft_4 (1 : Int32).toNatClampNeg) + r_10)) (1 : Int32).toNatClampNeg) + r_17))))] → va_S A s.heap H locs → lv_has ls 6 [(0, .ref a_this), (1, .int v1), (2, .int v2)] → W p l e (headSpec wsX10_removeBigon rmX10_removeBigon).room s m (([.ref a_this, .int v1, .int v2] : List Value).toArray) below meth c H locs 0 0 (MQ below (kQi D cyI cyZ A [(a_this, .inr (7, [.ref a_now, .ref a_history, .int o_saved, .ref a_kept, .ref a_isKept, .ref a_text, .int i_length, .int i_next, .ref a_read, .ref a_uses, .ref a_entry, .ref a_passed, .ref a_draft, .ref a_label, .ref a_met, .ref a_bracket, .ref a_matrix])), (a_now, .inl (cyI, 34, .inl o_now)), (a_history, .inl (cyI, 272, .inl o_history)), (a_draft, .inl (cyI, 34, .inl o_draft))] r) (([.ref a_this, .int v1, .int v2] : List Value).toArray) s 0 0 A) (F0 m 158 ls [.int t1_1, .ref a_draft]) := by
            intro t1_1 H locs ls hf hP hD hS hl
            delta kX10_removeBigon_J1 at hf
            obtain ⟨o_p0_19, hc_19, hf⟩ := bnd1_s hf
            refine kcSv (As := [.ref a_draft, .int t1_1]) (rest := []) (w2 := [(a_this, .inr (7, [.ref a_now, .ref a_history, .int i_saved, .ref a_kept, .ref a_isKept, .ref a_text, .int i_length, .int i_next, .ref a_read, .ref a_uses, .ref a_entry, .ref a_passed, .ref a_draft, .ref a_label, .ref a_met, .ref a_bracket, .ref a_matrix])), (a_now, .inl (cyI, 34, .inl f_now)), (a_history, .inl (cyI, 272, .inl f_history)), (a_draft, .inl (cyI, 34, .inl o_p0_19))]) S hK hP hD hS hA hN (mX10_dropCrossing l D cyI cyZ H.size a_draft 34 t1_1 (upd o_p0_17 (1 : Int32).toNatClampNeg (((upd o_p0_10 (1 : Int32).toNatClampNeg ((o_draft_4 (1 : Int32).toNatClampNeg) + r_10)) (1 : Int32).toNatClampNeg) + r_17)) o_p0_19 hc_19) (va_cwS 2 hts gX10_removeBigon_X10_dropCrossing rfl rfl rfl (by decide +kernel) ⟨Nat.le_of_ble_eq_true rfl, Nat.le_of_ble_eq_true rfl⟩) [3] [0, 1, 2] [0, 1, 2, 3] rfl rfl rfl rfl (by decide) rfl rfl hl.1 (Nat.le_of_ble_eq_true rfl) dX10_removeBigon_158 ⟨Nat.le_of_ble_eq_true rfl, Nat.le_of_ble_eq_true rfl⟩ (fun H locs hP hD hS => ?_)
            refine lv_aload_n hx hb dX10_removeBigon_161 rfl (lv_at hl 0 rfl) ?_
            refine va_get (D := D) (ci := 7) (v := .ref a_draft) (C := RX10) (T := TX10) (N := 17) hx hb hts qX10_removeBigon_X10 hown hK hP 0 rfl rfl 12 (Nat.le_of_ble_eq_true rfl) (hts (.fieldLink RX10 38 "KnotDiagramModel" "draft" "[I") qX10_removeBigon_1) (fun _ h9 => h9) rfl dX10_removeBigon_162 ?_
            refine lv_iload_n hx hb dX10_removeBigon_165 rfl (lv_at hl 1 rfl) ?_
            refine lv_iload_n hx hb dX10_removeBigon_166 rfl (lv_at hl 2 rfl) ?_
            have hJ_2 : ∀ (t1_2 : Int32) (H : Heap) (locs : List Loc) (ls : Array Slot), kX10_removeBigon_J2 o_p0_19 i_saved f_now f_history t1_2 = some (r, o_saved, o_now, o_history, o_draft) → va_P D vwCl [(a_this, .inr (7, [.ref a_now, .ref a_history, .int i_saved, .ref a_kept, .ref a_isKept, .ref a_text, .int i_length, .int i_next, .ref a_read, .ref a_uses, .ref a_entry, .ref a_passed, .ref a_draft, .ref a_label, .ref a_met, .ref a_bracket, .ref a_matrix])), (a_now, .inl (cyI, 34, .inl f_now)), (a_history, .inl (cyI, 272, .inl f_history)), (a_draft, .inl (cyI, 34, .inl o_p0_19))] H → va_D A [(a_this, .inr (7, [.ref a_now, .ref a_history, .int i_saved, .ref a_kept, .ref a_isKept, .ref a_text, .int i_length, .int i_next, .ref a_read, .ref a_uses, .ref a_entry, .ref a_passed, .ref a_draft, .ref a_label, .ref a_met, .ref a_bracket, .ref a_matrix])), (a_now, .inl (cyI, 34, .inl f_now)), (a_history, .inl (cyI, 272, .inl f_history)), (a_draft, .inl (cyI, 34, .inl o_p0_19))] → va_S A s.heap H locs → lv_has ls 6 [(0, .ref a_this)] → W p l e (headSpec wsX10_removeBigon rmX10_removeBigon).room s m (([.ref a_this, .int v1, .int v2] : List Value).toArray) below meth c H locs 0 0 (MQ below (kQi D cyI cyZ A [(a_this, .inr (7, [.ref a_now, .ref a_history, .int o_saved, .ref a_kept, .ref a_isKept, .ref a_text, .int i_length, .int i_next, .ref a_read, .ref a_uses, .ref a_entry, .ref a_passed, .ref a_draft, .ref a_label, .ref a_met, .ref a_bracket, .ref a_matrix])), (a_now, .inl (cyI, 34, .inl o_now)), (a_history, .inl (cyI, 272, .inl o_history)), (a_draft, .inl (cyI, 34, .inl o_draft))] r) (([.ref a_this, .int v1, .int v2] : List Value).toArray) s 0 0 A) (F0 m 175 ls [.int t1_2, .ref a_draft]) := by
              intro t1_2 H locs ls hf hP hD hS hl
              delta kX10_removeBigon_J2 at hf
              obtain ⟨o_p0_20, hc_20, hf⟩ := bnd1_s hf
              refine kcSv (As := [.ref a_draft, .int t1_2]) (rest := []) (w2 := [(a_this, .inr (7, [.ref a_now, .ref a_history, .int i_saved, .ref a_kept, .ref a_isKept, .ref a_text, .int i_length, .int i_next, .ref a_read, .ref a_uses, .ref a_entry, .ref a_passed, .ref a_draft, .ref a_label, .ref a_met, .ref a_bracket, .ref a_matrix])), (a_now, .inl (cyI, 34, .inl f_now)), (a_history, .inl (cyI, 272, .inl f_history)), (a_draft, .inl (cyI, 34, .inl o_p0_20))]) S hK hP hD hS hA hN (mX10_dropCrossing l D cyI cyZ H.size a_draft 34 t1_2 o_p0_19 o_p0_20 hc_20) (va_cwS 2 hts gX10_removeBigon_X10_dropCrossing rfl rfl rfl (by decide +kernel) ⟨Nat.le_of_ble_eq_true rfl, Nat.le_of_ble_eq_true rfl⟩) [3] [0, 1, 2] [0, 1, 2, 3] rfl rfl rfl rfl (by decide) rfl rfl hl.1 (Nat.le_of_ble_eq_true rfl) dX10_removeBigon_175 ⟨Nat.le_of_ble_eq_true rfl, Nat.le_of_ble_eq_true rfl⟩ (fun H locs hP hD hS => ?_)
              refine lv_aload_n hx hb dX10_removeBigon_178 rfl (lv_at hl 0 rfl) ?_
              obtain ⟨r_21, o_saved_21, o_now_21, o_history_21, hc_21, hf⟩ := bnd4_s hf
              refine kcVi (As := []) (rest := []) (w2 := [(a_this, .inr (7, [.ref a_now, .ref a_history, .int o_saved_21, .ref a_kept, .ref a_isKept, .ref a_text, .int i_length, .int i_next, .ref a_read, .ref a_uses, .ref a_entry, .ref a_passed, .ref a_draft, .ref a_label, .ref a_met, .ref a_bracket, .ref a_matrix])), (a_now, .inl (cyI, 34, .inl o_now_21)), (a_history, .inl (cyI, 272, .inl o_history_21)), (a_draft, .inl (cyI, 34, .inl o_p0_20))]) S hK hP hD hS hA hN (mX10_finishDraft l D cyI cyZ H.size a_this a_now a_history a_kept a_isKept a_text a_read a_uses a_entry a_passed a_draft a_label a_met a_bracket a_matrix i_saved i_length i_next f_now f_history o_p0_20 r_21 o_saved_21 o_now_21 o_history_21 hc_21) (cwV 0 hts gX10_removeBigon_X10_finishDraft rfl rfl rfl (by decide +kernel) ⟨Nat.le_of_ble_eq_true rfl, Nat.le_of_ble_eq_true rfl⟩) 7 0 rfl rfl [0, 1, 2, 3] [] [0, 1, 2, 3] rfl rfl rfl rfl (by decide) rfl rfl hl.1 (Nat.le_of_ble_eq_true rfl) dX10_removeBigon_179 ⟨Nat.le_of_ble_eq_true rfl, Nat.le_of_ble_eq_true rfl⟩ (fun H locs hP hD hS => ?_)
              obtain ⟨rfl, rfl, rfl, rfl, rfl⟩ := some5_s hf
              exact kRi hx hb hr hlocks hP hK hD hS rfl dX10_removeBigon_182
            refine lv_icmp_le (tgt := 174) hx hb dX10_removeBigon_167 (by decide) (fun c_22 => ?_) (fun c_22 => ?_)
            · replace hf := kt_p hf c_22
              refine lv_iload_n hx hb dX10_removeBigon_174 rfl (lv_at hl 1 rfl) ?_
              exact hJ_2 v1 H locs ls hf hP hD hS (lv_sub hl [0] rfl)
            · replace hf := kt_n hf c_22
              refine lv_iload_n hx hb dX10_removeBigon_170 rfl (lv_at hl 2 rfl) ?_
              refine lv_goto (tgt := 175) hx hb dX10_removeBigon_171 (by decide) ?_
              exact hJ_2 v2 H locs ls hf hP hD hS (lv_sub hl [0] rfl)
          refine lv_icmp_le (tgt := 157) hx hb dX10_removeBigon_150 (by decide) (fun c_23 => ?_) (fun c_23 => ?_)
          · replace hf := kt_p hf c_23
            refine lv_iload_n hx hb dX10_removeBigon_157 rfl (lv_at hl 5 rfl) ?_
            exact hJ_1 v2 H locs ls hf hP hD hS (lv_sub hl [3, 4, 5] rfl)
          · replace hf := kt_n hf c_23
            refine lv_iload_n hx hb dX10_removeBigon_153 rfl (lv_at hl 4 rfl) ?_
            refine lv_goto (tgt := 158) hx hb dX10_removeBigon_154 (by decide) ?_
            exact hJ_1 v1 H locs ls hf hP hD hS (lv_sub hl [3, 4, 5] rfl)
        · replace hf := kt_n hf c_24
          refine lv_ldc (v := (-1000002)) hx hb hown (hts (.constant RX10 133 (-1000002)) qX10_removeBigon_2) dX10_removeBigon_35 ?_
          obtain ⟨rfl, rfl, rfl, rfl, rfl⟩ := some5_s hf
          exact kRi hx hb hr hlocks hP hK hD hS rfl dX10_removeBigon_37
      · replace hf := kt_p hf c_25
        refine lv_ldc (v := (-1000001)) hx hb hown (hts (.constant RX10 68 (-1000001)) qX10_removeBigon_0) dX10_removeBigon_21 ?_
        obtain ⟨rfl, rfl, rfl, rfl, rfl⟩ := some5_s hf
        exact kRi hx hb hr hlocks hP hK hD hS rfl dX10_removeBigon_23
def kX10_isKink (v1 : Int32) (f_now : Nat → Int32) : Option (Int32) :=
  bnd1 (kX10_isCrossing v1 f_now) (fun r_1 => if r_1 = 0 then some (-1000001) else bnd1 (kX10_kinkEnd v1 f_now) (fun r_2 => if r_2 < 0 then some 0 else some 1))
def rmX10_isKink : Room := { frames := 2, cells := 0, slots := 0, locals := 45 }
theorem qX10_isKink_0 : (.constant RX10 68 (-1000001) : Cond) ∈ wsX10_isKink := by decide +kernel
set_option maxHeartbeats 4000000 in
set_option maxRecDepth 100000 in
theorem mX10_isKink (l : Launch) (D : va_G) (cyI cyZ : ClassId) (sz : Nat) (a_this a_now a_history a_kept a_isKept a_text a_read a_uses a_entry a_passed a_draft a_label a_met a_bracket a_matrix : Nat) (v1 : Int32) (i_saved : Int32) (i_length : Int32) (i_next : Int32) (f_now : Nat → Int32) (r : Int32) (hf : kX10_isKink v1 f_now = some r) : Met l yX10_isKink wsX10_isKink rmX10_isKink (kPre D cyI cyZ [.ref a_this, .int v1] [(a_this, .inr (7, [.ref a_now, .ref a_history, .int i_saved, .ref a_kept, .ref a_isKept, .ref a_text, .int i_length, .int i_next, .ref a_read, .ref a_uses, .ref a_entry, .ref a_passed, .ref a_draft, .ref a_label, .ref a_met, .ref a_bracket, .ref a_matrix])), (a_now, .inl (cyI, 34, .inl f_now))] sz) (kQi D cyI cyZ (va_A [(a_this, .inr (7, [.ref a_now, .ref a_history, .int i_saved, .ref a_kept, .ref a_isKept, .ref a_text, .int i_length, .int i_next, .ref a_read, .ref a_uses, .ref a_entry, .ref a_passed, .ref a_draft, .ref a_label, .ref a_met, .ref a_bracket, .ref a_matrix])), (a_now, .inl (cyI, 34, .inl f_now))] sz) [(a_this, .inr (7, [.ref a_now, .ref a_history, .int i_saved, .ref a_kept, .ref a_isKept, .ref a_text, .int i_length, .int i_next, .ref a_read, .ref a_uses, .ref a_entry, .ref a_passed, .ref a_draft, .ref a_label, .ref a_met, .ref a_bracket, .ref a_matrix])), (a_now, .inl (cyI, 34, .inl f_now))] r) 0 0 (va_A [(a_this, .inr (7, [.ref a_now, .ref a_history, .int i_saved, .ref a_kept, .ref a_isKept, .ref a_text, .int i_length, .int i_next, .ref a_read, .ref a_uses, .ref a_entry, .ref a_passed, .ref a_draft, .ref a_label, .ref a_met, .ref a_bracket, .ref a_matrix])), (a_now, .inl (cyI, 34, .inl f_now))] sz) := by
  refine Met.ofW (cc := cX10_isKink) (maxL := 2) (ret := (some .int)) (by decide) rfl ?_
  intro p e s m args below meth c s₁ B hml hv
  obtain ⟨rfl, hsz, hP, hK, hD0, hN⟩ := hv
  have hx := B.exec
  have hb := B.bytes
  have hr := B.returns
  have hts := atoms_spec (ws := wsX10_isKink) B.pre
  have hown : s.vm.findClass RX10 = some m.cls := findClass_of_methodNamed B.named
  have hlocks := B.notSynchronized
  subst hsz
  have hD := hD0.self (sz := s.heap.size)
  generalize hAe : va_A [(a_this, .inr (7, [.ref a_now, .ref a_history, .int i_saved, .ref a_kept, .ref a_isKept, .ref a_text, .int i_length, .int i_next, .ref a_read, .ref a_uses, .ref a_entry, .ref a_passed, .ref a_draft, .ref a_label, .ref a_met, .ref a_bracket, .ref a_matrix])), (a_now, .inl (cyI, 34, .inl f_now))] s.heap.size = A at hD ⊢
  have hA : ∀ q : Nat, s.heap.size ≤ q → A q := fun q h => by rw [← hAe]; exact Or.inr h
  clear hAe hD0
  have hS : va_S A s.heap s.heap [] := va_S.rf
  have S : CallFix p m c cX10_isKink 2 s (([.ref a_this, .int v1] : List Value).toArray) wsX10_isKink RX10 := ⟨hx, hb, hml, hown, hts⟩
  have hl := lv_entry ([.ref a_this, .int v1]) (n := 2) (Nat.le_of_ble_eq_true rfl)
  rw [lg_entry_eq]
  generalize (lg_sl ([.ref a_this, .int v1]) ++ List.replicate (2 - (lg_sl ([.ref a_this, .int v1])).length) Slot.unset).toArray = ls at hl ⊢
  replace hl : lv_has ls 2 [(0, .ref a_this), (1, .int v1)] := hl
  generalize ([] : List Loc) = locs at hS ⊢
  delta kX10_isKink at hf
  obtain ⟨H, hH⟩ : ∃ H, H = s.heap := ⟨_, rfl⟩
  have hS : va_S A s.heap H locs := by rw [hH]; exact hS
  have hP : va_P D vwCl [(a_this, .inr (7, [.ref a_now, .ref a_history, .int i_saved, .ref a_kept, .ref a_isKept, .ref a_text, .int i_length, .int i_next, .ref a_read, .ref a_uses, .ref a_entry, .ref a_passed, .ref a_draft, .ref a_label, .ref a_met, .ref a_bracket, .ref a_matrix])), (a_now, .inl (cyI, 34, .inl f_now))] H := by rw [hH]; exact hP
  suffices hgo : W p l e (headSpec wsX10_isKink rmX10_isKink).room s m (([.ref a_this, .int v1] : List Value).toArray) below meth c H locs 0 0 (MQ below (kQi D cyI cyZ A [(a_this, .inr (7, [.ref a_now, .ref a_history, .int i_saved, .ref a_kept, .ref a_isKept, .ref a_text, .int i_length, .int i_next, .ref a_read, .ref a_uses, .ref a_entry, .ref a_passed, .ref a_draft, .ref a_label, .ref a_met, .ref a_bracket, .ref a_matrix])), (a_now, .inl (cyI, 34, .inl f_now))] r) (([.ref a_this, .int v1] : List Value).toArray) s 0 0 A) (F0 m 0 ls []) by rw [hH] at hgo; exact hgo
  clear hH
  refine lv_aload_n hx hb dX10_isKink_0 rfl (lv_at hl 0 rfl) ?_
  refine lv_iload_n hx hb dX10_isKink_1 rfl (lv_at hl 1 rfl) ?_
  obtain ⟨r_1, hc_1, hf⟩ := bnd1_s hf
  refine kcVi (As := [.int v1]) (rest := []) (w2 := [(a_this, .inr (7, [.ref a_now, .ref a_history, .int i_saved, .ref a_kept, .ref a_isKept, .ref a_text, .int i_length, .int i_next, .ref a_read, .ref a_uses, .ref a_entry, .ref a_passed, .ref a_draft, .ref a_label, .ref a_met, .ref a_bracket, .ref a_matrix])), (a_now, .inl (cyI, 34, .inl f_now))]) S hK hP hD hS hA hN (mX10_isCrossing l D cyI cyZ H.size a_this a_now a_history a_kept a_isKept a_text a_read a_uses a_entry a_passed a_draft a_label a_met a_bracket a_matrix v1 i_saved i_length i_next f_now r_1 hc_1) (cwV 1 hts gX10_isKink_X10_isCrossing rfl rfl rfl (by decide +kernel) ⟨Nat.le_of_ble_eq_true rfl, Nat.le_of_ble_eq_true rfl⟩) 7 0 rfl rfl [0, 1] [] [0, 1] rfl rfl rfl rfl (by decide) rfl rfl hl.1 (Nat.le_of_ble_eq_true rfl) dX10_isKink_2 ⟨Nat.le_of_ble_eq_true rfl, Nat.le_of_ble_eq_true rfl⟩ (fun H locs hP hD hS => ?_)
  refine lv_if_ne (tgt := 13) hx hb dX10_isKink_5 (by decide) (fun c_4 => ?_) (fun c_4 => ?_)
  · replace hf := kt_n hf c_4
    refine lv_aload_n hx hb dX10_isKink_13 rfl (lv_at hl 0 rfl) ?_
    refine lv_iload_n hx hb dX10_isKink_14 rfl (lv_at hl 1 rfl) ?_
    obtain ⟨r_2, hc_2, hf⟩ := bnd1_s hf
    refine kcVi (As := [.int v1]) (rest := []) (w2 := [(a_this, .inr (7, [.ref a_now, .ref a_history, .int i_saved, .ref a_kept, .ref a_isKept, .ref a_text, .int i_length, .int i_next, .ref a_read, .ref a_uses, .ref a_entry, .ref a_passed, .ref a_draft, .ref a_label, .ref a_met, .ref a_bracket, .ref a_matrix])), (a_now, .inl (cyI, 34, .inl f_now))]) S hK hP hD hS hA hN (mX10_kinkEnd l D cyI cyZ H.size a_this a_now a_history a_kept a_isKept a_text a_read a_uses a_entry a_passed a_draft a_label a_met a_bracket a_matrix v1 i_saved i_length i_next f_now r_2 hc_2) (cwV 1 hts gX10_isKink_X10_kinkEnd rfl rfl rfl (by decide +kernel) ⟨Nat.le_of_ble_eq_true rfl, Nat.le_of_ble_eq_true rfl⟩) 7 0 rfl rfl [0, 1] [] [0, 1] rfl rfl rfl rfl (by decide) rfl rfl hl.1 (Nat.le_of_ble_eq_true rfl) dX10_isKink_15 ⟨Nat.le_of_ble_eq_true rfl, Nat.le_of_ble_eq_true rfl⟩ (fun H locs hP hD hS => ?_)
    refine lv_if_lt (tgt := 25) hx hb dX10_isKink_18 (by decide) (fun c_3 => ?_) (fun c_3 => ?_)
    · replace hf := kt_p hf c_3
      refine lv_iconst (v := 0) hx hb dX10_isKink_25 (by decide) ?_
      obtain rfl := some1_s hf
      exact kRi hx hb hr hlocks hP hK hD hS rfl dX10_isKink_26
    · replace hf := kt_n hf c_3
      refine lv_iconst (v := 1) hx hb dX10_isKink_21 (by decide) ?_
      refine lv_goto (tgt := 26) hx hb dX10_isKink_22 (by decide) ?_
      obtain rfl := some1_s hf
      exact kRi hx hb hr hlocks hP hK hD hS rfl dX10_isKink_26
  · replace hf := kt_p hf c_4
    refine lv_ldc (v := (-1000001)) hx hb hown (hts (.constant RX10 68 (-1000001)) qX10_isKink_0) dX10_isKink_8 ?_
    refine lv_goto (tgt := 26) hx hb dX10_isKink_10 (by decide) ?_
    obtain rfl := some1_s hf
    exact kRi hx hb hr hlocks hP hK hD hS rfl dX10_isKink_26
def kX10_bigonPartner_J2 (K_1 : Int32 → Int32 → Option (Int32)) (v2_1 : Int32) (v3_1 : Int32)  : Option (Int32) :=
  K_1 v2_1 (v3_1 + (-1))
def kX10_bigonPartner_L1 (v1 : Int32) (f_now : Nat → Int32) (K_1 : Int32 → Int32 → Option (Int32)) (v2_1 : Int32) (v3_1 : Int32) : Option (Int32) :=
  if v3_1 < 0 then some v2_1 else if v3_1 = v1 then kX10_bigonPartner_J2 K_1 v2_1 v3_1 else bnd1 (kX10_bigon v1 v3_1 f_now) (fun r_3 => if r_3 < 0 then kX10_bigonPartner_J2 K_1 v2_1 v3_1 else K_1 v3_1 (v3_1 + (-1)))
def kX10_bigonPartner (v1 : Int32) (f_now : Nat → Int32) : Option (Int32) :=
  bnd1 (kX10_isCrossing v1 f_now) (fun r_1 => if r_1 = 0 then some (-1000001) else bnd1 (kX10_crossings f_now) (fun r_2 => it2 (kX10_bigonPartner_L1 v1 f_now) 400 (-1000009) (r_2 - 1)))
def rmX10_bigonPartner : Room := { frames := 2, cells := 0, slots := 0, locals := 48 }
theorem qX10_bigonPartner_0 : (.constant RX10 153 (-1000009) : Cond) ∈ wsX10_bigonPartner := by decide +kernel
theorem qX10_bigonPartner_1 : (.constant RX10 68 (-1000001) : Cond) ∈ wsX10_bigonPartner := by decide +kernel
set_option maxHeartbeats 4000000 in
set_option maxRecDepth 100000 in
theorem mX10_bigonPartner (l : Launch) (D : va_G) (cyI cyZ : ClassId) (sz : Nat) (a_this a_now a_history a_kept a_isKept a_text a_read a_uses a_entry a_passed a_draft a_label a_met a_bracket a_matrix : Nat) (v1 : Int32) (i_saved : Int32) (i_length : Int32) (i_next : Int32) (f_now : Nat → Int32) (r : Int32) (hf : kX10_bigonPartner v1 f_now = some r) : Met l yX10_bigonPartner wsX10_bigonPartner rmX10_bigonPartner (kPre D cyI cyZ [.ref a_this, .int v1] [(a_this, .inr (7, [.ref a_now, .ref a_history, .int i_saved, .ref a_kept, .ref a_isKept, .ref a_text, .int i_length, .int i_next, .ref a_read, .ref a_uses, .ref a_entry, .ref a_passed, .ref a_draft, .ref a_label, .ref a_met, .ref a_bracket, .ref a_matrix])), (a_now, .inl (cyI, 34, .inl f_now))] sz) (kQi D cyI cyZ (va_A [(a_this, .inr (7, [.ref a_now, .ref a_history, .int i_saved, .ref a_kept, .ref a_isKept, .ref a_text, .int i_length, .int i_next, .ref a_read, .ref a_uses, .ref a_entry, .ref a_passed, .ref a_draft, .ref a_label, .ref a_met, .ref a_bracket, .ref a_matrix])), (a_now, .inl (cyI, 34, .inl f_now))] sz) [(a_this, .inr (7, [.ref a_now, .ref a_history, .int i_saved, .ref a_kept, .ref a_isKept, .ref a_text, .int i_length, .int i_next, .ref a_read, .ref a_uses, .ref a_entry, .ref a_passed, .ref a_draft, .ref a_label, .ref a_met, .ref a_bracket, .ref a_matrix])), (a_now, .inl (cyI, 34, .inl f_now))] r) 0 0 (va_A [(a_this, .inr (7, [.ref a_now, .ref a_history, .int i_saved, .ref a_kept, .ref a_isKept, .ref a_text, .int i_length, .int i_next, .ref a_read, .ref a_uses, .ref a_entry, .ref a_passed, .ref a_draft, .ref a_label, .ref a_met, .ref a_bracket, .ref a_matrix])), (a_now, .inl (cyI, 34, .inl f_now))] sz) := by
  refine Met.ofW (cc := cX10_bigonPartner) (maxL := 4) (ret := (some .int)) (by decide) rfl ?_
  intro p e s m args below meth c s₁ B hml hv
  obtain ⟨rfl, hsz, hP, hK, hD0, hN⟩ := hv
  have hx := B.exec
  have hb := B.bytes
  have hr := B.returns
  have hts := atoms_spec (ws := wsX10_bigonPartner) B.pre
  have hown : s.vm.findClass RX10 = some m.cls := findClass_of_methodNamed B.named
  have hlocks := B.notSynchronized
  subst hsz
  have hD := hD0.self (sz := s.heap.size)
  generalize hAe : va_A [(a_this, .inr (7, [.ref a_now, .ref a_history, .int i_saved, .ref a_kept, .ref a_isKept, .ref a_text, .int i_length, .int i_next, .ref a_read, .ref a_uses, .ref a_entry, .ref a_passed, .ref a_draft, .ref a_label, .ref a_met, .ref a_bracket, .ref a_matrix])), (a_now, .inl (cyI, 34, .inl f_now))] s.heap.size = A at hD ⊢
  have hA : ∀ q : Nat, s.heap.size ≤ q → A q := fun q h => by rw [← hAe]; exact Or.inr h
  clear hAe hD0
  have hS : va_S A s.heap s.heap [] := va_S.rf
  have S : CallFix p m c cX10_bigonPartner 4 s (([.ref a_this, .int v1] : List Value).toArray) wsX10_bigonPartner RX10 := ⟨hx, hb, hml, hown, hts⟩
  have hl := lv_entry ([.ref a_this, .int v1]) (n := 4) (Nat.le_of_ble_eq_true rfl)
  rw [lg_entry_eq]
  generalize (lg_sl ([.ref a_this, .int v1]) ++ List.replicate (4 - (lg_sl ([.ref a_this, .int v1])).length) Slot.unset).toArray = ls at hl ⊢
  replace hl : lv_has ls 4 [(0, .ref a_this), (1, .int v1)] := hl
  generalize ([] : List Loc) = locs at hS ⊢
  delta kX10_bigonPartner at hf
  obtain ⟨H, hH⟩ : ∃ H, H = s.heap := ⟨_, rfl⟩
  have hS : va_S A s.heap H locs := by rw [hH]; exact hS
  have hP : va_P D vwCl [(a_this, .inr (7, [.ref a_now, .ref a_history, .int i_saved, .ref a_kept, .ref a_isKept, .ref a_text, .int i_length, .int i_next, .ref a_read, .ref a_uses, .ref a_entry, .ref a_passed, .ref a_draft, .ref a_label, .ref a_met, .ref a_bracket, .ref a_matrix])), (a_now, .inl (cyI, 34, .inl f_now))] H := by rw [hH]; exact hP
  suffices hgo : W p l e (headSpec wsX10_bigonPartner rmX10_bigonPartner).room s m (([.ref a_this, .int v1] : List Value).toArray) below meth c H locs 0 0 (MQ below (kQi D cyI cyZ A [(a_this, .inr (7, [.ref a_now, .ref a_history, .int i_saved, .ref a_kept, .ref a_isKept, .ref a_text, .int i_length, .int i_next, .ref a_read, .ref a_uses, .ref a_entry, .ref a_passed, .ref a_draft, .ref a_label, .ref a_met, .ref a_bracket, .ref a_matrix])), (a_now, .inl (cyI, 34, .inl f_now))] r) (([.ref a_this, .int v1] : List Value).toArray) s 0 0 A) (F0 m 0 ls []) by rw [hH] at hgo; exact hgo
  clear hH
  refine lv_aload_n hx hb dX10_bigonPartner_0 rfl (lv_at hl 0 rfl) ?_
  refine lv_iload_n hx hb dX10_bigonPartner_1 rfl (lv_at hl 1 rfl) ?_
  obtain ⟨r_1, hc_1, hf⟩ := bnd1_s hf
  refine kcVi (As := [.int v1]) (rest := []) (w2 := [(a_this, .inr (7, [.ref a_now, .ref a_history, .int i_saved, .ref a_kept, .ref a_isKept, .ref a_text, .int i_length, .int i_next, .ref a_read, .ref a_uses, .ref a_entry, .ref a_passed, .ref a_draft, .ref a_label, .ref a_met, .ref a_bracket, .ref a_matrix])), (a_now, .inl (cyI, 34, .inl f_now))]) S hK hP hD hS hA hN (mX10_isCrossing l D cyI cyZ H.size a_this a_now a_history a_kept a_isKept a_text a_read a_uses a_entry a_passed a_draft a_label a_met a_bracket a_matrix v1 i_saved i_length i_next f_now r_1 hc_1) (cwV 1 hts gX10_bigonPartner_X10_isCrossing rfl rfl rfl (by decide +kernel) ⟨Nat.le_of_ble_eq_true rfl, Nat.le_of_ble_eq_true rfl⟩) 7 0 rfl rfl [0, 1] [] [0, 1] rfl rfl rfl rfl (by decide) rfl rfl hl.1 (Nat.le_of_ble_eq_true rfl) dX10_bigonPartner_2 ⟨Nat.le_of_ble_eq_true rfl, Nat.le_of_ble_eq_true rfl⟩ (fun H locs hP hD hS => ?_)
  refine lv_if_ne (tgt := 11) hx hb dX10_bigonPartner_5 (by decide) (fun c_7 => ?_) (fun c_7 => ?_)
  · replace hf := kt_n hf c_7
    refine lv_ldc (v := (-1000009)) hx hb hown (hts (.constant RX10 153 (-1000009)) qX10_bigonPartner_0) dX10_bigonPartner_11 ?_
    refine lv_istore_n (lv' := [(2, .int (-1000009)), (0, .ref a_this), (1, .int v1)]) hx hb dX10_bigonPartner_13 rfl hl (by decide) rfl (fun ls hl => ?_)
    refine lv_aload_n hx hb dX10_bigonPartner_14 rfl (lv_at hl 1 rfl) ?_
    obtain ⟨r_2, hc_2, hf⟩ := bnd1_s hf
    refine kcVi (As := []) (rest := []) (w2 := [(a_this, .inr (7, [.ref a_now, .ref a_history, .int i_saved, .ref a_kept, .ref a_isKept, .ref a_text, .int i_length, .int i_next, .ref a_read, .ref a_uses, .ref a_entry, .ref a_passed, .ref a_draft, .ref a_label, .ref a_met, .ref a_bracket, .ref a_matrix])), (a_now, .inl (cyI, 34, .inl f_now))]) S hK hP hD hS hA hN (mX10_crossings l D cyI cyZ H.size a_this a_now a_history a_kept a_isKept a_text a_read a_uses a_entry a_passed a_draft a_label a_met a_bracket a_matrix i_saved i_length i_next f_now r_2 hc_2) (cwV 0 hts gX10_bigonPartner_X10_crossings rfl rfl rfl (by decide +kernel) ⟨Nat.le_of_ble_eq_true rfl, Nat.le_of_ble_eq_true rfl⟩) 7 0 rfl rfl [0, 1] [] [0, 1] rfl rfl rfl rfl (by decide) rfl rfl hl.1 (Nat.le_of_ble_eq_true rfl) dX10_bigonPartner_15 ⟨Nat.le_of_ble_eq_true rfl, Nat.le_of_ble_eq_true rfl⟩ (fun H locs hP hD hS => ?_)
    refine lv_iconst (v := 1) hx hb dX10_bigonPartner_18 (by decide) ?_
    refine lv_isub hx hb dX10_bigonPartner_19 ?_
    refine lv_istore_n (lv' := [(3, .int (r_2 - 1)), (2, .int (-1000009)), (0, .ref a_this), (1, .int v1)]) hx hb dX10_bigonPartner_20 rfl hl (by decide) rfl (fun ls hl => ?_)
    have hL_1 : ∀ (n : Nat) (v2_1 : Int32) (v3_1 : Int32) (H : Heap) (locs : List Loc) (ls : Array Slot), it2 (kX10_bigonPartner_L1 v1 f_now) n v2_1 v3_1 = some r → va_P D vwCl [(a_this, .inr (7, [.ref a_now, .ref a_history, .int i_saved, .ref a_kept, .ref a_isKept, .ref a_text, .int i_length, .int i_next, .ref a_read, .ref a_uses, .ref a_entry, .ref a_passed, .ref a_draft, .ref a_label, .ref a_met, .ref a_bracket, .ref a_matrix])), (a_now, .inl (cyI, 34, .inl f_now))] H → va_D A [(a_this, .inr (7, [.ref a_now, .ref a_history, .int i_saved, .ref a_kept, .ref a_isKept, .ref a_text, .int i_length, .int i_next, .ref a_read, .ref a_uses, .ref a_entry, .ref a_passed, .ref a_draft, .ref a_label, .ref a_met, .ref a_bracket, .ref a_matrix])), (a_now, .inl (cyI, 34, .inl f_now))] → va_S A s.heap H locs → lv_has ls 4 [(0, .ref a_this), (1, .int v1), (2, .int v2_1), (3, .int v3_1)] → W p l e (headSpec wsX10_bigonPartner rmX10_bigonPartner).room s m (([.ref a_this, .int v1] : List Value).toArray) below meth c H locs 0 0 (MQ below (kQi D cyI cyZ A [(a_this, .inr (7, [.ref a_now, .ref a_history, .int i_saved, .ref a_kept, .ref a_isKept, .ref a_text, .int i_length, .int i_next, .ref a_read, .ref a_uses, .ref a_entry, .ref a_passed, .ref a_draft, .ref a_label, .ref a_met, .ref a_bracket, .ref a_matrix])), (a_now, .inl (cyI, 34, .inl f_now))] r) (([.ref a_this, .int v1] : List Value).toArray) s 0 0 A) (F0 m 21 ls []) := by
      intro n_1
      induction n_1 with
      | zero =>
        intro _ _ _ _ _ hf
        exact (it2_z hf).elim
      | succ n_1 ih_1 =>
        intro v2_1 v3_1 H locs ls hf hP hD hS hl
        replace hf := it2_s hf
        rw [kX10_bigonPartner_L1] at hf
        refine lv_iload_n hx hb dX10_bigonPartner_21 rfl (lv_at hl 3 rfl) ?_
        refine lv_if_lt (tgt := 51) hx hb dX10_bigonPartner_22 (by decide) (fun c_6 => ?_) (fun c_6 => ?_)
        · replace hf := kt_p hf c_6
          refine lv_iload_n hx hb dX10_bigonPartner_51 rfl (lv_at hl 2 rfl) ?_
          obtain rfl := some1_s hf
          exact kRi hx hb hr hlocks hP hK hD hS rfl dX10_bigonPartner_52
        · replace hf := kt_n hf c_6
          refine lv_iload_n hx hb dX10_bigonPartner_25 rfl (lv_at hl 3 rfl) ?_
          refine lv_iload_n hx hb dX10_bigonPartner_26 rfl (lv_at hl 1 rfl) ?_
          have hJ_2 : ∀  (H : Heap) (locs : List Loc) (ls : Array Slot), kX10_bigonPartner_J2 (it2 (kX10_bigonPartner_L1 v1 f_now) n_1) v2_1 v3_1  = some r → va_P D vwCl [(a_this, .inr (7, [.ref a_now, .ref a_history, .int i_saved, .ref a_kept, .ref a_isKept, .ref a_text, .int i_length, .int i_next, .ref a_read, .ref a_uses, .ref a_entry, .ref a_passed, .ref a_draft, .ref a_label, .ref a_met, .ref a_bracket, .ref a_matrix])), (a_now, .inl (cyI, 34, .inl f_now))] H → va_D A [(a_this, .inr (7, [.ref a_now, .ref a_history, .int i_saved, .ref a_kept, .ref a_isKept, .ref a_text, .int i_length, .int i_next, .ref a_read, .ref a_uses, .ref a_entry, .ref a_passed, .ref a_draft, .ref a_label, .ref a_met, .ref a_bracket, .ref a_matrix])), (a_now, .inl (cyI, 34, .inl f_now))] → va_S A s.heap H locs → lv_has ls 4 [(0, .ref a_this), (1, .int v1), (2, .int v2_1), (3, .int v3_1)] → W p l e (headSpec wsX10_bigonPartner rmX10_bigonPartner).room s m (([.ref a_this, .int v1] : List Value).toArray) below meth c H locs 0 0 (MQ below (kQi D cyI cyZ A [(a_this, .inr (7, [.ref a_now, .ref a_history, .int i_saved, .ref a_kept, .ref a_isKept, .ref a_text, .int i_length, .int i_next, .ref a_read, .ref a_uses, .ref a_entry, .ref a_passed, .ref a_draft, .ref a_label, .ref a_met, .ref a_bracket, .ref a_matrix])), (a_now, .inl (cyI, 34, .inl f_now))] r) (([.ref a_this, .int v1] : List Value).toArray) s 0 0 A) (F0 m 43 ls []) := by
            intro  H locs ls hf hP hD hS hl
            delta kX10_bigonPartner_J2 at hf
            refine lv_iload_n hx hb dX10_bigonPartner_43 rfl (lv_at hl 2 rfl) ?_
            refine lv_istore_n (lv' := [(2, .int v2_1), (0, .ref a_this), (1, .int v1), (3, .int v3_1)]) hx hb dX10_bigonPartner_44 rfl hl (by decide) rfl (fun ls hl => ?_)
            refine lv_iinc (v := (v3_1 + (-1))) (lv' := [(3, .int (v3_1 + (-1))), (2, .int v2_1), (0, .ref a_this), (1, .int v1)]) hx hb dX10_bigonPartner_45 hl (k := 3) rfl rfl (by decide) rfl (fun ls hl => ?_)
            refine lv_goto (tgt := 21) hx hb dX10_bigonPartner_48 (by decide) ?_
            exact ih_1 v2_1 (v3_1 + (-1)) H locs ls hf hP hD hS (lv_sub hl [2, 3, 1, 0] rfl)
          refine lv_icmp_eq (tgt := 43) hx hb dX10_bigonPartner_27 (by decide) (fun c_5 => ?_) (fun c_5 => ?_)
          · replace hf := kt_p hf c_5
            exact hJ_2 H locs ls hf hP hD hS (lv_sub hl [0, 1, 2, 3] rfl)
          · replace hf := kt_n hf c_5
            refine lv_aload_n hx hb dX10_bigonPartner_30 rfl (lv_at hl 0 rfl) ?_
            refine lv_iload_n hx hb dX10_bigonPartner_31 rfl (lv_at hl 1 rfl) ?_
            refine lv_iload_n hx hb dX10_bigonPartner_32 rfl (lv_at hl 3 rfl) ?_
            obtain ⟨r_3, hc_3, hf⟩ := bnd1_s hf
            refine kcVi (As := [.int v1, .int v3_1]) (rest := []) (w2 := [(a_this, .inr (7, [.ref a_now, .ref a_history, .int i_saved, .ref a_kept, .ref a_isKept, .ref a_text, .int i_length, .int i_next, .ref a_read, .ref a_uses, .ref a_entry, .ref a_passed, .ref a_draft, .ref a_label, .ref a_met, .ref a_bracket, .ref a_matrix])), (a_now, .inl (cyI, 34, .inl f_now))]) S hK hP hD hS hA hN (mX10_bigon l D cyI cyZ H.size a_this a_now a_history a_kept a_isKept a_text a_read a_uses a_entry a_passed a_draft a_label a_met a_bracket a_matrix v1 v3_1 i_saved i_length i_next f_now r_3 hc_3) (cwV 2 hts gX10_bigonPartner_X10_bigon rfl rfl rfl (by decide +kernel) ⟨Nat.le_of_ble_eq_true rfl, Nat.le_of_ble_eq_true rfl⟩) 7 0 rfl rfl [0, 1] [] [0, 1] rfl rfl rfl rfl (by decide) rfl rfl hl.1 (Nat.le_of_ble_eq_true rfl) dX10_bigonPartner_33 ⟨Nat.le_of_ble_eq_true rfl, Nat.le_of_ble_eq_true rfl⟩ (fun H locs hP hD hS => ?_)
            refine lv_if_lt (tgt := 43) hx hb dX10_bigonPartner_36 (by decide) (fun c_4 => ?_) (fun c_4 => ?_)
            · replace hf := kt_p hf c_4
              exact hJ_2 H locs ls hf hP hD hS (lv_sub hl [0, 1, 2, 3] rfl)
            · replace hf := kt_n hf c_4
              refine lv_iload_n hx hb dX10_bigonPartner_39 rfl (lv_at hl 3 rfl) ?_
              refine lv_goto (tgt := 44) hx hb dX10_bigonPartner_40 (by decide) ?_
              refine lv_istore_n (lv' := [(2, .int v3_1), (0, .ref a_this), (1, .int v1), (3, .int v3_1)]) hx hb dX10_bigonPartner_44 rfl hl (by decide) rfl (fun ls hl => ?_)
              refine lv_iinc (v := (v3_1 + (-1))) (lv' := [(3, .int (v3_1 + (-1))), (2, .int v3_1), (0, .ref a_this), (1, .int v1)]) hx hb dX10_bigonPartner_45 hl (k := 3) rfl rfl (by decide) rfl (fun ls hl => ?_)
              refine lv_goto (tgt := 21) hx hb dX10_bigonPartner_48 (by decide) ?_
              exact ih_1 v3_1 (v3_1 + (-1)) H locs ls hf hP hD hS (lv_sub hl [2, 3, 1, 0] rfl)
    exact hL_1 400 (-1000009) (r_2 - 1) H locs ls hf hP hD hS (lv_sub hl [2, 3, 1, 0] rfl)
  · replace hf := kt_p hf c_7
    refine lv_ldc (v := (-1000001)) hx hb hown (hts (.constant RX10 68 (-1000001)) qX10_bigonPartner_1) dX10_bigonPartner_8 ?_
    obtain rfl := some1_s hf
    exact kRi hx hb hr hlocks hP hK hD hS rfl dX10_bigonPartner_10
def kX10_beginClasses_L1  (K_1 : Int32 → (Nat → Int32) → Option ((Nat → Int32))) (v1_1 : Int32) (f_label_1 : Nat → Int32) : Option ((Nat → Int32)) :=
  if 16 < v1_1 then some f_label_1 else ck v1_1 17 (K_1 (v1_1 + 1) (upd f_label_1 v1_1.toNatClampNeg v1_1))
def kX10_beginClasses (f_label : Nat → Int32) : Option ((Nat → Int32)) :=
  it2 kX10_beginClasses_L1 400 0 f_label
def rmX10_beginClasses : Room := { frames := 0, cells := 0, slots := 0, locals := 0 }
theorem qX10_beginClasses_0 : (.fieldLink RX10 41 "KnotDiagramModel" "label" "[I" : Cond) ∈ wsX10_beginClasses := by decide +kernel
theorem qX10_beginClasses_X10 : ∀ w ∈ wsX100, w ∈ wsX10_beginClasses := by decide +kernel
set_option maxHeartbeats 4000000 in
set_option maxRecDepth 100000 in
theorem mX10_beginClasses (l : Launch) (D : va_G) (cyI cyZ : ClassId) (sz : Nat) (a_this a_now a_history a_kept a_isKept a_text a_read a_uses a_entry a_passed a_draft a_label a_met a_bracket a_matrix : Nat) (i_saved : Int32) (i_length : Int32) (i_next : Int32) (f_label : Nat → Int32) (o_label : Nat → Int32) (hf : kX10_beginClasses f_label = some o_label) : Met l yX10_beginClasses wsX10_beginClasses rmX10_beginClasses (kPre D cyI cyZ [.ref a_this] [(a_this, .inr (7, [.ref a_now, .ref a_history, .int i_saved, .ref a_kept, .ref a_isKept, .ref a_text, .int i_length, .int i_next, .ref a_read, .ref a_uses, .ref a_entry, .ref a_passed, .ref a_draft, .ref a_label, .ref a_met, .ref a_bracket, .ref a_matrix])), (a_label, .inl (cyI, 17, .inl f_label))] sz) (kQv D cyI cyZ (va_A [(a_this, .inr (7, [.ref a_now, .ref a_history, .int i_saved, .ref a_kept, .ref a_isKept, .ref a_text, .int i_length, .int i_next, .ref a_read, .ref a_uses, .ref a_entry, .ref a_passed, .ref a_draft, .ref a_label, .ref a_met, .ref a_bracket, .ref a_matrix])), (a_label, .inl (cyI, 17, .inl f_label))] sz) [(a_this, .inr (7, [.ref a_now, .ref a_history, .int i_saved, .ref a_kept, .ref a_isKept, .ref a_text, .int i_length, .int i_next, .ref a_read, .ref a_uses, .ref a_entry, .ref a_passed, .ref a_draft, .ref a_label, .ref a_met, .ref a_bracket, .ref a_matrix])), (a_label, .inl (cyI, 17, .inl o_label))]) 0 0 (va_A [(a_this, .inr (7, [.ref a_now, .ref a_history, .int i_saved, .ref a_kept, .ref a_isKept, .ref a_text, .int i_length, .int i_next, .ref a_read, .ref a_uses, .ref a_entry, .ref a_passed, .ref a_draft, .ref a_label, .ref a_met, .ref a_bracket, .ref a_matrix])), (a_label, .inl (cyI, 17, .inl f_label))] sz) := by
  refine Met.ofW (cc := cX10_beginClasses) (maxL := 2) (ret := none) (by decide) rfl ?_
  intro p e s m args below meth c s₁ B hml hv
  obtain ⟨rfl, hsz, hP, hK, hD0, hN⟩ := hv
  have hx := B.exec
  have hb := B.bytes
  have hr := B.returns
  have hts := atoms_spec (ws := wsX10_beginClasses) B.pre
  have hown : s.vm.findClass RX10 = some m.cls := findClass_of_methodNamed B.named
  have hlocks := B.notSynchronized
  subst hsz
  have hD := hD0.self (sz := s.heap.size)
  generalize hAe : va_A [(a_this, .inr (7, [.ref a_now, .ref a_history, .int i_saved, .ref a_kept, .ref a_isKept, .ref a_text, .int i_length, .int i_next, .ref a_read, .ref a_uses, .ref a_entry, .ref a_passed, .ref a_draft, .ref a_label, .ref a_met, .ref a_bracket, .ref a_matrix])), (a_label, .inl (cyI, 17, .inl f_label))] s.heap.size = A at hD ⊢
  have hA : ∀ q : Nat, s.heap.size ≤ q → A q := fun q h => by rw [← hAe]; exact Or.inr h
  clear hAe hD0
  have hS : va_S A s.heap s.heap [] := va_S.rf
  have S : CallFix p m c cX10_beginClasses 2 s (([.ref a_this] : List Value).toArray) wsX10_beginClasses RX10 := ⟨hx, hb, hml, hown, hts⟩
  have hl := lv_entry ([.ref a_this]) (n := 2) (Nat.le_of_ble_eq_true rfl)
  rw [lg_entry_eq]
  generalize (lg_sl ([.ref a_this]) ++ List.replicate (2 - (lg_sl ([.ref a_this])).length) Slot.unset).toArray = ls at hl ⊢
  replace hl : lv_has ls 2 [(0, .ref a_this)] := hl
  generalize ([] : List Loc) = locs at hS ⊢
  delta kX10_beginClasses at hf
  obtain ⟨H, hH⟩ : ∃ H, H = s.heap := ⟨_, rfl⟩
  have hS : va_S A s.heap H locs := by rw [hH]; exact hS
  have hP : va_P D vwCl [(a_this, .inr (7, [.ref a_now, .ref a_history, .int i_saved, .ref a_kept, .ref a_isKept, .ref a_text, .int i_length, .int i_next, .ref a_read, .ref a_uses, .ref a_entry, .ref a_passed, .ref a_draft, .ref a_label, .ref a_met, .ref a_bracket, .ref a_matrix])), (a_label, .inl (cyI, 17, .inl f_label))] H := by rw [hH]; exact hP
  suffices hgo : W p l e (headSpec wsX10_beginClasses rmX10_beginClasses).room s m (([.ref a_this] : List Value).toArray) below meth c H locs 0 0 (MQ below (kQv D cyI cyZ A [(a_this, .inr (7, [.ref a_now, .ref a_history, .int i_saved, .ref a_kept, .ref a_isKept, .ref a_text, .int i_length, .int i_next, .ref a_read, .ref a_uses, .ref a_entry, .ref a_passed, .ref a_draft, .ref a_label, .ref a_met, .ref a_bracket, .ref a_matrix])), (a_label, .inl (cyI, 17, .inl o_label))]) (([.ref a_this] : List Value).toArray) s 0 0 A) (F0 m 0 ls []) by rw [hH] at hgo; exact hgo
  clear hH
  refine lv_iconst (v := 0) hx hb dX10_beginClasses_0 (by decide) ?_
  refine lv_istore_n (lv' := [(1, .int 0), (0, .ref a_this)]) hx hb dX10_beginClasses_1 rfl hl (by decide) rfl (fun ls hl => ?_)
  have hL_1 : ∀ (n : Nat) (v1_1 : Int32) (f_label_1 : Nat → Int32) (H : Heap) (locs : List Loc) (ls : Array Slot), it2 kX10_beginClasses_L1 n v1_1 f_label_1 = some o_label → va_P D vwCl [(a_this, .inr (7, [.ref a_now, .ref a_history, .int i_saved, .ref a_kept, .ref a_isKept, .ref a_text, .int i_length, .int i_next, .ref a_read, .ref a_uses, .ref a_entry, .ref a_passed, .ref a_draft, .ref a_label, .ref a_met, .ref a_bracket, .ref a_matrix])), (a_label, .inl (cyI, 17, .inl f_label_1))] H → va_D A [(a_this, .inr (7, [.ref a_now, .ref a_history, .int i_saved, .ref a_kept, .ref a_isKept, .ref a_text, .int i_length, .int i_next, .ref a_read, .ref a_uses, .ref a_entry, .ref a_passed, .ref a_draft, .ref a_label, .ref a_met, .ref a_bracket, .ref a_matrix])), (a_label, .inl (cyI, 17, .inl f_label_1))] → va_S A s.heap H locs → lv_has ls 2 [(0, .ref a_this), (1, .int v1_1)] → W p l e (headSpec wsX10_beginClasses rmX10_beginClasses).room s m (([.ref a_this] : List Value).toArray) below meth c H locs 0 0 (MQ below (kQv D cyI cyZ A [(a_this, .inr (7, [.ref a_now, .ref a_history, .int i_saved, .ref a_kept, .ref a_isKept, .ref a_text, .int i_length, .int i_next, .ref a_read, .ref a_uses, .ref a_entry, .ref a_passed, .ref a_draft, .ref a_label, .ref a_met, .ref a_bracket, .ref a_matrix])), (a_label, .inl (cyI, 17, .inl o_label))]) (([.ref a_this] : List Value).toArray) s 0 0 A) (F0 m 2 ls []) := by
    intro n_1
    induction n_1 with
    | zero =>
      intro _ _ _ _ _ hf
      exact (it2_z hf).elim
    | succ n_1 ih_1 =>
      intro v1_1 f_label_1 H locs ls hf hP hD hS hl
      replace hf := it2_s hf
      rw [kX10_beginClasses_L1] at hf
      refine lv_iload_n hx hb dX10_beginClasses_2 rfl (lv_at hl 1 rfl) ?_
      refine lv_bipush (v := 16) hx hb dX10_beginClasses_3 (by decide) ?_
      refine lv_icmp_gt (tgt := 21) hx hb dX10_beginClasses_5 (by decide) (fun c_2 => ?_) (fun c_2 => ?_)
      · replace hf := kt_p hf c_2
        obtain rfl := some1_s hf
        exact kRv hx hb hr hlocks hP hK hD hS dX10_beginClasses_21
      · replace hf := kt_n hf c_2
        refine lv_aload_n hx hb dX10_beginClasses_8 rfl (lv_at hl 0 rfl) ?_
        refine va_get (D := D) (ci := 7) (v := .ref a_label) (C := RX10) (T := TX10) (N := 17) hx hb hts qX10_beginClasses_X10 hown hK hP 0 rfl rfl 13 (Nat.le_of_ble_eq_true rfl) (hts (.fieldLink RX10 41 "KnotDiagramModel" "label" "[I") qX10_beginClasses_0) (fun _ h9 => h9) rfl dX10_beginClasses_9 ?_
        refine lv_iload_n hx hb dX10_beginClasses_12 rfl (lv_at hl 1 rfl) ?_
        refine lv_iload_n hx hb dX10_beginClasses_13 rfl (lv_at hl 1 rfl) ?_
        obtain ⟨hi_1, hf⟩ := ck_s hf
        refine va_iast hx hb hK hP hD hS 1 0 rfl rfl hi_1 dX10_beginClasses_14 (fun H locs hP hD hS => ?_)
        replace hP : va_P D vwCl [(a_this, .inr (7, [.ref a_now, .ref a_history, .int i_saved, .ref a_kept, .ref a_isKept, .ref a_text, .int i_length, .int i_next, .ref a_read, .ref a_uses, .ref a_entry, .ref a_passed, .ref a_draft, .ref a_label, .ref a_met, .ref a_bracket, .ref a_matrix])), (a_label, .inl (cyI, 17, .inl (upd f_label_1 v1_1.toNatClampNeg v1_1)))] H := hP
        replace hD : va_D A [(a_this, .inr (7, [.ref a_now, .ref a_history, .int i_saved, .ref a_kept, .ref a_isKept, .ref a_text, .int i_length, .int i_next, .ref a_read, .ref a_uses, .ref a_entry, .ref a_passed, .ref a_draft, .ref a_label, .ref a_met, .ref a_bracket, .ref a_matrix])), (a_label, .inl (cyI, 17, .inl (upd f_label_1 v1_1.toNatClampNeg v1_1)))] := hD
        refine lv_iinc (v := (v1_1 + 1)) (lv' := [(1, .int (v1_1 + 1)), (0, .ref a_this)]) hx hb dX10_beginClasses_15 hl (k := 1) rfl rfl (by decide) rfl (fun ls hl => ?_)
        refine lv_goto (tgt := 2) hx hb dX10_beginClasses_18 (by decide) ?_
        exact ih_1 (v1_1 + 1) (upd f_label_1 v1_1.toNatClampNeg v1_1) H locs ls hf hP hD hS (lv_sub hl [1, 0] rfl)
  exact hL_1 400 0 f_label H locs ls hf hP hD hS (lv_sub hl [1, 0] rfl)
def kX10_unite_J3 (v6_2 : Int32) (K_2 : Int32 → (Nat → Int32) → Option ((Nat → Int32))) (f_label_2 : Nat → Int32) (t0_1 : Int32)  : Option ((Nat → Int32)) :=
  ck v6_2 17 (K_2 (v6_2 + 1) (upd f_label_2 v6_2.toNatClampNeg t0_1))
def kX10_unite_L2 (f_label : Nat → Int32) (r_1 : Int32) (t0_1 : Int32) (r_3 : Int32) (K_2 : Int32 → (Nat → Int32) → Option ((Nat → Int32))) (v6_2 : Int32) (f_label_2 : Nat → Int32) : Option ((Nat → Int32)) :=
  if 16 < v6_2 then some f_label_2 else ck v6_2 17 (if (f_label_2 v6_2.toNatClampNeg) = (f_label r_1.toNatClampNeg) then kX10_unite_J3 v6_2 K_2 f_label_2 t0_1 else ck v6_2 17 (if (f_label_2 v6_2.toNatClampNeg) = (f_label r_3.toNatClampNeg) then kX10_unite_J3 v6_2 K_2 f_label_2 t0_1 else ck v6_2 17 (ck v6_2 17 (K_2 (v6_2 + 1) (upd f_label_2 v6_2.toNatClampNeg (f_label_2 v6_2.toNatClampNeg))))))
def kX10_unite_J1 (f_label : Nat → Int32) (r_1 : Int32) (r_3 : Int32) (t0_1 : Int32) : Option ((Nat → Int32)) :=
  it2 (kX10_unite_L2 f_label r_1 t0_1 r_3) 400 1 f_label
def kX10_unite (v1 : Int32) (v2 : Int32) (f_now : Nat → Int32) (f_label : Nat → Int32) : Option ((Nat → Int32)) :=
  bnd1 (kX10_arc v1 f_now) (fun r_1 => ck r_1 17 (bnd1 (kX10_arc v2 f_now) (fun r_3 => ck r_3 17 (if (f_label r_3.toNatClampNeg) ≤ (f_label r_1.toNatClampNeg) then kX10_unite_J1 f_label r_1 r_3 (f_label r_3.toNatClampNeg) else kX10_unite_J1 f_label r_1 r_3 (f_label r_1.toNatClampNeg)))))
def rmX10_unite : Room := { frames := 1, cells := 0, slots := 0, locals := 21 }
theorem qX10_unite_0 : (.fieldLink RX10 41 "KnotDiagramModel" "label" "[I" : Cond) ∈ wsX10_unite := by decide +kernel
theorem qX10_unite_X10 : ∀ w ∈ wsX100, w ∈ wsX10_unite := by decide +kernel
set_option maxHeartbeats 4000000 in
set_option maxRecDepth 100000 in
theorem mX10_unite (l : Launch) (D : va_G) (cyI cyZ : ClassId) (sz : Nat) (a_this a_now a_history a_kept a_isKept a_text a_read a_uses a_entry a_passed a_draft a_label a_met a_bracket a_matrix : Nat) (v1 : Int32) (v2 : Int32) (i_saved : Int32) (i_length : Int32) (i_next : Int32) (f_now : Nat → Int32) (f_label : Nat → Int32) (o_label : Nat → Int32) (hf : kX10_unite v1 v2 f_now f_label = some o_label) : Met l yX10_unite wsX10_unite rmX10_unite (kPre D cyI cyZ [.ref a_this, .int v1, .int v2] [(a_this, .inr (7, [.ref a_now, .ref a_history, .int i_saved, .ref a_kept, .ref a_isKept, .ref a_text, .int i_length, .int i_next, .ref a_read, .ref a_uses, .ref a_entry, .ref a_passed, .ref a_draft, .ref a_label, .ref a_met, .ref a_bracket, .ref a_matrix])), (a_now, .inl (cyI, 34, .inl f_now)), (a_label, .inl (cyI, 17, .inl f_label))] sz) (kQv D cyI cyZ (va_A [(a_this, .inr (7, [.ref a_now, .ref a_history, .int i_saved, .ref a_kept, .ref a_isKept, .ref a_text, .int i_length, .int i_next, .ref a_read, .ref a_uses, .ref a_entry, .ref a_passed, .ref a_draft, .ref a_label, .ref a_met, .ref a_bracket, .ref a_matrix])), (a_now, .inl (cyI, 34, .inl f_now)), (a_label, .inl (cyI, 17, .inl f_label))] sz) [(a_this, .inr (7, [.ref a_now, .ref a_history, .int i_saved, .ref a_kept, .ref a_isKept, .ref a_text, .int i_length, .int i_next, .ref a_read, .ref a_uses, .ref a_entry, .ref a_passed, .ref a_draft, .ref a_label, .ref a_met, .ref a_bracket, .ref a_matrix])), (a_now, .inl (cyI, 34, .inl f_now)), (a_label, .inl (cyI, 17, .inl o_label))]) 0 0 (va_A [(a_this, .inr (7, [.ref a_now, .ref a_history, .int i_saved, .ref a_kept, .ref a_isKept, .ref a_text, .int i_length, .int i_next, .ref a_read, .ref a_uses, .ref a_entry, .ref a_passed, .ref a_draft, .ref a_label, .ref a_met, .ref a_bracket, .ref a_matrix])), (a_now, .inl (cyI, 34, .inl f_now)), (a_label, .inl (cyI, 17, .inl f_label))] sz) := by
  refine Met.ofW (cc := cX10_unite) (maxL := 7) (ret := none) (by decide) rfl ?_
  intro p e s m args below meth c s₁ B hml hv
  obtain ⟨rfl, hsz, hP, hK, hD0, hN⟩ := hv
  have hx := B.exec
  have hb := B.bytes
  have hr := B.returns
  have hts := atoms_spec (ws := wsX10_unite) B.pre
  have hown : s.vm.findClass RX10 = some m.cls := findClass_of_methodNamed B.named
  have hlocks := B.notSynchronized
  subst hsz
  have hD := hD0.self (sz := s.heap.size)
  generalize hAe : va_A [(a_this, .inr (7, [.ref a_now, .ref a_history, .int i_saved, .ref a_kept, .ref a_isKept, .ref a_text, .int i_length, .int i_next, .ref a_read, .ref a_uses, .ref a_entry, .ref a_passed, .ref a_draft, .ref a_label, .ref a_met, .ref a_bracket, .ref a_matrix])), (a_now, .inl (cyI, 34, .inl f_now)), (a_label, .inl (cyI, 17, .inl f_label))] s.heap.size = A at hD ⊢
  have hA : ∀ q : Nat, s.heap.size ≤ q → A q := fun q h => by rw [← hAe]; exact Or.inr h
  clear hAe hD0
  have hS : va_S A s.heap s.heap [] := va_S.rf
  have S : CallFix p m c cX10_unite 7 s (([.ref a_this, .int v1, .int v2] : List Value).toArray) wsX10_unite RX10 := ⟨hx, hb, hml, hown, hts⟩
  have hl := lv_entry ([.ref a_this, .int v1, .int v2]) (n := 7) (Nat.le_of_ble_eq_true rfl)
  rw [lg_entry_eq]
  generalize (lg_sl ([.ref a_this, .int v1, .int v2]) ++ List.replicate (7 - (lg_sl ([.ref a_this, .int v1, .int v2])).length) Slot.unset).toArray = ls at hl ⊢
  replace hl : lv_has ls 7 [(0, .ref a_this), (1, .int v1), (2, .int v2)] := hl
  generalize ([] : List Loc) = locs at hS ⊢
  delta kX10_unite at hf
  obtain ⟨H, hH⟩ : ∃ H, H = s.heap := ⟨_, rfl⟩
  have hS : va_S A s.heap H locs := by rw [hH]; exact hS
  have hP : va_P D vwCl [(a_this, .inr (7, [.ref a_now, .ref a_history, .int i_saved, .ref a_kept, .ref a_isKept, .ref a_text, .int i_length, .int i_next, .ref a_read, .ref a_uses, .ref a_entry, .ref a_passed, .ref a_draft, .ref a_label, .ref a_met, .ref a_bracket, .ref a_matrix])), (a_now, .inl (cyI, 34, .inl f_now)), (a_label, .inl (cyI, 17, .inl f_label))] H := by rw [hH]; exact hP
  suffices hgo : W p l e (headSpec wsX10_unite rmX10_unite).room s m (([.ref a_this, .int v1, .int v2] : List Value).toArray) below meth c H locs 0 0 (MQ below (kQv D cyI cyZ A [(a_this, .inr (7, [.ref a_now, .ref a_history, .int i_saved, .ref a_kept, .ref a_isKept, .ref a_text, .int i_length, .int i_next, .ref a_read, .ref a_uses, .ref a_entry, .ref a_passed, .ref a_draft, .ref a_label, .ref a_met, .ref a_bracket, .ref a_matrix])), (a_now, .inl (cyI, 34, .inl f_now)), (a_label, .inl (cyI, 17, .inl o_label))]) (([.ref a_this, .int v1, .int v2] : List Value).toArray) s 0 0 A) (F0 m 0 ls []) by rw [hH] at hgo; exact hgo
  clear hH
  refine lv_aload_n hx hb dX10_unite_0 rfl (lv_at hl 0 rfl) ?_
  refine va_get (D := D) (ci := 7) (v := .ref a_label) (C := RX10) (T := TX10) (N := 17) hx hb hts qX10_unite_X10 hown hK hP 0 rfl rfl 13 (Nat.le_of_ble_eq_true rfl) (hts (.fieldLink RX10 41 "KnotDiagramModel" "label" "[I") qX10_unite_0) (fun _ h9 => h9) rfl dX10_unite_1 ?_
  refine lv_aload_n hx hb dX10_unite_4 rfl (lv_at hl 0 rfl) ?_
  refine lv_iload_n hx hb dX10_unite_5 rfl (lv_at hl 1 rfl) ?_
  obtain ⟨r_1, hc_1, hf⟩ := bnd1_s hf
  refine kcVi (As := [.int v1]) (rest := [.ref a_label]) (w2 := [(a_this, .inr (7, [.ref a_now, .ref a_history, .int i_saved, .ref a_kept, .ref a_isKept, .ref a_text, .int i_length, .int i_next, .ref a_read, .ref a_uses, .ref a_entry, .ref a_passed, .ref a_draft, .ref a_label, .ref a_met, .ref a_bracket, .ref a_matrix])), (a_now, .inl (cyI, 34, .inl f_now)), (a_label, .inl (cyI, 17, .inl f_label))]) S hK hP hD hS hA hN (mX10_arc l D cyI cyZ H.size a_this a_now a_history a_kept a_isKept a_text a_read a_uses a_entry a_passed a_draft a_label a_met a_bracket a_matrix v1 i_saved i_length i_next f_now r_1 hc_1) (cwV 1 hts gX10_unite_X10_arc rfl rfl rfl (by decide +kernel) ⟨Nat.le_of_ble_eq_true rfl, Nat.le_of_ble_eq_true rfl⟩) 7 0 rfl rfl [0, 1] [2] [1, 2, 0] rfl rfl rfl rfl (by decide) rfl rfl hl.1 (Nat.le_of_ble_eq_true rfl) dX10_unite_6 ⟨Nat.le_of_ble_eq_true rfl, Nat.le_of_ble_eq_true rfl⟩ (fun H locs hP hD hS => ?_)
  obtain ⟨hi_2, hf⟩ := ck_s hf
  refine va_iald hx hb hK hP 2 0 rfl rfl hi_2 dX10_unite_9 ?_
  refine lv_istore_n (lv' := [(3, .int (f_label r_1.toNatClampNeg)), (0, .ref a_this), (1, .int v1), (2, .int v2)]) hx hb dX10_unite_10 rfl hl (by decide) rfl (fun ls hl => ?_)
  refine lv_aload_n hx hb dX10_unite_11 rfl (lv_at hl 1 rfl) ?_
  refine va_get (D := D) (ci := 7) (v := .ref a_label) (C := RX10) (T := TX10) (N := 17) hx hb hts qX10_unite_X10 hown hK hP 0 rfl rfl 13 (Nat.le_of_ble_eq_true rfl) (hts (.fieldLink RX10 41 "KnotDiagramModel" "label" "[I") qX10_unite_0) (fun _ h9 => h9) rfl dX10_unite_12 ?_
  refine lv_aload_n hx hb dX10_unite_15 rfl (lv_at hl 1 rfl) ?_
  refine lv_iload_n hx hb dX10_unite_16 rfl (lv_at hl 3 rfl) ?_
  obtain ⟨r_3, hc_3, hf⟩ := bnd1_s hf
  refine kcVi (As := [.int v2]) (rest := [.ref a_label]) (w2 := [(a_this, .inr (7, [.ref a_now, .ref a_history, .int i_saved, .ref a_kept, .ref a_isKept, .ref a_text, .int i_length, .int i_next, .ref a_read, .ref a_uses, .ref a_entry, .ref a_passed, .ref a_draft, .ref a_label, .ref a_met, .ref a_bracket, .ref a_matrix])), (a_now, .inl (cyI, 34, .inl f_now)), (a_label, .inl (cyI, 17, .inl f_label))]) S hK hP hD hS hA hN (mX10_arc l D cyI cyZ H.size a_this a_now a_history a_kept a_isKept a_text a_read a_uses a_entry a_passed a_draft a_label a_met a_bracket a_matrix v2 i_saved i_length i_next f_now r_3 hc_3) (cwV 1 hts gX10_unite_X10_arc rfl rfl rfl (by decide +kernel) ⟨Nat.le_of_ble_eq_true rfl, Nat.le_of_ble_eq_true rfl⟩) 7 0 rfl rfl [0, 1] [2] [1, 2, 0] rfl rfl rfl rfl (by decide) rfl rfl hl.1 (Nat.le_of_ble_eq_true rfl) dX10_unite_17 ⟨Nat.le_of_ble_eq_true rfl, Nat.le_of_ble_eq_true rfl⟩ (fun H locs hP hD hS => ?_)
  obtain ⟨hi_4, hf⟩ := ck_s hf
  refine va_iald hx hb hK hP 2 0 rfl rfl hi_4 dX10_unite_20 ?_
  refine lv_istore (lv' := [(4, .int (f_label r_3.toNatClampNeg)), (3, .int (f_label r_1.toNatClampNeg)), (0, .ref a_this), (1, .int v1), (2, .int v2)]) hx hb dX10_unite_21 hl (by decide) rfl (fun ls hl => ?_)
  refine lv_iload_n hx hb dX10_unite_23 rfl (lv_at hl 1 rfl) ?_
  refine lv_iload hx hb dX10_unite_24 (lv_at hl 0 rfl) ?_
  have hJ_1 : ∀ (t0_1 : Int32) (H : Heap) (locs : List Loc) (ls : Array Slot), kX10_unite_J1 f_label r_1 r_3 t0_1 = some o_label → va_P D vwCl [(a_this, .inr (7, [.ref a_now, .ref a_history, .int i_saved, .ref a_kept, .ref a_isKept, .ref a_text, .int i_length, .int i_next, .ref a_read, .ref a_uses, .ref a_entry, .ref a_passed, .ref a_draft, .ref a_label, .ref a_met, .ref a_bracket, .ref a_matrix])), (a_now, .inl (cyI, 34, .inl f_now)), (a_label, .inl (cyI, 17, .inl f_label))] H → va_D A [(a_this, .inr (7, [.ref a_now, .ref a_history, .int i_saved, .ref a_kept, .ref a_isKept, .ref a_text, .int i_length, .int i_next, .ref a_read, .ref a_uses, .ref a_entry, .ref a_passed, .ref a_draft, .ref a_label, .ref a_met, .ref a_bracket, .ref a_matrix])), (a_now, .inl (cyI, 34, .inl f_now)), (a_label, .inl (cyI, 17, .inl f_label))] → va_S A s.heap H locs → lv_has ls 7 [(0, .ref a_this), (3, .int (f_label r_1.toNatClampNeg)), (4, .int (f_label r_3.toNatClampNeg))] → W p l e (headSpec wsX10_unite rmX10_unite).room s m (([.ref a_this, .int v1, .int v2] : List Value).toArray) below meth c H locs 0 0 (MQ below (kQv D cyI cyZ A [(a_this, .inr (7, [.ref a_now, .ref a_history, .int i_saved, .ref a_kept, .ref a_isKept, .ref a_text, .int i_length, .int i_next, .ref a_read, .ref a_uses, .ref a_entry, .ref a_passed, .ref a_draft, .ref a_label, .ref a_met, .ref a_bracket, .ref a_matrix])), (a_now, .inl (cyI, 34, .inl f_now)), (a_label, .inl (cyI, 17, .inl o_label))]) (([.ref a_this, .int v1, .int v2] : List Value).toArray) s 0 0 A) (F0 m 35 ls [.int t0_1]) := by
    intro t0_1 H locs ls hf hP hD hS hl
    delta kX10_unite_J1 at hf
    refine lv_istore (lv' := [(5, .int t0_1), (0, .ref a_this), (3, .int (f_label r_1.toNatClampNeg)), (4, .int (f_label r_3.toNatClampNeg))]) hx hb dX10_unite_35 hl (by decide) rfl (fun ls hl => ?_)
    refine lv_iconst (v := 1) hx hb dX10_unite_37 (by decide) ?_
    refine lv_istore (lv' := [(6, .int 1), (5, .int t0_1), (0, .ref a_this), (3, .int (f_label r_1.toNatClampNeg)), (4, .int (f_label r_3.toNatClampNeg))]) hx hb dX10_unite_38 hl (by decide) rfl (fun ls hl => ?_)
    have hL_2 : ∀ (n : Nat) (v6_2 : Int32) (f_label_2 : Nat → Int32) (H : Heap) (locs : List Loc) (ls : Array Slot), it2 (kX10_unite_L2 f_label r_1 t0_1 r_3) n v6_2 f_label_2 = some o_label → va_P D vwCl [(a_this, .inr (7, [.ref a_now, .ref a_history, .int i_saved, .ref a_kept, .ref a_isKept, .ref a_text, .int i_length, .int i_next, .ref a_read, .ref a_uses, .ref a_entry, .ref a_passed, .ref a_draft, .ref a_label, .ref a_met, .ref a_bracket, .ref a_matrix])), (a_now, .inl (cyI, 34, .inl f_now)), (a_label, .inl (cyI, 17, .inl f_label_2))] H → va_D A [(a_this, .inr (7, [.ref a_now, .ref a_history, .int i_saved, .ref a_kept, .ref a_isKept, .ref a_text, .int i_length, .int i_next, .ref a_read, .ref a_uses, .ref a_entry, .ref a_passed, .ref a_draft, .ref a_label, .ref a_met, .ref a_bracket, .ref a_matrix])), (a_now, .inl (cyI, 34, .inl f_now)), (a_label, .inl (cyI, 17, .inl f_label_2))] → va_S A s.heap H locs → lv_has ls 7 [(0, .ref a_this), (3, .int (f_label r_1.toNatClampNeg)), (4, .int (f_label r_3.toNatClampNeg)), (5, .int t0_1), (6, .int v6_2)] → W p l e (headSpec wsX10_unite rmX10_unite).room s m (([.ref a_this, .int v1, .int v2] : List Value).toArray) below meth c H locs 0 0 (MQ below (kQv D cyI cyZ A [(a_this, .inr (7, [.ref a_now, .ref a_history, .int i_saved, .ref a_kept, .ref a_isKept, .ref a_text, .int i_length, .int i_next, .ref a_read, .ref a_uses, .ref a_entry, .ref a_passed, .ref a_draft, .ref a_label, .ref a_met, .ref a_bracket, .ref a_matrix])), (a_now, .inl (cyI, 34, .inl f_now)), (a_label, .inl (cyI, 17, .inl o_label))]) (([.ref a_this, .int v1, .int v2] : List Value).toArray) s 0 0 A) (F0 m 40 ls []) := by
      intro n_2
      induction n_2 with
      | zero =>
        intro _ _ _ _ _ hf
        exact (it2_z hf).elim
      | succ n_2 ih_2 =>
        intro v6_2 f_label_2 H locs ls hf hP hD hS hl
        replace hf := it2_s hf
        rw [kX10_unite_L2] at hf
        refine lv_iload hx hb dX10_unite_40 (lv_at hl 4 rfl) ?_
        refine lv_bipush (v := 16) hx hb dX10_unite_42 (by decide) ?_
        refine lv_icmp_gt (tgt := 95) hx hb dX10_unite_44 (by decide) (fun c_12 => ?_) (fun c_12 => ?_)
        · replace hf := kt_p hf c_12
          obtain rfl := some1_s hf
          exact kRv hx hb hr hlocks hP hK hD hS dX10_unite_95
        · replace hf := kt_n hf c_12
          refine lv_aload_n hx hb dX10_unite_47 rfl (lv_at hl 0 rfl) ?_
          refine va_get (D := D) (ci := 7) (v := .ref a_label) (C := RX10) (T := TX10) (N := 17) hx hb hts qX10_unite_X10 hown hK hP 0 rfl rfl 13 (Nat.le_of_ble_eq_true rfl) (hts (.fieldLink RX10 41 "KnotDiagramModel" "label" "[I") qX10_unite_0) (fun _ h9 => h9) rfl dX10_unite_48 ?_
          refine lv_iload hx hb dX10_unite_51 (lv_at hl 4 rfl) ?_
          refine lv_aload_n hx hb dX10_unite_53 rfl (lv_at hl 0 rfl) ?_
          refine va_get (D := D) (ci := 7) (v := .ref a_label) (C := RX10) (T := TX10) (N := 17) hx hb hts qX10_unite_X10 hown hK hP 0 rfl rfl 13 (Nat.le_of_ble_eq_true rfl) (hts (.fieldLink RX10 41 "KnotDiagramModel" "label" "[I") qX10_unite_0) (fun _ h9 => h9) rfl dX10_unite_54 ?_
          refine lv_iload hx hb dX10_unite_57 (lv_at hl 4 rfl) ?_
          obtain ⟨hi_5, hf⟩ := ck_s hf
          refine va_iald hx hb hK hP 2 0 rfl rfl hi_5 dX10_unite_59 ?_
          refine lv_iload_n hx hb dX10_unite_60 rfl (lv_at hl 1 rfl) ?_
          have hJ_3 : ∀  (H : Heap) (locs : List Loc) (ls : Array Slot), kX10_unite_J3 v6_2 (it2 (kX10_unite_L2 f_label r_1 t0_1 r_3) n_2) f_label_2 t0_1  = some o_label → va_P D vwCl [(a_this, .inr (7, [.ref a_now, .ref a_history, .int i_saved, .ref a_kept, .ref a_isKept, .ref a_text, .int i_length, .int i_next, .ref a_read, .ref a_uses, .ref a_entry, .ref a_passed, .ref a_draft, .ref a_label, .ref a_met, .ref a_bracket, .ref a_matrix])), (a_now, .inl (cyI, 34, .inl f_now)), (a_label, .inl (cyI, 17, .inl f_label_2))] H → va_D A [(a_this, .inr (7, [.ref a_now, .ref a_history, .int i_saved, .ref a_kept, .ref a_isKept, .ref a_text, .int i_length, .int i_next, .ref a_read, .ref a_uses, .ref a_entry, .ref a_passed, .ref a_draft, .ref a_label, .ref a_met, .ref a_bracket, .ref a_matrix])), (a_now, .inl (cyI, 34, .inl f_now)), (a_label, .inl (cyI, 17, .inl f_label_2))] → va_S A s.heap H locs → lv_has ls 7 [(0, .ref a_this), (3, .int (f_label r_1.toNatClampNeg)), (4, .int (f_label r_3.toNatClampNeg)), (5, .int t0_1), (6, .int v6_2)] → W p l e (headSpec wsX10_unite rmX10_unite).room s m (([.ref a_this, .int v1, .int v2] : List Value).toArray) below meth c H locs 0 0 (MQ below (kQv D cyI cyZ A [(a_this, .inr (7, [.ref a_now, .ref a_history, .int i_saved, .ref a_kept, .ref a_isKept, .ref a_text, .int i_length, .int i_next, .ref a_read, .ref a_uses, .ref a_entry, .ref a_passed, .ref a_draft, .ref a_label, .ref a_met, .ref a_bracket, .ref a_matrix])), (a_now, .inl (cyI, 34, .inl f_now)), (a_label, .inl (cyI, 17, .inl o_label))]) (([.ref a_this, .int v1, .int v2] : List Value).toArray) s 0 0 A) (F0 m 76 ls [.int v6_2, .ref a_label]) := by
            intro  H locs ls hf hP hD hS hl
            delta kX10_unite_J3 at hf
            refine lv_iload hx hb dX10_unite_76 (lv_at hl 3 rfl) ?_
            refine lv_goto (tgt := 88) hx hb dX10_unite_78 (by decide) ?_
            obtain ⟨hi_6, hf⟩ := ck_s hf
            refine va_iast hx hb hK hP hD hS 2 0 rfl rfl hi_6 dX10_unite_88 (fun H locs hP hD hS => ?_)
            replace hP : va_P D vwCl [(a_this, .inr (7, [.ref a_now, .ref a_history, .int i_saved, .ref a_kept, .ref a_isKept, .ref a_text, .int i_length, .int i_next, .ref a_read, .ref a_uses, .ref a_entry, .ref a_passed, .ref a_draft, .ref a_label, .ref a_met, .ref a_bracket, .ref a_matrix])), (a_now, .inl (cyI, 34, .inl f_now)), (a_label, .inl (cyI, 17, .inl (upd f_label_2 v6_2.toNatClampNeg t0_1)))] H := hP
            replace hD : va_D A [(a_this, .inr (7, [.ref a_now, .ref a_history, .int i_saved, .ref a_kept, .ref a_isKept, .ref a_text, .int i_length, .int i_next, .ref a_read, .ref a_uses, .ref a_entry, .ref a_passed, .ref a_draft, .ref a_label, .ref a_met, .ref a_bracket, .ref a_matrix])), (a_now, .inl (cyI, 34, .inl f_now)), (a_label, .inl (cyI, 17, .inl (upd f_label_2 v6_2.toNatClampNeg t0_1)))] := hD
            refine lv_iinc (v := (v6_2 + 1)) (lv' := [(6, .int (v6_2 + 1)), (0, .ref a_this), (3, .int (f_label r_1.toNatClampNeg)), (4, .int (f_label r_3.toNatClampNeg)), (5, .int t0_1)]) hx hb dX10_unite_89 hl (k := 4) rfl rfl (by decide) rfl (fun ls hl => ?_)
            refine lv_goto (tgt := 40) hx hb dX10_unite_92 (by decide) ?_
            exact ih_2 (v6_2 + 1) (upd f_label_2 v6_2.toNatClampNeg t0_1) H locs ls hf hP hD hS (lv_sub hl [1, 2, 3, 4, 0] rfl)
          refine lv_icmp_eq (tgt := 76) hx hb dX10_unite_61 (by decide) (fun c_11 => ?_) (fun c_11 => ?_)
          · replace hf := kt_p hf c_11
            exact hJ_3 H locs ls hf hP hD hS (lv_sub hl [0, 1, 2, 3, 4] rfl)
          · replace hf := kt_n hf c_11
            refine lv_aload_n hx hb dX10_unite_64 rfl (lv_at hl 0 rfl) ?_
            refine va_get (D := D) (ci := 7) (v := .ref a_label) (C := RX10) (T := TX10) (N := 17) hx hb hts qX10_unite_X10 hown hK hP 0 rfl rfl 13 (Nat.le_of_ble_eq_true rfl) (hts (.fieldLink RX10 41 "KnotDiagramModel" "label" "[I") qX10_unite_0) (fun _ h9 => h9) rfl dX10_unite_65 ?_
            refine lv_iload hx hb dX10_unite_68 (lv_at hl 4 rfl) ?_
            obtain ⟨hi_7, hf⟩ := ck_s hf
            refine va_iald hx hb hK hP 2 0 rfl rfl hi_7 dX10_unite_70 ?_
            refine lv_iload hx hb dX10_unite_71 (lv_at hl 2 rfl) ?_
            refine lv_icmp_ne (tgt := 81) hx hb dX10_unite_73 (by decide) (fun c_10 => ?_) (fun c_10 => ?_)
            · replace hf := kt_n hf c_10
              refine lv_aload_n hx hb dX10_unite_81 rfl (lv_at hl 0 rfl) ?_
              refine va_get (D := D) (ci := 7) (v := .ref a_label) (C := RX10) (T := TX10) (N := 17) hx hb hts qX10_unite_X10 hown hK hP 0 rfl rfl 13 (Nat.le_of_ble_eq_true rfl) (hts (.fieldLink RX10 41 "KnotDiagramModel" "label" "[I") qX10_unite_0) (fun _ h9 => h9) rfl dX10_unite_82 ?_
              refine lv_iload hx hb dX10_unite_85 (lv_at hl 4 rfl) ?_
              obtain ⟨hi_8, hf⟩ := ck_s hf
              refine va_iald hx hb hK hP 2 0 rfl rfl hi_8 dX10_unite_87 ?_
              obtain ⟨hi_9, hf⟩ := ck_s hf
              refine va_iast hx hb hK hP hD hS 2 0 rfl rfl hi_9 dX10_unite_88 (fun H locs hP hD hS => ?_)
              replace hP : va_P D vwCl [(a_this, .inr (7, [.ref a_now, .ref a_history, .int i_saved, .ref a_kept, .ref a_isKept, .ref a_text, .int i_length, .int i_next, .ref a_read, .ref a_uses, .ref a_entry, .ref a_passed, .ref a_draft, .ref a_label, .ref a_met, .ref a_bracket, .ref a_matrix])), (a_now, .inl (cyI, 34, .inl f_now)), (a_label, .inl (cyI, 17, .inl (upd f_label_2 v6_2.toNatClampNeg (f_label_2 v6_2.toNatClampNeg))))] H := hP
              replace hD : va_D A [(a_this, .inr (7, [.ref a_now, .ref a_history, .int i_saved, .ref a_kept, .ref a_isKept, .ref a_text, .int i_length, .int i_next, .ref a_read, .ref a_uses, .ref a_entry, .ref a_passed, .ref a_draft, .ref a_label, .ref a_met, .ref a_bracket, .ref a_matrix])), (a_now, .inl (cyI, 34, .inl f_now)), (a_label, .inl (cyI, 17, .inl (upd f_label_2 v6_2.toNatClampNeg (f_label_2 v6_2.toNatClampNeg))))] := hD
              refine lv_iinc (v := (v6_2 + 1)) (lv' := [(6, .int (v6_2 + 1)), (0, .ref a_this), (3, .int (f_label r_1.toNatClampNeg)), (4, .int (f_label r_3.toNatClampNeg)), (5, .int t0_1)]) hx hb dX10_unite_89 hl (k := 4) rfl rfl (by decide) rfl (fun ls hl => ?_)
              refine lv_goto (tgt := 40) hx hb dX10_unite_92 (by decide) ?_
              exact ih_2 (v6_2 + 1) (upd f_label_2 v6_2.toNatClampNeg (f_label_2 v6_2.toNatClampNeg)) H locs ls hf hP hD hS (lv_sub hl [1, 2, 3, 4, 0] rfl)
            · replace hf := kt_p hf c_10
              exact hJ_3 H locs ls hf hP hD hS (lv_sub hl [0, 1, 2, 3, 4] rfl)
    exact hL_2 400 1 f_label H locs ls hf hP hD hS (lv_sub hl [2, 3, 4, 1, 0] rfl)
  refine lv_icmp_ge (tgt := 33) hx hb dX10_unite_26 (by decide) (fun c_13 => ?_) (fun c_13 => ?_)
  · replace hf := kt_p hf c_13
    refine lv_iload hx hb dX10_unite_33 (lv_at hl 0 rfl) ?_
    exact hJ_1 (f_label r_3.toNatClampNeg) H locs ls hf hP hD hS (lv_sub hl [2, 1, 0] rfl)
  · replace hf := kt_n hf c_13
    refine lv_iload_n hx hb dX10_unite_29 rfl (lv_at hl 1 rfl) ?_
    refine lv_goto (tgt := 35) hx hb dX10_unite_30 (by decide) ?_
    exact hJ_1 (f_label r_1.toNatClampNeg) H locs ls hf hP hD hS (lv_sub hl [2, 1, 0] rfl)
