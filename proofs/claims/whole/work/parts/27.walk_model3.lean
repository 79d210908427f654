def kX10_occurs_J2 (K_1 : Int32 → Int32 → Option (Int32)) (v3_1 : Int32)  : Option (Int32) :=
  K_1 1 (v3_1 + 1)
def kX10_occurs_L1 (f_now : Nat → Int32) (v1 : Int32) (K_1 : Int32 → Int32 → Option (Int32)) (v2_1 : Int32) (v3_1 : Int32) : Option (Int32) :=
  bnd1 (kX10_ends f_now) (fun r_1 => if r_1 ≤ v3_1 then zr v2_1 (some v2_1) else if v2_1 = 0 then bnd1 (kX10_arc v3_1 f_now) (fun r_2 => if r_2 = v1 then kX10_occurs_J2 K_1 v3_1 else K_1 0 (v3_1 + 1)) else kX10_occurs_J2 K_1 v3_1)
def kX10_occurs (v1 : Int32) (f_now : Nat → Int32) : Option (Int32) :=
  it2 (kX10_occurs_L1 f_now v1) 400 0 0
def rmX10_occurs : Room := { frames := 1, cells := 0, slots := 0, locals := 21 }
set_option maxHeartbeats 4000000 in
set_option maxRecDepth 100000 in
theorem mX10_occurs (l : Launch) (D : va_G) (cyI cyZ : ClassId) (sz : Nat) (a_this a_now a_history a_kept a_isKept a_text a_read a_uses a_entry a_passed a_draft a_label a_met a_bracket a_matrix : Nat) (v1 : Int32) (i_saved : Int32) (i_length : Int32) (i_next : Int32) (f_now : Nat → Int32) (r : Int32) (hf : kX10_occurs v1 f_now = some r) : Met l yX10_occurs wsX10_occurs rmX10_occurs (kPre D cyI cyZ [.ref a_this, .int v1] [(a_this, .inr (7, [.ref a_now, .ref a_history, .int i_saved, .ref a_kept, .ref a_isKept, .ref a_text, .int i_length, .int i_next, .ref a_read, .ref a_uses, .ref a_entry, .ref a_passed, .ref a_draft, .ref a_label, .ref a_met, .ref a_bracket, .ref a_matrix])), (a_now, .inl (cyI, 34, .inl f_now))] sz) (kQi D cyI cyZ (va_A [(a_this, .inr (7, [.ref a_now, .ref a_history, .int i_saved, .ref a_kept, .ref a_isKept, .ref a_text, .int i_length, .int i_next, .ref a_read, .ref a_uses, .ref a_entry, .ref a_passed, .ref a_draft, .ref a_label, .ref a_met, .ref a_bracket, .ref a_matrix])), (a_now, .inl (cyI, 34, .inl f_now))] sz) [(a_this, .inr (7, [.ref a_now, .ref a_history, .int i_saved, .ref a_kept, .ref a_isKept, .ref a_text, .int i_length, .int i_next, .ref a_read, .ref a_uses, .ref a_entry, .ref a_passed, .ref a_draft, .ref a_label, .ref a_met, .ref a_bracket, .ref a_matrix])), (a_now, .inl (cyI, 34, .inl f_now))] r) 0 0 (va_A [(a_this, .inr (7, [.ref a_now, .ref a_history, .int i_saved, .ref a_kept, .ref a_isKept, .ref a_text, .int i_length, .int i_next, .ref a_read, .ref a_uses, .ref a_entry, .ref a_passed, .ref a_draft, .ref a_label, .ref a_met, .ref a_bracket, .ref a_matrix])), (a_now, .inl (cyI, 34, .inl f_now))] sz) := by
  refine Met.ofW (cc := cX10_occurs) (maxL := 4) (ret := (some .boolean)) (by decide) rfl ?_
  intro p e s m args below meth c s₁ B hml hv
  obtain ⟨rfl, hsz, hP, hK, hD0, hN⟩ := hv
  have hx := B.exec
  have hb := B.bytes
  have hr := B.returns
  have hts := atoms_spec (ws := wsX10_occurs) B.pre
  have hown : s.vm.findClass RX10 = some m.cls := findClass_of_methodNamed B.named
  have hlocks := B.notSynchronized
  subst hsz
  have hD := hD0.self (sz := s.heap.size)
  generalize hAe : va_A [(a_this, .inr (7, [.ref a_now, .ref a_history, .int i_saved, .ref a_kept, .ref a_isKept, .ref a_text, .int i_length, .int i_next, .ref a_read, .ref a_uses, .ref a_entry, .ref a_passed, .ref a_draft, .ref a_label, .ref a_met, .ref a_bracket, .ref a_matrix])), (a_now, .inl (cyI, 34, .inl f_now))] s.heap.size = A at hD ⊢
  have hA : ∀ q : Nat, s.heap.size ≤ q → A q := fun q h => by rw [← hAe]; exact Or.inr h
  clear hAe hD0
  have hS : va_S A s.heap s.heap [] := va_S.rf
  have S : CallFix p m c cX10_occurs 4 s (([.ref a_this, .int v1] : List Value).toArray) wsX10_occurs RX10 := ⟨hx, hb, hml, hown, hts⟩
  have hl := lv_entry ([.ref a_this, .int v1]) (n := 4) (Nat.le_of_ble_eq_true rfl)
  rw [lg_entry_eq]
  generalize (lg_sl ([.ref a_this, .int v1]) ++ List.replicate (4 - (lg_sl ([.ref a_this, .int v1])).length) Slot.unset).toArray = ls at hl ⊢
  replace hl : lv_has ls 4 [(0, .ref a_this), (1, .int v1)] := hl
  generalize ([] : List Loc) = locs at hS ⊢
  delta kX10_occurs at hf
  obtain ⟨H, hH⟩ : ∃ H, H = s.heap := ⟨_, rfl⟩
  have hS : va_S A s.heap H locs := by rw [hH]; exact hS
  have hP : va_P D vwCl [(a_this, .inr (7, [.ref a_now, .ref a_history, .int i_saved, .ref a_kept, .ref a_isKept, .ref a_text, .int i_length, .int i_next, .ref a_read, .ref a_uses, .ref a_entry, .ref a_passed, .ref a_draft, .ref a_label, .ref a_met, .ref a_bracket, .ref a_matrix])), (a_now, .inl (cyI, 34, .inl f_now))] H := by rw [hH]; exact hP
  suffices hgo : W p l e (headSpec wsX10_occurs rmX10_occurs).room s m (([.ref a_this, .int v1] : List Value).toArray) below meth c H locs 0 0 (MQ below (kQi D cyI cyZ A [(a_this, .inr (7, [.ref a_now, .ref a_history, .int i_saved, .ref a_kept, .ref a_isKept, .ref a_text, .int i_length, .int i_next, .ref a_read, .ref a_uses, .ref a_entry, .ref a_passed, .ref a_draft, .ref a_label, .ref a_met, .ref a_bracket, .ref a_matrix])), (a_now, .inl (cyI, 34, .inl f_now))] r) (([.ref a_this, .int v1] : List Value).toArray) s 0 0 A) (F0 m 0 ls []) by rw [hH] at hgo; exact hgo
  clear hH
  refine lv_iconst (v := 0) hx hb dX10_occurs_0 (by decide) ?_
  refine lv_istore_n (lv' := [(2, .int 0), (0, .ref a_this), (1, .int v1)]) hx hb dX10_occurs_1 rfl hl (by decide) rfl (fun ls hl => ?_)
  refine lv_iconst (v := 0) hx hb dX10_occurs_2 (by decide) ?_
  refine lv_istore_n (lv' := [(3, .int 0), (2, .int 0), (0, .ref a_this), (1, .int v1)]) hx hb dX10_occurs_3 rfl hl (by decide) rfl (fun ls hl => ?_)
  have hL_1 : ∀ (n : Nat) (v2_1 : Int32) (v3_1 : Int32) (H : Heap) (locs : List Loc) (ls : Array Slot), it2 (kX10_occurs_L1 f_now v1) n v2_1 v3_1 = some r → va_P D vwCl [(a_this, .inr (7, [.ref a_now, .ref a_history, .int i_saved, .ref a_kept, .ref a_isKept, .ref a_text, .int i_length, .int i_next, .ref a_read, .ref a_uses, .ref a_entry, .ref a_passed, .ref a_draft, .ref a_label, .ref a_met, .ref a_bracket, .ref a_matrix])), (a_now, .inl (cyI, 34, .inl f_now))] H → va_D A [(a_this, .inr (7, [.ref a_now, .ref a_history, .int i_saved, .ref a_kept, .ref a_isKept, .ref a_text, .int i_length, .int i_next, .ref a_read, .ref a_uses, .ref a_entry, .ref a_passed, .ref a_draft, .ref a_label, .ref a_met, .ref a_bracket, .ref a_matrix])), (a_now, .inl (cyI, 34, .inl f_now))] → va_S A s.heap H locs → lv_has ls 4 [(0, .ref a_this), (1, .int v1), (2, .int v2_1), (3, .int v3_1)] → W p l e (headSpec wsX10_occurs rmX10_occurs).room s m (([.ref a_this, .int v1] : List Value).toArray) below meth c H locs 0 0 (MQ below (kQi D cyI cyZ A [(a_this, .inr (7, [.ref a_now, .ref a_history, .int i_saved, .ref a_kept, .ref a_isKept, .ref a_text, .int i_length, .int i_next, .ref a_read, .ref a_uses, .ref a_entry, .ref a_passed, .ref a_draft, .ref a_label, .ref a_met, .ref a_bracket, .ref a_matrix])), (a_now, .inl (cyI, 34, .inl f_now))] r) (([.ref a_this, .int v1] : List Value).toArray) s 0 0 A) (F0 m 4 ls []) := by
    intro n_1
    induction n_1 with
    | zero =>
      intro _ _ _ _ _ hf
      exact (it2_z hf).elim
    | succ n_1 ih_1 =>
      intro v2_1 v3_1 H locs ls hf hP hD hS hl
      replace hf := it2_s hf
      rw [kX10_occurs_L1] at hf
      refine lv_iload_n hx hb dX10_occurs_4 rfl (lv_at hl 3 rfl) ?_
      refine lv_aload_n hx hb dX10_occurs_5 rfl (lv_at hl 0 rfl) ?_
      obtain ⟨r_1, hc_1, hf⟩ := bnd1_s hf
      refine kcVi (As := []) (rest := [.int v3_1]) (w2 := [(a_this, .inr (7, [.ref a_now, .ref a_history, .int i_saved, .ref a_kept, .ref a_isKept, .ref a_text, .int i_length, .int i_next, .ref a_read, .ref a_uses, .ref a_entry, .ref a_passed, .ref a_draft, .ref a_label, .ref a_met, .ref a_bracket, .ref a_matrix])), (a_now, .inl (cyI, 34, .inl f_now))]) S hK hP hD hS hA hN (mX10_ends l D cyI cyZ H.size a_this a_now a_history a_kept a_isKept a_text a_read a_uses a_entry a_passed a_draft a_label a_met a_bracket a_matrix i_saved i_length i_next f_now r_1 hc_1) (cwV 0 hts gX10_occurs_X10_ends rfl rfl rfl (by decide +kernel) ⟨Nat.le_of_ble_eq_true rfl, Nat.le_of_ble_eq_true rfl⟩) 7 0 rfl rfl [0, 1] [] [0, 1] rfl rfl rfl rfl (by decide) rfl rfl hl.1 (Nat.le_of_ble_eq_true rfl) dX10_occurs_6 ⟨Nat.le_of_ble_eq_true rfl, Nat.le_of_ble_eq_true rfl⟩ (fun H locs hP hD hS => ?_)
      refine lv_icmp_ge (tgt := 37) hx hb dX10_occurs_9 (by decide) (fun c_5 => ?_) (fun c_5 => ?_)
      · replace hf := kt_p hf c_5
        refine lv_iload_n hx hb dX10_occurs_37 rfl (lv_at hl 2 rfl) ?_
        obtain ⟨hz, hf⟩ := zr_s hf
        obtain rfl := some1_s hf
        exact kRz hx hb hr hlocks hP hK hD hS hz rfl dX10_occurs_38
      · replace hf := kt_n hf c_5
        refine lv_iload_n hx hb dX10_occurs_12 rfl (lv_at hl 2 rfl) ?_
        have hJ_2 : ∀  (H : Heap) (locs : List Loc) (ls : Array Slot), kX10_occurs_J2 (it2 (kX10_occurs_L1 f_now v1) n_1) v3_1  = some r → va_P D vwCl [(a_this, .inr (7, [.ref a_now, .ref a_history, .int i_saved, .ref a_kept, .ref a_isKept, .ref a_text, .int i_length, .int i_next, .ref a_read, .ref a_uses, .ref a_entry, .ref a_passed, .ref a_draft, .ref a_label, .ref a_met, .ref a_bracket, .ref a_matrix])), (a_now, .inl (cyI, 34, .inl f_now))] H → va_D A [(a_this, .inr (7, [.ref a_now, .ref a_history, .int i_saved, .ref a_kept, .ref a_isKept, .ref a_text, .int i_length, .int i_next, .ref a_read, .ref a_uses, .ref a_entry, .ref a_passed, .ref a_draft, .ref a_label, .ref a_met, .ref a_bracket, .ref a_matrix])), (a_now, .inl (cyI, 34, .inl f_now))] → va_S A s.heap H locs → lv_has ls 4 [(0, .ref a_this), (1, .int v1), (3, .int v3_1)] → W p l e (headSpec wsX10_occurs rmX10_occurs).room s m (([.ref a_this, .int v1] : List Value).toArray) below meth c H locs 0 0 (MQ below (kQi D cyI cyZ A [(a_this, .inr (7, [.ref a_now, .ref a_history, .int i_saved, .ref a_kept, .ref a_isKept, .ref a_text, .int i_length, .int i_next, .ref a_read, .ref a_uses, .ref a_entry, .ref a_passed, .ref a_draft, .ref a_label, .ref a_met, .ref a_bracket, .ref a_matrix])), (a_now, .inl (cyI, 34, .inl f_now))] r) (([.ref a_this, .int v1] : List Value).toArray) s 0 0 A) (F0 m 25 ls []) := by
          intro  H locs ls hf hP hD hS hl
          delta kX10_occurs_J2 at hf
          refine lv_iconst (v := 1) hx hb dX10_occurs_25 (by decide) ?_
          refine lv_goto (tgt := 30) hx hb dX10_occurs_26 (by decide) ?_
          refine lv_istore_n (lv' := [(2, .int 1), (0, .ref a_this), (1, .int v1), (3, .int v3_1)]) hx hb dX10_occurs_30 rfl hl (by decide) rfl (fun ls hl => ?_)
          refine lv_iinc (v := (v3_1 + 1)) (lv' := [(3, .int (v3_1 + 1)), (2, .int 1), (0, .ref a_this), (1, .int v1)]) hx hb dX10_occurs_31 hl (k := 3) rfl rfl (by decide) rfl (fun ls hl => ?_)
          refine lv_goto (tgt := 4) hx hb dX10_occurs_34 (by decide) ?_
          exact ih_1 1 (v3_1 + 1) H locs ls hf hP hD hS (lv_sub hl [2, 3, 1, 0] rfl)
        refine lv_if_ne (tgt := 25) hx hb dX10_occurs_13 (by decide) (fun c_4 => ?_) (fun c_4 => ?_)
        · replace hf := kt_n hf c_4
          exact hJ_2 H locs ls hf hP hD hS (lv_sub hl [0, 1, 3] rfl)
        · replace hf := kt_p hf c_4
          refine lv_aload_n hx hb dX10_occurs_16 rfl (lv_at hl 0 rfl) ?_
          refine lv_iload_n hx hb dX10_occurs_17 rfl (lv_at hl 3 rfl) ?_
          obtain ⟨r_2, hc_2, hf⟩ := bnd1_s hf
          refine kcVi (As := [.int v3_1]) (rest := []) (w2 := [(a_this, .inr (7, [.ref a_now, .ref a_history, .int i_saved, .ref a_kept, .ref a_isKept, .ref a_text, .int i_length, .int i_next, .ref a_read, .ref a_uses, .ref a_entry, .ref a_passed, .ref a_draft, .ref a_label, .ref a_met, .ref a_bracket, .ref a_matrix])), (a_now, .inl (cyI, 34, .inl f_now))]) S hK hP hD hS hA hN (mX10_arc l D cyI cyZ H.size a_this a_now a_history a_kept a_isKept a_text a_read a_uses a_entry a_passed a_draft a_label a_met a_bracket a_matrix v3_1 i_saved i_length i_next f_now r_2 hc_2) (cwV 1 hts gX10_occurs_X10_arc rfl rfl rfl (by decide +kernel) ⟨Nat.le_of_ble_eq_true rfl, Nat.le_of_ble_eq_true rfl⟩) 7 0 rfl rfl [0, 1] [] [0, 1] rfl rfl rfl rfl (by decide) rfl rfl hl.1 (Nat.le_of_ble_eq_true rfl) dX10_occurs_18 ⟨Nat.le_of_ble_eq_true rfl, Nat.le_of_ble_eq_true rfl⟩ (fun H locs hP hD hS => ?_)
          refine lv_iload_n hx hb dX10_occurs_21 rfl (lv_at hl 1 rfl) ?_
          refine lv_icmp_ne (tgt := 29) hx hb dX10_occurs_22 (by decide) (fun c_3 => ?_) (fun c_3 => ?_)
          · replace hf := kt_n hf c_3
            refine lv_iconst (v := 0) hx hb dX10_occurs_29 (by decide) ?_
            refine lv_istore_n (lv' := [(2, .int 0), (0, .ref a_this), (1, .int v1), (3, .int v3_1)]) hx hb dX10_occurs_30 rfl hl (by decide) rfl (fun ls hl => ?_)
            refine lv_iinc (v := (v3_1 + 1)) (lv' := [(3, .int (v3_1 + 1)), (2, .int 0), (0, .ref a_this), (1, .int v1)]) hx hb dX10_occurs_31 hl (k := 3) rfl rfl (by decide) rfl (fun ls hl => ?_)
            refine lv_goto (tgt := 4) hx hb dX10_occurs_34 (by decide) ?_
            exact ih_1 0 (v3_1 + 1) H locs ls hf hP hD hS (lv_sub hl [2, 3, 1, 0] rfl)
          · replace hf := kt_p hf c_3
            exact hJ_2 H locs ls hf hP hD hS (lv_sub hl [0, 1, 3] rfl)
  exact hL_1 400 0 0 H locs ls hf hP hD hS (lv_sub hl [2, 3, 1, 0] rfl)
def kX10_classes_J2 (K_1 : Int32 → Int32 → Option (Int32)) (v1_1 : Int32) (v2_1 : Int32) (t1_2 : Int32) : Option (Int32) :=
  K_1 (v1_1 + t1_2) (v2_1 + 1)
def kX10_classes_J3 (K_1 : Int32 → Int32 → Option (Int32)) (v1_1 : Int32) (v2_1 : Int32)  : Option (Int32) :=
  kX10_classes_J2 K_1 v1_1 v2_1 0
def kX10_classes_L1 (f_now : Nat → Int32) (f_label : Nat → Int32) (K_1 : Int32 → Int32 → Option (Int32)) (v1_1 : Int32) (v2_1 : Int32) : Option (Int32) :=
  if 16 < v2_1 then some v1_1 else bnd1 (kX10_occurs v2_1 f_now) (fun r_1 => if r_1 = 0 then kX10_classes_J3 K_1 v1_1 v2_1 else ck v2_1 17 (if (f_label v2_1.toNatClampNeg) = v2_1 then kX10_classes_J2 K_1 v1_1 v2_1 1 else kX10_classes_J3 K_1 v1_1 v2_1))
def kX10_classes (f_now : Nat → Int32) (f_label : Nat → Int32) : Option (Int32) :=
  it2 (kX10_classes_L1 f_now f_label) 400 0 1
def rmX10_classes : Room := { frames := 2, cells := 0, slots := 0, locals := 44 }
theorem qX10_classes_0 : (.fieldLink RX10 41 "KnotDiagramModel" "label" "[I" : Cond) ∈ wsX10_classes := by decide +kernel
theorem qX10_classes_X10 : ∀ w ∈ wsX100, w ∈ wsX10_classes := by decide +kernel
set_option maxHeartbeats 4000000 in
set_option maxRecDepth 100000 in
theorem mX10_classes (l : Launch) (D : va_G) (cyI cyZ : ClassId) (sz : Nat) (a_this a_now a_history a_kept a_isKept a_text a_read a_uses a_entry a_passed a_draft a_label a_met a_bracket a_matrix : Nat) (i_saved : Int32) (i_length : Int32) (i_next : Int32) (f_now : Nat → Int32) (f_label : Nat → Int32) (r : Int32) (hf : kX10_classes f_now f_label = some r) : Met l yX10_classes wsX10_classes rmX10_classes (kPre D cyI cyZ [.ref a_this] [(a_this, .inr (7, [.ref a_now, .ref a_history, .int i_saved, .ref a_kept, .ref a_isKept, .ref a_text, .int i_length, .int i_next, .ref a_read, .ref a_uses, .ref a_entry, .ref a_passed, .ref a_draft, .ref a_label, .ref a_met, .ref a_bracket, .ref a_matrix])), (a_now, .inl (cyI, 34, .inl f_now)), (a_label, .inl (cyI, 17, .inl f_label))] sz) (kQi D cyI cyZ (va_A [(a_this, .inr (7, [.ref a_now, .ref a_history, .int i_saved, .ref a_kept, .ref a_isKept, .ref a_text, .int i_length, .int i_next, .ref a_read, .ref a_uses, .ref a_entry, .ref a_passed, .ref a_draft, .ref a_label, .ref a_met, .ref a_bracket, .ref a_matrix])), (a_now, .inl (cyI, 34, .inl f_now)), (a_label, .inl (cyI, 17, .inl f_label))] sz) [(a_this, .inr (7, [.ref a_now, .ref a_history, .int i_saved, .ref a_kept, .ref a_isKept, .ref a_text, .int i_length, .int i_next, .ref a_read, .ref a_uses, .ref a_entry, .ref a_passed, .ref a_draft, .ref a_label, .ref a_met, .ref a_bracket, .ref a_matrix])), (a_now, .inl (cyI, 34, .inl f_now)), (a_label, .inl (cyI, 17, .inl f_label))] r) 0 0 (va_A [(a_this, .inr (7, [.ref a_now, .ref a_history, .int i_saved, .ref a_kept, .ref a_isKept, .ref a_text, .int i_length, .int i_next, .ref a_read, .ref a_uses, .ref a_entry, .ref a_passed, .ref a_draft, .ref a_label, .ref a_met, .ref a_bracket, .ref a_matrix])), (a_now, .inl (cyI, 34, .inl f_now)), (a_label, .inl (cyI, 17, .inl f_label))] sz) := by
  refine Met.ofW (cc := cX10_classes) (maxL := 3) (ret := (some .int)) (by decide) rfl ?_
  intro p e s m args below meth c s₁ B hml hv
  obtain ⟨rfl, hsz, hP, hK, hD0, hN⟩ := hv
  have hx := B.exec
  have hb := B.bytes
  have hr := B.returns
  have hts := atoms_spec (ws := wsX10_classes) B.pre
  have hown : s.vm.findClass RX10 = some m.cls := findClass_of_methodNamed B.named
  have hlocks := B.notSynchronized
  subst hsz
  have hD := hD0.self (sz := s.heap.size)
  generalize hAe : va_A [(a_this, .inr (7, [.ref a_now, .ref a_history, .int i_saved, .ref a_kept, .ref a_isKept, .ref a_text, .int i_length, .int i_next, .ref a_read, .ref a_uses, .ref a_entry, .ref a_passed, .ref a_draft, .ref a_label, .ref a_met, .ref a_bracket, .ref a_matrix])), (a_now, .inl (cyI, 34, .inl f_now)), (a_label, .inl (cyI, 17, .inl f_label))] s.heap.size = A at hD ⊢
  have hA : ∀ q : Nat, s.heap.size ≤ q → A q := fun q h => by rw [← hAe]; exact Or.inr h
  clear hAe hD0
  have hS : va_S A s.heap s.heap [] := va_S.rf
  have S : CallFix p m c cX10_classes 3 s (([.ref a_this] : List Value).toArray) wsX10_classes RX10 := ⟨hx, hb, hml, hown, hts⟩
  have hl := lv_entry ([.ref a_this]) (n := 3) (Nat.le_of_ble_eq_true rfl)
  rw [lg_entry_eq]
  generalize (lg_sl ([.ref a_this]) ++ List.replicate (3 - (lg_sl ([.ref a_this])).length) Slot.unset).toArray = ls at hl ⊢
  replace hl : lv_has ls 3 [(0, .ref a_this)] := hl
  generalize ([] : List Loc) = locs at hS ⊢
  delta kX10_classes at hf
  obtain ⟨H, hH⟩ : ∃ H, H = s.heap := ⟨_, rfl⟩
  have hS : va_S A s.heap H locs := by rw [hH]; exact hS
  have hP : va_P D vwCl [(a_this, .inr (7, [.ref a_now, .ref a_history, .int i_saved, .ref a_kept, .ref a_isKept, .ref a_text, .int i_length, .int i_next, .ref a_read, .ref a_uses, .ref a_entry, .ref a_passed, .ref a_draft, .ref a_label, .ref a_met, .ref a_bracket, .ref a_matrix])), (a_now, .inl (cyI, 34, .inl f_now)), (a_label, .inl (cyI, 17, .inl f_label))] H := by rw [hH]; exact hP
  suffices hgo : W p l e (headSpec wsX10_classes rmX10_classes).room s m (([.ref a_this] : List Value).toArray) below meth c H locs 0 0 (MQ below (kQi D cyI cyZ A [(a_this, .inr (7, [.ref a_now, .ref a_history, .int i_saved, .ref a_kept, .ref a_isKept, .ref a_text, .int i_length, .int i_next, .ref a_read, .ref a_uses, .ref a_entry, .ref a_passed, .ref a_draft, .ref a_label, .ref a_met, .ref a_bracket, .ref a_matrix])), (a_now, .inl (cyI, 34, .inl f_now)), (a_label, .inl (cyI, 17, .inl f_label))] r) (([.ref a_this] : List Value).toArray) s 0 0 A) (F0 m 0 ls []) by rw [hH] at hgo; exact hgo
  clear hH
  refine lv_iconst (v := 0) hx hb dX10_classes_0 (by decide) ?_
  refine lv_istore_n (lv' := [(1, .int 0), (0, .ref a_this)]) hx hb dX10_classes_1 rfl hl (by decide) rfl (fun ls hl => ?_)
  refine lv_iconst (v := 1) hx hb dX10_classes_2 (by decide) ?_
  refine lv_istore_n (lv' := [(2, .int 1), (1, .int 0), (0, .ref a_this)]) hx hb dX10_classes_3 rfl hl (by decide) rfl (fun ls hl => ?_)
  have hL_1 : ∀ (n : Nat) (v1_1 : Int32) (v2_1 : Int32) (H : Heap) (locs : List Loc) (ls : Array Slot), it2 (kX10_classes_L1 f_now f_label) n v1_1 v2_1 = some r → va_P D vwCl [(a_this, .inr (7, [.ref a_now, .ref a_history, .int i_saved, .ref a_kept, .ref a_isKept, .ref a_text, .int i_length, .int i_next, .ref a_read, .ref a_uses, .ref a_entry, .ref a_passed, .ref a_draft, .ref a_label, .ref a_met, .ref a_bracket, .ref a_matrix])), (a_now, .inl (cyI, 34, .inl f_now)), (a_label, .inl (cyI, 17, .inl f_label))] H → va_D A [(a_this, .inr (7, [.ref a_now, .ref a_history, .int i_saved, .ref a_kept, .ref a_isKept, .ref a_text, .int i_length, .int i_next, .ref a_read, .ref a_uses, .ref a_entry, .ref a_passed, .ref a_draft, .ref a_label, .ref a_met, .ref a_bracket, .ref a_matrix])), (a_now, .inl (cyI, 34, .inl f_now)), (a_label, .inl (cyI, 17, .inl f_label))] → va_S A s.heap H locs → lv_has ls 3 [(0, .ref a_this), (1, .int v1_1), (2, .int v2_1)] → W p l e (headSpec wsX10_classes rmX10_classes).room s m (([.ref a_this] : List Value).toArray) below meth c H locs 0 0 (MQ below (kQi D cyI cyZ A [(a_this, .inr (7, [.ref a_now, .ref a_history, .int i_saved, .ref a_kept, .ref a_isKept, .ref a_text, .int i_length, .int i_next, .ref a_read, .ref a_uses, .ref a_entry, .ref a_passed, .ref a_draft, .ref a_label, .ref a_met, .ref a_bracket, .ref a_matrix])), (a_now, .inl (cyI, 34, .inl f_now)), (a_label, .inl (cyI, 17, .inl f_label))] r) (([.ref a_this] : List Value).toArray) s 0 0 A) (F0 m 4 ls []) := by
    intro n_1
    induction n_1 with
    | zero =>
      intro _ _ _ _ _ hf
      exact (it2_z hf).elim
    | succ n_1 ih_1 =>
      intro v1_1 v2_1 H locs ls hf hP hD hS hl
      replace hf := it2_s hf
      rw [kX10_classes_L1] at hf
      refine lv_iload_n hx hb dX10_classes_4 rfl (lv_at hl 2 rfl) ?_
      refine lv_bipush (v := 16) hx hb dX10_classes_5 (by decide) ?_
      refine lv_icmp_gt (tgt := 42) hx hb dX10_classes_7 (by decide) (fun c_5 => ?_) (fun c_5 => ?_)
      · replace hf := kt_p hf c_5
        refine lv_iload_n hx hb dX10_classes_42 rfl (lv_at hl 1 rfl) ?_
        obtain rfl := some1_s hf
        exact kRi hx hb hr hlocks hP hK hD hS rfl dX10_classes_43
      · replace hf := kt_n hf c_5
        refine lv_iload_n hx hb dX10_classes_10 rfl (lv_at hl 1 rfl) ?_
        refine lv_aload_n hx hb dX10_classes_11 rfl (lv_at hl 0 rfl) ?_
        refine lv_iload_n hx hb dX10_classes_12 rfl (lv_at hl 2 rfl) ?_
        obtain ⟨r_1, hc_1, hf⟩ := bnd1_s hf
        refine kcVi (As := [.int v2_1]) (rest := [.int v1_1]) (w2 := [(a_this, .inr (7, [.ref a_now, .ref a_history, .int i_saved, .ref a_kept, .ref a_isKept, .ref a_text, .int i_length, .int i_next, .ref a_read, .ref a_uses, .ref a_entry, .ref a_passed, .ref a_draft, .ref a_label, .ref a_met, .ref a_bracket, .ref a_matrix])), (a_now, .inl (cyI, 34, .inl f_now)), (a_label, .inl (cyI, 17, .inl f_label))]) S hK hP hD hS hA hN (mX10_occurs l D cyI cyZ H.size a_this a_now a_history a_kept a_isKept a_text a_read a_uses a_entry a_passed a_draft a_label a_met a_bracket a_matrix v2_1 i_saved i_length i_next f_now r_1 hc_1) (cwV 1 hts gX10_classes_X10_occurs rfl rfl rfl (by decide +kernel) ⟨Nat.le_of_ble_eq_true rfl, Nat.le_of_ble_eq_true rfl⟩) 7 0 rfl rfl [0, 1] [2] [1, 2, 0] rfl rfl rfl rfl (by decide) rfl rfl hl.1 (Nat.le_of_ble_eq_true rfl) dX10_classes_13 ⟨Nat.le_of_ble_eq_true rfl, Nat.le_of_ble_eq_true rfl⟩ (fun H locs hP hD hS => ?_)
        have hJ_2 : ∀ (t1_2 : Int32) (H : Heap) (locs : List Loc) (ls : Array Slot), kX10_classes_J2 (it2 (kX10_classes_L1 f_now f_label) n_1) v1_1 v2_1 t1_2 = some r → va_P D vwCl [(a_this, .inr (7, [.ref a_now, .ref a_history, .int i_saved, .ref a_kept, .ref a_isKept, .ref a_text, .int i_length, .int i_next, .ref a_read, .ref a_uses, .ref a_entry, .ref a_passed, .ref a_draft, .ref a_label, .ref a_met, .ref a_bracket, .ref a_matrix])), (a_now, .inl (cyI, 34, .inl f_now)), (a_label, .inl (cyI, 17, .inl f_label))] H → va_D A [(a_this, .inr (7, [.ref a_now, .ref a_history, .int i_saved, .ref a_kept, .ref a_isKept, .ref a_text, .int i_length, .int i_next, .ref a_read, .ref a_uses, .ref a_entry, .ref a_passed, .ref a_draft, .ref a_label, .ref a_met, .ref a_bracket, .ref a_matrix])), (a_now, .inl (cyI, 34, .inl f_now)), (a_label, .inl (cyI, 17, .inl f_label))] → va_S A s.heap H locs → lv_has ls 3 [(0, .ref a_this), (2, .int v2_1)] → W p l e (headSpec wsX10_classes rmX10_classes).room s m (([.ref a_this] : List Value).toArray) below meth c H locs 0 0 (MQ below (kQi D cyI cyZ A [(a_this, .inr (7, [.ref a_now, .ref a_history, .int i_saved, .ref a_kept, .ref a_isKept, .ref a_text, .int i_length, .int i_next, .ref a_read, .ref a_uses, .ref a_entry, .ref a_passed, .ref a_draft, .ref a_label, .ref a_met, .ref a_bracket, .ref a_matrix])), (a_now, .inl (cyI, 34, .inl f_now)), (a_label, .inl (cyI, 17, .inl f_label))] r) (([.ref a_this] : List Value).toArray) s 0 0 A) (F0 m 34 ls [.int t1_2, .int v1_1]) := by
          intro t1_2 H locs ls hf hP hD hS hl
          delta kX10_classes_J2 at hf
          refine lv_iadd hx hb dX10_classes_34 ?_
          refine lv_istore_n (lv' := [(1, .int (v1_1 + t1_2)), (0, .ref a_this), (2, .int v2_1)]) hx hb dX10_classes_35 rfl hl (by decide) rfl (fun ls hl => ?_)
          refine lv_iinc (v := (v2_1 + 1)) (lv' := [(2, .int (v2_1 + 1)), (1, .int (v1_1 + t1_2)), (0, .ref a_this)]) hx hb dX10_classes_36 hl (k := 2) rfl rfl (by decide) rfl (fun ls hl => ?_)
          refine lv_goto (tgt := 4) hx hb dX10_classes_39 (by decide) ?_
          exact ih_1 (v1_1 + t1_2) (v2_1 + 1) H locs ls hf hP hD hS (lv_sub hl [2, 1, 0] rfl)
        have hJ_3 : ∀  (H : Heap) (locs : List Loc) (ls : Array Slot), kX10_classes_J3 (it2 (kX10_classes_L1 f_now f_label) n_1) v1_1 v2_1  = some r → va_P D vwCl [(a_this, .inr (7, [.ref a_now, .ref a_history, .int i_saved, .ref a_kept, .ref a_isKept, .ref a_text, .int i_length, .int i_next, .ref a_read, .ref a_uses, .ref a_entry, .ref a_passed, .ref a_draft, .ref a_label, .ref a_met, .ref a_bracket, .ref a_matrix])), (a_now, .inl (cyI, 34, .inl f_now)), (a_label, .inl (cyI, 17, .inl f_label))] H → va_D A [(a_this, .inr (7, [.ref a_now, .ref a_history, .int i_saved, .ref a_kept, .ref a_isKept, .ref a_text, .int i_length, .int i_next, .ref a_read, .ref a_uses, .ref a_entry, .ref a_passed, .ref a_draft, .ref a_label, .ref a_met, .ref a_bracket, .ref a_matrix])), (a_now, .inl (cyI, 34, .inl f_now)), (a_label, .inl (cyI, 17, .inl f_label))] → va_S A s.heap H locs → lv_has ls 3 [(0, .ref a_this), (2, .int v2_1)] → W p l e (headSpec wsX10_classes rmX10_classes).room s m (([.ref a_this] : List Value).toArray) below meth c H locs 0 0 (MQ below (kQi D cyI cyZ A [(a_this, .inr (7, [.ref a_now, .ref a_history, .int i_saved, .ref a_kept, .ref a_isKept, .ref a_text, .int i_length, .int i_next, .ref a_read, .ref a_uses, .ref a_entry, .ref a_passed, .ref a_draft, .ref a_label, .ref a_met, .ref a_bracket, .ref a_matrix])), (a_now, .inl (cyI, 34, .inl f_now)), (a_label, .inl (cyI, 17, .inl f_label))] r) (([.ref a_this] : List Value).toArray) s 0 0 A) (F0 m 33 ls [.int v1_1]) := by
          intro  H locs ls hf hP hD hS hl
          delta kX10_classes_J3 at hf
          refine lv_iconst (v := 0) hx hb dX10_classes_33 (by decide) ?_
          exact hJ_2 0 H locs ls hf hP hD hS (lv_sub hl [0, 1] rfl)
        refine lv_if_eq (tgt := 33) hx hb dX10_classes_16 (by decide) (fun c_4 => ?_) (fun c_4 => ?_)
        · replace hf := kt_p hf c_4
          exact hJ_3 H locs ls hf hP hD hS (lv_sub hl [0, 2] rfl)
        · replace hf := kt_n hf c_4
          refine lv_aload_n hx hb dX10_classes_19 rfl (lv_at hl 0 rfl) ?_
          refine va_get (D := D) (ci := 7) (v := .ref a_label) (C := RX10) (T := TX10) (N := 17) hx hb hts qX10_classes_X10 hown hK hP 0 rfl rfl 13 (Nat.le_of_ble_eq_true rfl) (hts (.fieldLink RX10 41 "KnotDiagramModel" "label" "[I") qX10_classes_0) (fun _ h9 => h9) rfl dX10_classes_20 ?_
          refine lv_iload_n hx hb dX10_classes_23 rfl (lv_at hl 2 rfl) ?_
          obtain ⟨hi_2, hf⟩ := ck_s hf
          refine va_iald hx hb hK hP 2 0 rfl rfl hi_2 dX10_classes_24 ?_
          refine lv_iload_n hx hb dX10_classes_25 rfl (lv_at hl 2 rfl) ?_
          refine lv_icmp_ne (tgt := 33) hx hb dX10_classes_26 (by decide) (fun c_3 => ?_) (fun c_3 => ?_)
          · replace hf := kt_n hf c_3
            exact hJ_3 H locs ls hf hP hD hS (lv_sub hl [0, 2] rfl)
          · replace hf := kt_p hf c_3
            refine lv_iconst (v := 1) hx hb dX10_classes_29 (by decide) ?_
            refine lv_goto (tgt := 34) hx hb dX10_classes_30 (by decide) ?_
            exact hJ_2 1 H locs ls hf hP hD hS (lv_sub hl [0, 2] rfl)
  exact hL_1 400 0 1 H locs ls hf hP hD hS (lv_sub hl [2, 1, 0] rfl)
def kX10_componentCount_L1 (f_now : Nat → Int32) (K_1 : Int32 → (Nat → Int32) → Option (Int32 × (Nat → Int32))) (v1_1 : Int32) (f_label_1 : Nat → Int32) : Option (Int32 × (Nat → Int32)) :=
  bnd1 (kX10_ends f_now) (fun r_2 => if r_2 ≤ v1_1 then bnd1 (kX10_classes f_now f_label_1) (fun r_3 => ck 1 34 (some ((r_3 + (f_now (1 : Int32).toNatClampNeg)), f_label_1))) else bnd1 (kX10_turn v1_1 2) (fun r_5 => bnd1 (kX10_unite v1_1 r_5 f_now f_label_1) (fun o_label_6 => K_1 (v1_1 + 1) o_label_6)))
def kX10_componentCount (f_now : Nat → Int32) (f_label : Nat → Int32) : Option (Int32 × (Nat → Int32)) :=
  bnd1 (kX10_beginClasses f_label) (fun o_label_1 => it2 (kX10_componentCount_L1 f_now) 400 0 o_label_1)
def rmX10_componentCount : Room := { frames := 3, cells := 0, slots := 0, locals := 66 }
theorem qX10_componentCount_0 : (.fieldLink RX10 7 "KnotDiagramModel" "now" "[I" : Cond) ∈ wsX10_componentCount := by decide +kernel
theorem qX10_componentCount_X10 : ∀ w ∈ wsX100, w ∈ wsX10_componentCount := by decide +kernel
set_option maxHeartbeats 4000000 in
set_option maxRecDepth 100000 in
theorem mX10_componentCount (l : Launch) (D : va_G) (cyI cyZ : ClassId) (sz : Nat) (a_this a_now a_history a_kept a_isKept a_text a_read a_uses a_entry a_passed a_draft a_label a_met a_bracket a_matrix : Nat) (i_saved : Int32) (i_length : Int32) (i_next : Int32) (f_now : Nat → Int32) (f_label : Nat → Int32) (r : Int32) (o_label : Nat → Int32) (hf : kX10_componentCount f_now f_label = some (r, o_label)) : Met l yX10_componentCount wsX10_componentCount rmX10_componentCount (kPre D cyI cyZ [.ref a_this] [(a_this, .inr (7, [.ref a_now, .ref a_history, .int i_saved, .ref a_kept, .ref a_isKept, .ref a_text, .int i_length, .int i_next, .ref a_read, .ref a_uses, .ref a_entry, .ref a_passed, .ref a_draft, .ref a_label, .ref a_met, .ref a_bracket, .ref a_matrix])), (a_now, .inl (cyI, 34, .inl f_now)), (a_label, .inl (cyI, 17, .inl f_label))] sz) (kQi D cyI cyZ (va_A [(a_this, .inr (7, [.ref a_now, .ref a_history, .int i_saved, .ref a_kept, .ref a_isKept, .ref a_text, .int i_length, .int i_next, .ref a_read, .ref a_uses, .ref a_entry, .ref a_passed, .ref a_draft, .ref a_label, .ref a_met, .ref a_bracket, .ref a_matrix])), (a_now, .inl (cyI, 34, .inl f_now)), (a_label, .inl (cyI, 17, .inl f_label))] sz) [(a_this, .inr (7, [.ref a_now, .ref a_history, .int i_saved, .ref a_kept, .ref a_isKept, .ref a_text, .int i_length, .int i_next, .ref a_read, .ref a_uses, .ref a_entry, .ref a_passed, .ref a_draft, .ref a_label, .ref a_met, .ref a_bracket, .ref a_matrix])), (a_now, .inl (cyI, 34, .inl f_now)), (a_label, .inl (cyI, 17, .inl o_label))] r) 0 0 (va_A [(a_this, .inr (7, [.ref a_now, .ref a_history, .int i_saved, .ref a_kept, .ref a_isKept, .ref a_text, .int i_length, .int i_next, .ref a_read, .ref a_uses, .ref a_entry, .ref a_passed, .ref a_draft, .ref a_label, .ref a_met, .ref a_bracket, .ref a_matrix])), (a_now, .inl (cyI, 34, .inl f_now)), (a_label, .inl (cyI, 17, .inl f_label))] sz) := by
  refine Met.ofW (cc := cX10_componentCount) (maxL := 2) (ret := (some .int)) (by decide) rfl ?_
  intro p e s m args below meth c s₁ B hml hv
  obtain ⟨rfl, hsz, hP, hK, hD0, hN⟩ := hv
  have hx := B.exec
  have hb := B.bytes
  have hr := B.returns
  have hts := atoms_spec (ws := wsX10_componentCount) B.pre
  have hown : s.vm.findClass RX10 = some m.cls := findClass_of_methodNamed B.named
  have hlocks := B.notSynchronized
  subst hsz
  have hD := hD0.self (sz := s.heap.size)
  generalize hAe : va_A [(a_this, .inr (7, [.ref a_now, .ref a_history, .int i_saved, .ref a_kept, .ref a_isKept, .ref a_text, .int i_length, .int i_next, .ref a_read, .ref a_uses, .ref a_entry, .ref a_passed, .ref a_draft, .ref a_label, .ref a_met, .ref a_bracket, .ref a_matrix])), (a_now, .inl (cyI, 34, .inl f_now)), (a_label, .inl (cyI, 17, .inl f_label))] s.heap.size = A at hD ⊢
  have hA : ∀ q : Nat, s.heap.size ≤ q → A q := fun q h => by rw [← hAe]; exact Or.inr h
  clear hAe hD0
  have hS : va_S A s.heap s.heap [] := va_S.rf
  have S : CallFix p m c cX10_componentCount 2 s (([.ref a_this] : List Value).toArray) wsX10_componentCount RX10 := ⟨hx, hb, hml, hown, hts⟩
  have hl := lv_entry ([.ref a_this]) (n := 2) (Nat.le_of_ble_eq_true rfl)
  rw [lg_entry_eq]
  generalize (lg_sl ([.ref a_this]) ++ List.replicate (2 - (lg_sl ([.ref a_this])).length) Slot.unset).toArray = ls at hl ⊢
  replace hl : lv_has ls 2 [(0, .ref a_this)] := hl
  generalize ([] : List Loc) = locs at hS ⊢
  delta kX10_componentCount at hf
  obtain ⟨H, hH⟩ : ∃ H, H = s.heap := ⟨_, rfl⟩
  have hS : va_S A s.heap H locs := by rw [hH]; exact hS
  have hP : va_P D vwCl [(a_this, .inr (7, [.ref a_now, .ref a_history, .int i_saved, .ref a_kept, .ref a_isKept, .ref a_text, .int i_length, .int i_next, .ref a_read, .ref a_uses, .ref a_entry, .ref a_passed, .ref a_draft, .ref a_label, .ref a_met, .ref a_bracket, .ref a_matrix])), (a_now, .inl (cyI, 34, .inl f_now)), (a_label, .inl (cyI, 17, .inl f_label))] H := by rw [hH]; exact hP
  suffices hgo : W p l e (headSpec wsX10_componentCount rmX10_componentCount).room s m (([.ref a_this] : List Value).toArray) below meth c H locs 0 0 (MQ below (kQi D cyI cyZ A [(a_this, .inr (7, [.ref a_now, .ref a_history, .int i_saved, .ref a_kept, .ref a_isKept, .ref a_text, .int i_length, .int i_next, .ref a_read, .ref a_uses, .ref a_entry, .ref a_passed, .ref a_draft, .ref a_label, .ref a_met, .ref a_bracket, .ref a_matrix])), (a_now, .inl (cyI, 34, .inl f_now)), (a_label, .inl (cyI, 17, .inl o_label))] r) (([.ref a_this] : List Value).toArray) s 0 0 A) (F0 m 0 ls []) by rw [hH] at hgo; exact hgo
  clear hH
  refine lv_aload_n hx hb dX10_componentCount_0 rfl (lv_at hl 0 rfl) ?_
  obtain ⟨o_label_1, hc_1, hf⟩ := bnd1_s hf
  refine kcVv (As := []) (rest := []) (w2 := [(a_this, .inr (7, [.ref a_now, .ref a_history, .int i_saved, .ref a_kept, .ref a_isKept, .ref a_text, .int i_length, .int i_next, .ref a_read, .ref a_uses, .ref a_entry, .ref a_passed, .ref a_draft, .ref a_label, .ref a_met, .ref a_bracket, .ref a_matrix])), (a_now, .inl (cyI, 34, .inl f_now)), (a_label, .inl (cyI, 17, .inl o_label_1))]) S hK hP hD hS hA hN (mX10_beginClasses l D cyI cyZ H.size a_this a_now a_history a_kept a_isKept a_text a_read a_uses a_entry a_passed a_draft a_label a_met a_bracket a_matrix i_saved i_length i_next f_label o_label_1 hc_1) (cwV 0 hts gX10_componentCount_X10_beginClasses rfl rfl rfl (by decide +kernel) ⟨Nat.le_of_ble_eq_true rfl, Nat.le_of_ble_eq_true rfl⟩) 7 0 rfl rfl [0, 2] [1] [1, 0, 2] rfl rfl rfl rfl (by decide) rfl rfl hl.1 (Nat.le_of_ble_eq_true rfl) dX10_componentCount_1 ⟨Nat.le_of_ble_eq_true rfl, Nat.le_of_ble_eq_true rfl⟩ (fun H locs hP hD hS => ?_)
  refine lv_iconst (v := 0) hx hb dX10_componentCount_4 (by decide) ?_
  refine lv_istore_n (lv' := [(1, .int 0), (0, .ref a_this)]) hx hb dX10_componentCount_5 rfl hl (by decide) rfl (fun ls hl => ?_)
  have hL_1 : ∀ (n : Nat) (v1_1 : Int32) (f_label_1 : Nat → Int32) (H : Heap) (locs : List Loc) (ls : Array Slot), it2 (kX10_componentCount_L1 f_now) n v1_1 f_label_1 = some (r, o_label) → va_P D vwCl [(a_this, .inr (7, [.ref a_now, .ref a_history, .int i_saved, .ref a_kept, .ref a_isKept, .ref a_text, .int i_length, .int i_next, .ref a_read, .ref a_uses, .ref a_entry, .ref a_passed, .ref a_draft, .ref a_label, .ref a_met, .ref a_bracket, .ref a_matrix])), (a_now, .inl (cyI, 34, .inl f_now)), (a_label, .inl (cyI, 17, .inl f_label_1))] H → va_D A [(a_this, .inr (7, [.ref a_now, .ref a_history, .int i_saved, .ref a_kept, .ref a_isKept, .ref a_text, .int i_length, .int i_next, .ref a_read, .ref a_uses, .ref a_entry, .ref a_passed, .ref a_draft, .ref a_label, .ref a_met, .ref a_bracket, .ref a_matrix])), (a_now, .inl (cyI, 34, .inl f_now)), (a_label, .inl (cyI, 17, .inl f_label_1))] → va_S A s.heap H locs → lv_has ls 2 [(0, .ref a_this), (1, .int v1_1)] → W p l e (headSpec wsX10_componentCount rmX10_componentCount).room s m (([.ref a_this] : List Value).toArray) below meth c H locs 0 0 (MQ below (kQi D cyI cyZ A [(a_this, .inr (7, [.ref a_now, .ref a_history, .int i_saved, .ref a_kept, .ref a_isKept, .ref a_text, .int i_length, .int i_next, .ref a_read, .ref a_uses, .ref a_entry, .ref a_passed, .ref a_draft, .ref a_label, .ref a_met, .ref a_bracket, .ref a_matrix])), (a_now, .inl (cyI, 34, .inl f_now)), (a_label, .inl (cyI, 17, .inl o_label))] r) (([.ref a_this] : List Value).toArray) s 0 0 A) (F0 m 6 ls []) := by
    intro n_1
    induction n_1 with
    | zero =>
      intro _ _ _ _ _ hf
      exact (it2_z hf).elim
    | succ n_1 ih_1 =>
      intro v1_1 f_label_1 H locs ls hf hP hD hS hl
      replace hf := it2_s hf
      rw [kX10_componentCount_L1] at hf
      refine lv_iload_n hx hb dX10_componentCount_6 rfl (lv_at hl 1 rfl) ?_
      refine lv_aload_n hx hb dX10_componentCount_7 rfl (lv_at hl 0 rfl) ?_
      obtain ⟨r_2, hc_2, hf⟩ := bnd1_s hf
      refine kcVi (As := []) (rest := [.int v1_1]) (w2 := [(a_this, .inr (7, [.ref a_now, .ref a_history, .int i_saved, .ref a_kept, .ref a_isKept, .ref a_text, .int i_length, .int i_next, .ref a_read, .ref a_uses, .ref a_entry, .ref a_passed, .ref a_draft, .ref a_label, .ref a_met, .ref a_bracket, .ref a_matrix])), (a_now, .inl (cyI, 34, .inl f_now)), (a_label, .inl (cyI, 17, .inl f_label_1))]) S hK hP hD hS hA hN (mX10_ends l D cyI cyZ H.size a_this a_now a_history a_kept a_isKept a_text a_read a_uses a_entry a_passed a_draft a_label a_met a_bracket a_matrix i_saved i_length i_next f_now r_2 hc_2) (cwV 0 hts gX10_componentCount_X10_ends rfl rfl rfl (by decide +kernel) ⟨Nat.le_of_ble_eq_true rfl, Nat.le_of_ble_eq_true rfl⟩) 7 0 rfl rfl [0, 1] [2] [1, 2, 0] rfl rfl rfl rfl (by decide) rfl rfl hl.1 (Nat.le_of_ble_eq_true rfl) dX10_componentCount_8 ⟨Nat.le_of_ble_eq_true rfl, Nat.le_of_ble_eq_true rfl⟩ (fun H locs hP hD hS => ?_)
      refine lv_icmp_ge (tgt := 30) hx hb dX10_componentCount_11 (by decide) (fun c_7 => ?_) (fun c_7 => ?_)
      · replace hf := kt_p hf c_7
        refine lv_aload_n hx hb dX10_componentCount_30 rfl (lv_at hl 0 rfl) ?_
        obtain ⟨r_3, hc_3, hf⟩ := bnd1_s hf
        refine kcVi (As := []) (rest := []) (w2 := [(a_this, .inr (7, [.ref a_now, .ref a_history, .int i_saved, .ref a_kept, .ref a_isKept, .ref a_text, .int i_length, .int i_next, .ref a_read, .ref a_uses, .ref a_entry, .ref a_passed, .ref a_draft, .ref a_label, .ref a_met, .ref a_bracket, .ref a_matrix])), (a_now, .inl (cyI, 34, .inl f_now)), (a_label, .inl (cyI, 17, .inl f_label_1))]) S hK hP hD hS hA hN (mX10_classes l D cyI cyZ H.size a_this a_now a_history a_kept a_isKept a_text a_read a_uses a_entry a_passed a_draft a_label a_met a_bracket a_matrix i_saved i_length i_next f_now f_label_1 r_3 hc_3) (cwV 0 hts gX10_componentCount_X10_classes rfl rfl rfl (by decide +kernel) ⟨Nat.le_of_ble_eq_true rfl, Nat.le_of_ble_eq_true rfl⟩) 7 0 rfl rfl [0, 1, 2] [] [0, 1, 2] rfl rfl rfl rfl (by decide) rfl rfl hl.1 (Nat.le_of_ble_eq_true rfl) dX10_componentCount_31 ⟨Nat.le_of_ble_eq_true rfl, Nat.le_of_ble_eq_true rfl⟩ (fun H locs hP hD hS => ?_)
        refine lv_aload_n hx hb dX10_componentCount_34 rfl (lv_at hl 0 rfl) ?_
        refine va_get (D := D) (ci := 7) (v := .ref a_now) (C := RX10) (T := TX10) (N := 17) hx hb hts qX10_componentCount_X10 hown hK hP 0 rfl rfl 0 (Nat.le_of_ble_eq_true rfl) (hts (.fieldLink RX10 7 "KnotDiagramModel" "now" "[I") qX10_componentCount_0) (fun _ h9 => h9) rfl dX10_componentCount_35 ?_
        refine lv_iconst (v := 1) hx hb dX10_componentCount_38 (by decide) ?_
        obtain ⟨hi_4, hf⟩ := ck_s hf
        refine va_iald hx hb hK hP 1 0 rfl rfl hi_4 dX10_componentCount_39 ?_
        refine lv_iadd hx hb dX10_componentCount_40 ?_
        obtain ⟨rfl, rfl⟩ := some2_s hf
        exact kRi hx hb hr hlocks hP hK hD hS rfl dX10_componentCount_41
      · replace hf := kt_n hf c_7
        refine lv_aload_n hx hb dX10_componentCount_14 rfl (lv_at hl 0 rfl) ?_
        refine lv_iload_n hx hb dX10_componentCount_15 rfl (lv_at hl 1 rfl) ?_
        refine lv_iload_n hx hb dX10_componentCount_16 rfl (lv_at hl 1 rfl) ?_
        refine lv_iconst (v := 2) hx hb dX10_componentCount_17 (by decide) ?_
        obtain ⟨r_5, hc_5, hf⟩ := bnd1_s hf
        refine kcSi (As := [.int v1_1, .int 2]) (rest := [.int v1_1, .ref a_this]) (w2 := [(a_this, .inr (7, [.ref a_now, .ref a_history, .int i_saved, .ref a_kept, .ref a_isKept, .ref a_text, .int i_length, .int i_next, .ref a_read, .ref a_uses, .ref a_entry, .ref a_passed, .ref a_draft, .ref a_label, .ref a_met, .ref a_bracket, .ref a_matrix])), (a_now, .inl (cyI, 34, .inl f_now)), (a_label, .inl (cyI, 17, .inl f_label_1))]) S hK hP hD hS hA hN (mX10_turn l D cyI cyZ H.size v1_1 2 r_5 hc_5) (va_cwS 2 hts gX10_componentCount_X10_turn rfl rfl rfl (by decide +kernel) ⟨Nat.le_of_ble_eq_true rfl, Nat.le_of_ble_eq_true rfl⟩) [] [0, 1, 2] [0, 1, 2] rfl rfl rfl rfl (by decide) rfl rfl hl.1 (Nat.le_of_ble_eq_true rfl) dX10_componentCount_18 ⟨Nat.le_of_ble_eq_true rfl, Nat.le_of_ble_eq_true rfl⟩ (fun H locs hP hD hS => ?_)
        obtain ⟨o_label_6, hc_6, hf⟩ := bnd1_s hf
        refine kcVv (As := [.int v1_1, .int r_5]) (rest := []) (w2 := [(a_this, .inr (7, [.ref a_now, .ref a_history, .int i_saved, .ref a_kept, .ref a_isKept, .ref a_text, .int i_length, .int i_next, .ref a_read, .ref a_uses, .ref a_entry, .ref a_passed, .ref a_draft, .ref a_label, .ref a_met, .ref a_bracket, .ref a_matrix])), (a_now, .inl (cyI, 34, .inl f_now)), (a_label, .inl (cyI, 17, .inl o_label_6))]) S hK hP hD hS hA hN (mX10_unite l D cyI cyZ H.size a_this a_now a_history a_kept a_isKept a_text a_read a_uses a_entry a_passed a_draft a_label a_met a_bracket a_matrix v1_1 r_5 i_saved i_length i_next f_now f_label_1 o_label_6 hc_6) (cwV 2 hts gX10_componentCount_X10_unite rfl rfl rfl (by decide +kernel) ⟨Nat.le_of_ble_eq_true rfl, Nat.le_of_ble_eq_true rfl⟩) 7 0 rfl rfl [0, 1, 2] [] [0, 1, 2] rfl rfl rfl rfl (by decide) rfl rfl hl.1 (Nat.le_of_ble_eq_true rfl) dX10_componentCount_21 ⟨Nat.le_of_ble_eq_true rfl, Nat.le_of_ble_eq_true rfl⟩ (fun H locs hP hD hS => ?_)
        refine lv_iinc (v := (v1_1 + 1)) (lv' := [(1, .int (v1_1 + 1)), (0, .ref a_this)]) hx hb dX10_componentCount_24 hl (k := 1) rfl rfl (by decide) rfl (fun ls hl => ?_)
        refine lv_goto (tgt := 6) hx hb dX10_componentCount_27 (by decide) ?_
        exact ih_1 (v1_1 + 1) o_label_6 H locs ls hf hP hD hS (lv_sub hl [1, 0] rfl)
  exact hL_1 400 0 o_label_1 H locs ls hf hP hD hS (lv_sub hl [1, 0] rfl)
def kX10_partCount_L1 (f_now : Nat → Int32) (K_1 : Int32 → (Nat → Int32) → Option (Int32 × (Nat → Int32))) (v1_1 : Int32) (f_label_1 : Nat → Int32) : Option (Int32 × (Nat → Int32)) :=
  bnd1 (kX10_ends f_now) (fun r_2 => if r_2 ≤ v1_1 then bnd1 (kX10_classes f_now f_label_1) (fun r_3 => ck 1 34 (some ((r_3 + (f_now (1 : Int32).toNatClampNeg)), f_label_1))) else bnd1 (kX10_turn v1_1 1) (fun r_5 => bnd1 (kX10_unite v1_1 r_5 f_now f_label_1) (fun o_label_6 => K_1 (v1_1 + 1) o_label_6)))
def kX10_partCount (f_now : Nat → Int32) (f_label : Nat → Int32) : Option (Int32 × (Nat → Int32)) :=
  bnd1 (kX10_beginClasses f_label) (fun o_label_1 => it2 (kX10_partCount_L1 f_now) 400 0 o_label_1)
def rmX10_partCount : Room := { frames := 3, cells := 0, slots := 0, locals := 66 }
theorem qX10_partCount_0 : (.fieldLink RX10 7 "KnotDiagramModel" "now" "[I" : Cond) ∈ wsX10_partCount := by decide +kernel
theorem qX10_partCount_X10 : ∀ w ∈ wsX100, w ∈ wsX10_partCount := by decide +kernel
set_option maxHeartbeats 4000000 in
set_option maxRecDepth 100000 in
theorem mX10_partCount (l : Launch) (D : va_G) (cyI cyZ : ClassId) (sz : Nat) (a_this a_now a_history a_kept a_isKept a_text a_read a_uses a_entry a_passed a_draft a_label a_met a_bracket a_matrix : Nat) (i_saved : Int32) (i_length : Int32) (i_next : Int32) (f_now : Nat → Int32) (f_label : Nat → Int32) (r : Int32) (o_label : Nat → Int32) (hf : kX10_partCount f_now f_label = some (r, o_label)) : Met l yX10_partCount wsX10_partCount rmX10_partCount (kPre D cyI cyZ [.ref a_this] [(a_this, .inr (7, [.ref a_now, .ref a_history, .int i_saved, .ref a_kept, .ref a_isKept, .ref a_text, .int i_length, .int i_next, .ref a_read, .ref a_uses, .ref a_entry, .ref a_passed, .ref a_draft, .ref a_label, .ref a_met, .ref a_bracket, .ref a_matrix])), (a_now, .inl (cyI, 34, .inl f_now)), (a_label, .inl (cyI, 17, .inl f_label))] sz) (kQi D cyI cyZ (va_A [(a_this, .inr (7, [.ref a_now, .ref a_history, .int i_saved, .ref a_kept, .ref a_isKept, .ref a_text, .int i_length, .int i_next, .ref a_read, .ref a_uses, .ref a_entry, .ref a_passed, .ref a_draft, .ref a_label, .ref a_met, .ref a_bracket, .ref a_matrix])), (a_now, .inl (cyI, 34, .inl f_now)), (a_label, .inl (cyI, 17, .inl f_label))] sz) [(a_this, .inr (7, [.ref a_now, .ref a_history, .int i_saved, .ref a_kept, .ref a_isKept, .ref a_text, .int i_length, .int i_next, .ref a_read, .ref a_uses, .ref a_entry, .ref a_passed, .ref a_draft, .ref a_label, .ref a_met, .ref a_bracket, .ref a_matrix])), (a_now, .inl (cyI, 34, .inl f_now)), (a_label, .inl (cyI, 17, .inl o_label))] r) 0 0 (va_A [(a_this, .inr (7, [.ref a_now, .ref a_history, .int i_saved, .ref a_kept, .ref a_isKept, .ref a_text, .int i_length, .int i_next, .ref a_read, .ref a_uses, .ref a_entry, .ref a_passed, .ref a_draft, .ref a_label, .ref a_met, .ref a_bracket, .ref a_matrix])), (a_now, .inl (cyI, 34, .inl f_now)), (a_label, .inl (cyI, 17, .inl f_label))] sz) := by
  refine Met.ofW (cc := cX10_partCount) (maxL := 2) (ret := (some .int)) (by decide) rfl ?_
  intro p e s m args below meth c s₁ B hml hv
  obtain ⟨rfl, hsz, hP, hK, hD0, hN⟩ := hv
  have hx := B.exec
  have hb := B.bytes
  have hr := B.returns
  have hts := atoms_spec (ws := wsX10_partCount) B.pre
  have hown : s.vm.findClass RX10 = some m.cls := findClass_of_methodNamed B.named
  have hlocks := B.notSynchronized
  subst hsz
  have hD := hD0.self (sz := s.heap.size)
  generalize hAe : va_A [(a_this, .inr (7, [.ref a_now, .ref a_history, .int i_saved, .ref a_kept, .ref a_isKept, .ref a_text, .int i_length, .int i_next, .ref a_read, .ref a_uses, .ref a_entry, .ref a_passed, .ref a_draft, .ref a_label, .ref a_met, .ref a_bracket, .ref a_matrix])), (a_now, .inl (cyI, 34, .inl f_now)), (a_label, .inl (cyI, 17, .inl f_label))] s.heap.size = A at hD ⊢
  have hA : ∀ q : Nat, s.heap.size ≤ q → A q := fun q h => by rw [← hAe]; exact Or.inr h
  clear hAe hD0
  have hS : va_S A s.heap s.heap [] := va_S.rf
  have S : CallFix p m c cX10_partCount 2 s (([.ref a_this] : List Value).toArray) wsX10_partCount RX10 := ⟨hx, hb, hml, hown, hts⟩
  have hl := lv_entry ([.ref a_this]) (n := 2) (Nat.le_of_ble_eq_true rfl)
  rw [lg_entry_eq]
  generalize (lg_sl ([.ref a_this]) ++ List.replicate (2 - (lg_sl ([.ref a_this])).length) Slot.unset).toArray = ls at hl ⊢
  replace hl : lv_has ls 2 [(0, .ref a_this)] := hl
  generalize ([] : List Loc) = locs at hS ⊢
  delta kX10_partCount at hf
  obtain ⟨H, hH⟩ : ∃ H, H = s.heap := ⟨_, rfl⟩
  have hS : va_S A s.heap H locs := by rw [hH]; exact hS
  have hP : va_P D vwCl [(a_this, .inr (7, [.ref a_now, .ref a_history, .int i_saved, .ref a_kept, .ref a_isKept, .ref a_text, .int i_length, .int i_next, .ref a_read, .ref a_uses, .ref a_entry, .ref a_passed, .ref a_draft, .ref a_label, .ref a_met, .ref a_bracket, .ref a_matrix])), (a_now, .inl (cyI, 34, .inl f_now)), (a_label, .inl (cyI, 17, .inl f_label))] H := by rw [hH]; exact hP
  suffices hgo : W p l e (headSpec wsX10_partCount rmX10_partCount).room s m (([.ref a_this] : List Value).toArray) below meth c H locs 0 0 (MQ below (kQi D cyI cyZ A [(a_this, .inr (7, [.ref a_now, .ref a_history, .int i_saved, .ref a_kept, .ref a_isKept, .ref a_text, .int i_length, .int i_next, .ref a_read, .ref a_uses, .ref a_entry, .ref a_passed, .ref a_draft, .ref a_label, .ref a_met, .ref a_bracket, .ref a_matrix])), (a_now, .inl (cyI, 34, .inl f_now)), (a_label, .inl (cyI, 17, .inl o_label))] r) (([.ref a_this] : List Value).toArray) s 0 0 A) (F0 m 0 ls []) by rw [hH] at hgo; exact hgo
  clear hH
  refine lv_aload_n hx hb dX10_partCount_0 rfl (lv_at hl 0 rfl) ?_
  obtain ⟨o_label_1, hc_1, hf⟩ := bnd1_s hf
  refine kcVv (As := []) (rest := []) (w2 := [(a_this, .inr (7, [.ref a_now, .ref a_history, .int i_saved, .ref a_kept, .ref a_isKept, .ref a_text, .int i_length, .int i_next, .ref a_read, .ref a_uses, .ref a_entry, .ref a_passed, .ref a_draft, .ref a_label, .ref a_met, .ref a_bracket, .ref a_matrix])), (a_now, .inl (cyI, 34, .inl f_now)), (a_label, .inl (cyI, 17, .inl o_label_1))]) S hK hP hD hS hA hN (mX10_beginClasses l D cyI cyZ H.size a_this a_now a_history a_kept a_isKept a_text a_read a_uses a_entry a_passed a_draft a_label a_met a_bracket a_matrix i_saved i_length i_next f_label o_label_1 hc_1) (cwV 0 hts gX10_partCount_X10_beginClasses rfl rfl rfl (by decide +kernel) ⟨Nat.le_of_ble_eq_true rfl, Nat.le_of_ble_eq_true rfl⟩) 7 0 rfl rfl [0, 2] [1] [1, 0, 2] rfl rfl rfl rfl (by decide) rfl rfl hl.1 (Nat.le_of_ble_eq_true rfl) dX10_partCount_1 ⟨Nat.le_of_ble_eq_true rfl, Nat.le_of_ble_eq_true rfl⟩ (fun H locs hP hD hS => ?_)
  refine lv_iconst (v := 0) hx hb dX10_partCount_4 (by decide) ?_
  refine lv_istore_n (lv' := [(1, .int 0), (0, .ref a_this)]) hx hb dX10_partCount_5 rfl hl (by decide) rfl (fun ls hl => ?_)
  have hL_1 : ∀ (n : Nat) (v1_1 : Int32) (f_label_1 : Nat → Int32) (H : Heap) (locs : List Loc) (ls : Array Slot), it2 (kX10_partCount_L1 f_now) n v1_1 f_label_1 = some (r, o_label) → va_P D vwCl [(a_this, .inr (7, [.ref a_now, .ref a_history, .int i_saved, .ref a_kept, .ref a_isKept, .ref a_text, .int i_length, .int i_next, .ref a_read, .ref a_uses, .ref a_entry, .ref a_passed, .ref a_draft, .ref a_label, .ref a_met, .ref a_bracket, .ref a_matrix])), (a_now, .inl (cyI, 34, .inl f_now)), (a_label, .inl (cyI, 17, .inl f_label_1))] H → va_D A [(a_this, .inr (7, [.ref a_now, .ref a_history, .int i_saved, .ref a_kept, .ref a_isKept, .ref a_text, .int i_length, .int i_next, .ref a_read, .ref a_uses, .ref a_entry, .ref a_passed, .ref a_draft, .ref a_label, .ref a_met, .ref a_bracket, .ref a_matrix])), (a_now, .inl (cyI, 34, .inl f_now)), (a_label, .inl (cyI, 17, .inl f_label_1))] → va_S A s.heap H locs → lv_has ls 2 [(0, .ref a_this), (1, .int v1_1)] → W p l e (headSpec wsX10_partCount rmX10_partCount).room s m (([.ref a_this] : List Value).toArray) below meth c H locs 0 0 (MQ below (kQi D cyI cyZ A [(a_this, .inr (7, [.ref a_now, .ref a_history, .int i_saved, .ref a_kept, .ref a_isKept, .ref a_text, .int i_length, .int i_next, .ref a_read, .ref a_uses, .ref a_entry, .ref a_passed, .ref a_draft, .ref a_label, .ref a_met, .ref a_bracket, .ref a_matrix])), (a_now, .inl (cyI, 34, .inl f_now)), (a_label, .inl (cyI, 17, .inl o_label))] r) (([.ref a_this] : List Value).toArray) s 0 0 A) (F0 m 6 ls []) := by
    intro n_1
    induction n_1 with
    | zero =>
      intro _ _ _ _ _ hf
      exact (it2_z hf).elim
    | succ n_1 ih_1 =>
      intro v1_1 f_label_1 H locs ls hf hP hD hS hl
      replace hf := it2_s hf
      rw [kX10_partCount_L1] at hf
      refine lv_iload_n hx hb dX10_partCount_6 rfl (lv_at hl 1 rfl) ?_
      refine lv_aload_n hx hb dX10_partCount_7 rfl (lv_at hl 0 rfl) ?_
      obtain ⟨r_2, hc_2, hf⟩ := bnd1_s hf
      refine kcVi (As := []) (rest := [.int v1_1]) (w2 := [(a_this, .inr (7, [.ref a_now, .ref a_history, .int i_saved, .ref a_kept, .ref a_isKept, .ref a_text, .int i_length, .int i_next, .ref a_read, .ref a_uses, .ref a_entry, .ref a_passed, .ref a_draft, .ref a_label, .ref a_met, .ref a_bracket, .ref a_matrix])), (a_now, .inl (cyI, 34, .inl f_now)), (a_label, .inl (cyI, 17, .inl f_label_1))]) S hK hP hD hS hA hN (mX10_ends l D cyI cyZ H.size a_this a_now a_history a_kept a_isKept a_text a_read a_uses a_entry a_passed a_draft a_label a_met a_bracket a_matrix i_saved i_length i_next f_now r_2 hc_2) (cwV 0 hts gX10_partCount_X10_ends rfl rfl rfl (by decide +kernel) ⟨Nat.le_of_ble_eq_true rfl, Nat.le_of_ble_eq_true rfl⟩) 7 0 rfl rfl [0, 1] [2] [1, 2, 0] rfl rfl rfl rfl (by decide) rfl rfl hl.1 (Nat.le_of_ble_eq_true rfl) dX10_partCount_8 ⟨Nat.le_of_ble_eq_true rfl, Nat.le_of_ble_eq_true rfl⟩ (fun H locs hP hD hS => ?_)
      refine lv_icmp_ge (tgt := 30) hx hb dX10_partCount_11 (by decide) (fun c_7 => ?_) (fun c_7 => ?_)
      · replace hf := kt_p hf c_7
        refine lv_aload_n hx hb dX10_partCount_30 rfl (lv_at hl 0 rfl) ?_
        obtain ⟨r_3, hc_3, hf⟩ := bnd1_s hf
        refine kcVi (As := []) (rest := []) (w2 := [(a_this, .inr (7, [.ref a_now, .ref a_history, .int i_saved, .ref a_kept, .ref a_isKept, .ref a_text, .int i_length, .int i_next, .ref a_read, .ref a_uses, .ref a_entry, .ref a_passed, .ref a_draft, .ref a_label, .ref a_met, .ref a_bracket, .ref a_matrix])), (a_now, .inl (cyI, 34, .inl f_now)), (a_label, .inl (cyI, 17, .inl f_label_1))]) S hK hP hD hS hA hN (mX10_classes l D cyI cyZ H.size a_this a_now a_history a_kept a_isKept a_text a_read a_uses a_entry a_passed a_draft a_label a_met a_bracket a_matrix i_saved i_length i_next f_now f_label_1 r_3 hc_3) (cwV 0 hts gX10_partCount_X10_classes rfl rfl rfl (by decide +kernel) ⟨Nat.le_of_ble_eq_true rfl, Nat.le_of_ble_eq_true rfl⟩) 7 0 rfl rfl [0, 1, 2] [] [0, 1, 2] rfl rfl rfl rfl (by decide) rfl rfl hl.1 (Nat.le_of_ble_eq_true rfl) dX10_partCount_31 ⟨Nat.le_of_ble_eq_true rfl, Nat.le_of_ble_eq_true rfl⟩ (fun H locs hP hD hS => ?_)
        refine lv_aload_n hx hb dX10_partCount_34 rfl (lv_at hl 0 rfl) ?_
        refine va_get (D := D) (ci := 7) (v := .ref a_now) (C := RX10) (T := TX10) (N := 17) hx hb hts qX10_partCount_X10 hown hK hP 0 rfl rfl 0 (Nat.le_of_ble_eq_true rfl) (hts (.fieldLink RX10 7 "KnotDiagramModel" "now" "[I") qX10_partCount_0) (fun _ h9 => h9) rfl dX10_partCount_35 ?_
        refine lv_iconst (v := 1) hx hb dX10_partCount_38 (by decide) ?_
        obtain ⟨hi_4, hf⟩ := ck_s hf
        refine va_iald hx hb hK hP 1 0 rfl rfl hi_4 dX10_partCount_39 ?_
        refine lv_iadd hx hb dX10_partCount_40 ?_
        obtain ⟨rfl, rfl⟩ := some2_s hf
        exact kRi hx hb hr hlocks hP hK hD hS rfl dX10_partCount_41
      · replace hf := kt_n hf c_7
        refine lv_aload_n hx hb dX10_partCount_14 rfl (lv_at hl 0 rfl) ?_
        refine lv_iload_n hx hb dX10_partCount_15 rfl (lv_at hl 1 rfl) ?_
        refine lv_iload_n hx hb dX10_partCount_16 rfl (lv_at hl 1 rfl) ?_
        refine lv_iconst (v := 1) hx hb dX10_partCount_17 (by decide) ?_
        obtain ⟨r_5, hc_5, hf⟩ := bnd1_s hf
        refine kcSi (As := [.int v1_1, .int 1]) (rest := [.int v1_1, .ref a_this]) (w2 := [(a_this, .inr (7, [.ref a_now, .ref a_history, .int i_saved, .ref a_kept, .ref a_isKept, .ref a_text, .int i_length, .int i_next, .ref a_read, .ref a_uses, .ref a_entry, .ref a_passed, .ref a_draft, .ref a_label, .ref a_met, .ref a_bracket, .ref a_matrix])), (a_now, .inl (cyI, 34, .inl f_now)), (a_label, .inl (cyI, 17, .inl f_label_1))]) S hK hP hD hS hA hN (mX10_turn l D cyI cyZ H.size v1_1 1 r_5 hc_5) (va_cwS 2 hts gX10_partCount_X10_turn rfl rfl rfl (by decide +kernel) ⟨Nat.le_of_ble_eq_true rfl, Nat.le_of_ble_eq_true rfl⟩) [] [0, 1, 2] [0, 1, 2] rfl rfl rfl rfl (by decide) rfl rfl hl.1 (Nat.le_of_ble_eq_true rfl) dX10_partCount_18 ⟨Nat.le_of_ble_eq_true rfl, Nat.le_of_ble_eq_true rfl⟩ (fun H locs hP hD hS => ?_)
        obtain ⟨o_label_6, hc_6, hf⟩ := bnd1_s hf
        refine kcVv (As := [.int v1_1, .int r_5]) (rest := []) (w2 := [(a_this, .inr (7, [.ref a_now, .ref a_history, .int i_saved, .ref a_kept, .ref a_isKept, .ref a_text, .int i_length, .int i_next, .ref a_read, .ref a_uses, .ref a_entry, .ref a_passed, .ref a_draft, .ref a_label, .ref a_met, .ref a_bracket, .ref a_matrix])), (a_now, .inl (cyI, 34, .inl f_now)), (a_label, .inl (cyI, 17, .inl o_label_6))]) S hK hP hD hS hA hN (mX10_unite l D cyI cyZ H.size a_this a_now a_history a_kept a_isKept a_text a_read a_uses a_entry a_passed a_draft a_label a_met a_bracket a_matrix v1_1 r_5 i_saved i_length i_next f_now f_label_1 o_label_6 hc_6) (cwV 2 hts gX10_partCount_X10_unite rfl rfl rfl (by decide +kernel) ⟨Nat.le_of_ble_eq_true rfl, Nat.le_of_ble_eq_true rfl⟩) 7 0 rfl rfl [0, 1, 2] [] [0, 1, 2] rfl rfl rfl rfl (by decide) rfl rfl hl.1 (Nat.le_of_ble_eq_true rfl) dX10_partCount_21 ⟨Nat.le_of_ble_eq_true rfl, Nat.le_of_ble_eq_true rfl⟩ (fun H locs hP hD hS => ?_)
        refine lv_iinc (v := (v1_1 + 1)) (lv' := [(1, .int (v1_1 + 1)), (0, .ref a_this)]) hx hb dX10_partCount_24 hl (k := 1) rfl rfl (by decide) rfl (fun ls hl => ?_)
        refine lv_goto (tgt := 6) hx hb dX10_partCount_27 (by decide) ?_
        exact ih_1 (v1_1 + 1) o_label_6 H locs ls hf hP hD hS (lv_sub hl [1, 0] rfl)
  exact hL_1 400 0 o_label_1 H locs ls hf hP hD hS (lv_sub hl [1, 0] rfl)
def kX10_faceCount_L4 (f_now : Nat → Int32) (K_2 : Int32 → Int32 → (Nat → Int32) → Option (Int32 × (Nat → Int32))) (v1_2 : Int32) (t1_3 : Int32) (v2_2 : Int32) (K_4 : Int32 → (Nat → Int32) → Option (Int32 × (Nat → Int32))) (v3_4 : Int32) (f_met_4 : Nat → Int32) : Option (Int32 × (Nat → Int32)) :=
  ck v3_4 32 (if (f_met_4 v3_4.toNatClampNeg) = 0 then ck v3_4 32 (bnd1 (kX10_other v3_4 f_now) (fun r_7 => bnd1 (kX10_turn r_7 1) (fun r_8 => K_4 r_8 (upd f_met_4 v3_4.toNatClampNeg (1 &&& 1))))) else K_2 (v1_2 + t1_3) (v2_2 + 1) f_met_4)
def kX10_faceCount_J3 (f_now : Nat → Int32) (K_2 : Int32 → Int32 → (Nat → Int32) → Option (Int32 × (Nat → Int32))) (v1_2 : Int32) (v2_2 : Int32) (f_met_2 : Nat → Int32) (t1_3 : Int32) : Option (Int32 × (Nat → Int32)) :=
  it2 (kX10_faceCount_L4 f_now K_2 v1_2 t1_3 v2_2) 400 v2_2 f_met_2
def kX10_faceCount_L2 (f_now : Nat → Int32) (K_2 : Int32 → Int32 → (Nat → Int32) → Option (Int32 × (Nat → Int32))) (v1_2 : Int32) (v2_2 : Int32) (f_met_2 : Nat → Int32) : Option (Int32 × (Nat → Int32)) :=
  bnd1 (kX10_ends f_now) (fun r_3 => if r_3 ≤ v2_2 then some (v1_2, f_met_2) else ck v2_2 32 (if (f_met_2 v2_2.toNatClampNeg) = 0 then kX10_faceCount_J3 f_now K_2 v1_2 v2_2 f_met_2 1 else kX10_faceCount_J3 f_now K_2 v1_2 v2_2 f_met_2 0))
def kX10_faceCount_L1 (f_now : Nat → Int32) (K_1 : Int32 → (Nat → Int32) → Option (Int32 × (Nat → Int32))) (v1_1 : Int32) (f_met_1 : Nat → Int32) : Option (Int32 × (Nat → Int32)) :=
  bnd1 (kX10_ends f_now) (fun r_1 => if r_1 ≤ v1_1 then ck 1 34 (it3 (kX10_faceCount_L2 f_now) 400 (2 * (f_now (1 : Int32).toNatClampNeg)) 0 f_met_1) else ck v1_1 32 (K_1 (v1_1 + 1) (upd f_met_1 v1_1.toNatClampNeg (0 &&& 1))))
def kX10_faceCount (f_now : Nat → Int32) (f_met : Nat → Int32) : Option (Int32 × (Nat → Int32)) :=
  it2 (kX10_faceCount_L1 f_now) 400 0 f_met
def rmX10_faceCount : Room := { frames := 2, cells := 0, slots := 0, locals := 44 }
theorem qX10_faceCount_0 : (.fieldLink RX10 7 "KnotDiagramModel" "now" "[I" : Cond) ∈ wsX10_faceCount := by decide +kernel
theorem qX10_faceCount_1 : (.fieldLink RX10 44 "KnotDiagramModel" "met" "[Z" : Cond) ∈ wsX10_faceCount := by decide +kernel
theorem qX10_faceCount_X10 : ∀ w ∈ wsX100, w ∈ wsX10_faceCount := by decide +kernel
set_option maxHeartbeats 4000000 in
set_option maxRecDepth 100000 in
theorem mX10_faceCount (l : Launch) (D : va_G) (cyI cyZ : ClassId) (sz : Nat) (a_this a_now a_history a_kept a_isKept a_text a_read a_uses a_entry a_passed a_draft a_label a_met a_bracket a_matrix : Nat) (i_saved : Int32) (i_length : Int32) (i_next : Int32) (f_now : Nat → Int32) (f_met : Nat → Int32) (r : Int32) (o_met : Nat → Int32) (hf : kX10_faceCount f_now f_met = some (r, o_met)) : Met l yX10_faceCount wsX10_faceCount rmX10_faceCount (kPre D cyI cyZ [.ref a_this] [(a_this, .inr (7, [.ref a_now, .ref a_history, .int i_saved, .ref a_kept, .ref a_isKept, .ref a_text, .int i_length, .int i_next, .ref a_read, .ref a_uses, .ref a_entry, .ref a_passed, .ref a_draft, .ref a_label, .ref a_met, .ref a_bracket, .ref a_matrix])), (a_now, .inl (cyI, 34, .inl f_now)), (a_met, .inl (cyZ, 32, .inl f_met))] sz) (kQi D cyI cyZ (va_A [(a_this, .inr (7, [.ref a_now, .ref a_history, .int i_saved, .ref a_kept, .ref a_isKept, .ref a_text, .int i_length, .int i_next, .ref a_read, .ref a_uses, .ref a_entry, .ref a_passed, .ref a_draft, .ref a_label, .ref a_met, .ref a_bracket, .ref a_matrix])), (a_now, .inl (cyI, 34, .inl f_now)), (a_met, .inl (cyZ, 32, .inl f_met))] sz) [(a_this, .inr (7, [.ref a_now, .ref a_history, .int i_saved, .ref a_kept, .ref a_isKept, .ref a_text, .int i_length, .int i_next, .ref a_read, .ref a_uses, .ref a_entry, .ref a_passed, .ref a_draft, .ref a_label, .ref a_met, .ref a_bracket, .ref a_matrix])), (a_now, .inl (cyI, 34, .inl f_now)), (a_met, .inl (cyZ, 32, .inl o_met))] r) 0 0 (va_A [(a_this, .inr (7, [.ref a_now, .ref a_history, .int i_saved, .ref a_kept, .ref a_isKept, .ref a_text, .int i_length, .int i_next, .ref a_read, .ref a_uses, .ref a_entry, .ref a_passed, .ref a_draft, .ref a_label, .ref a_met, .ref a_bracket, .ref a_matrix])), (a_now, .inl (cyI, 34, .inl f_now)), (a_met, .inl (cyZ, 32, .inl f_met))] sz) := by
  refine Met.ofW (cc := cX10_faceCount) (maxL := 4) (ret := (some .int)) (by decide) rfl ?_
  intro p e s m args below meth c s₁ B hml hv
  obtain ⟨rfl, hsz, hP, hK, hD0, hN⟩ := hv
  have hx := B.exec
  have hb := B.bytes
  have hr := B.returns
  have hts := atoms_spec (ws := wsX10_faceCount) B.pre
  have hown : s.vm.findClass RX10 = some m.cls := findClass_of_methodNamed B.named
  have hlocks := B.notSynchronized
  subst hsz
  have hD := hD0.self (sz := s.heap.size)
  generalize hAe : va_A [(a_this, .inr (7, [.ref a_now, .ref a_history, .int i_saved, .ref a_kept, .ref a_isKept, .ref a_text, .int i_length, .int i_next, .ref a_read, .ref a_uses, .ref a_entry, .ref a_passed, .ref a_draft, .ref a_label, .ref a_met, .ref a_bracket, .ref a_matrix])), (a_now, .inl (cyI, 34, .inl f_now)), (a_met, .inl (cyZ, 32, .inl f_met))] s.heap.size = A at hD ⊢
  have hA : ∀ q : Nat, s.heap.size ≤ q → A q := fun q h => by rw [← hAe]; exact Or.inr h
  clear hAe hD0
  have hS : va_S A s.heap s.heap [] := va_S.rf
  have S : CallFix p m c cX10_faceCount 4 s (([.ref a_this] : List Value).toArray) wsX10_faceCount RX10 := ⟨hx, hb, hml, hown, hts⟩
  have hl := lv_entry ([.ref a_this]) (n := 4) (Nat.le_of_ble_eq_true rfl)
  rw [lg_entry_eq]
  generalize (lg_sl ([.ref a_this]) ++ List.replicate (4 - (lg_sl ([.ref a_this])).length) Slot.unset).toArray = ls at hl ⊢
  replace hl : lv_has ls 4 [(0, .ref a_this)] := hl
  generalize ([] : List Loc) = locs at hS ⊢
  delta kX10_faceCount at hf
  obtain ⟨H, hH⟩ : ∃ H, H = s.heap := ⟨_, rfl⟩
  have hS : va_S A s.heap H locs := by rw [hH]; exact hS
  have hP : va_P D vwCl [(a_this, .inr (7, [.ref a_now, .ref a_history, .int i_saved, .ref a_kept, .ref a_isKept, .ref a_text, .int i_length, .int i_next, .ref a_read, .ref a_uses, .ref a_entry, .ref a_passed, .ref a_draft, .ref a_label, .ref a_met, .ref a_bracket, .ref a_matrix])), (a_now, .inl (cyI, 34, .inl f_now)), (a_met, .inl (cyZ, 32, .inl f_met))] H := by rw [hH]; exact hP
  suffices hgo : W p l e (headSpec wsX10_faceCount rmX10_faceCount).room s m (([.ref a_this] : List Value).toArray) below meth c H locs 0 0 (MQ below (kQi D cyI cyZ A [(a_this, .inr (7, [.ref a_now, .ref a_history, .int i_saved, .ref a_kept, .ref a_isKept, .ref a_text, .int i_length, .int i_next, .ref a_read, .ref a_uses, .ref a_entry, .ref a_passed, .ref a_draft, .ref a_label, .ref a_met, .ref a_bracket, .ref a_matrix])), (a_now, .inl (cyI, 34, .inl f_now)), (a_met, .inl (cyZ, 32, .inl o_met))] r) (([.ref a_this] : List Value).toArray) s 0 0 A) (F0 m 0 ls []) by rw [hH] at hgo; exact hgo
  clear hH
  refine lv_iconst (v := 0) hx hb dX10_faceCount_0 (by decide) ?_
  refine lv_istore_n (lv' := [(1, .int 0), (0, .ref a_this)]) hx hb dX10_faceCount_1 rfl hl (by decide) rfl (fun ls hl => ?_)
  have hL_1 : ∀ (n : Nat) (v1_1 : Int32) (f_met_1 : Nat → Int32) (H : Heap) (locs : List Loc) (ls : Array Slot), it2 (kX10_faceCount_L1 f_now) n v1_1 f_met_1 = some (r, o_met) → va_P D vwCl [(a_this, .inr (7, [.ref a_now, .ref a_history, .int i_saved, .ref a_kept, .ref a_isKept, .ref a_text, .int i_length, .int i_next, .ref a_read, .ref a_uses, .ref a_entry, .ref a_passed, .ref a_draft, .ref a_label, .ref a_met, .ref a_bracket, .ref a_matrix])), (a_now, .inl (cyI, 34, .inl f_now)), (a_met, .inl (cyZ, 32, .inl f_met_1))] H → va_D A [(a_this, .inr (7, [.ref a_now, .ref a_history, .int i_saved, .ref a_kept, .ref a_isKept, .ref a_text, .int i_length, .int i_next, .ref a_read, .ref a_uses, .ref a_entry, .ref a_passed, .ref a_draft, .ref a_label, .ref a_met, .ref a_bracket, .ref a_matrix])), (a_now, .inl (cyI, 34, .inl f_now)), (a_met, .inl (cyZ, 32, .inl f_met_1))] → va_S A s.heap H locs → lv_has ls 4 [(0, .ref a_this), (1, .int v1_1)] → W p l e (headSpec wsX10_faceCount rmX10_faceCount).room s m (([.ref a_this] : List Value).toArray) below meth c H locs 0 0 (MQ below (kQi D cyI cyZ A [(a_this, .inr (7, [.ref a_now, .ref a_history, .int i_saved, .ref a_kept, .ref a_isKept, .ref a_text, .int i_length, .int i_next, .ref a_read, .ref a_uses, .ref a_entry, .ref a_passed, .ref a_draft, .ref a_label, .ref a_met, .ref a_bracket, .ref a_matrix])), (a_now, .inl (cyI, 34, .inl f_now)), (a_met, .inl (cyZ, 32, .inl o_met))] r) (([.ref a_this] : List Value).toArray) s 0 0 A) (F0 m 2 ls []) := by
    intro n_1
    induction n_1 with
    | zero =>
      intro _ _ _ _ _ hf
      exact (it2_z hf).elim
    | succ n_1 ih_1 =>
      intro v1_1 f_met_1 H locs ls hf hP hD hS hl
      replace hf := it2_s hf
      rw [kX10_faceCount_L1] at hf
      refine lv_iload_n hx hb dX10_faceCount_2 rfl (lv_at hl 1 rfl) ?_
      refine lv_aload_n hx hb dX10_faceCount_3 rfl (lv_at hl 0 rfl) ?_
      obtain ⟨r_1, hc_1, hf⟩ := bnd1_s hf
      refine kcVi (As := []) (rest := [.int v1_1]) (w2 := [(a_this, .inr (7, [.ref a_now, .ref a_history, .int i_saved, .ref a_kept, .ref a_isKept, .ref a_text, .int i_length, .int i_next, .ref a_read, .ref a_uses, .ref a_entry, .ref a_passed, .ref a_draft, .ref a_label, .ref a_met, .ref a_bracket, .ref a_matrix])), (a_now, .inl (cyI, 34, .inl f_now)), (a_met, .inl (cyZ, 32, .inl f_met_1))]) S hK hP hD hS hA hN (mX10_ends l D cyI cyZ H.size a_this a_now a_history a_kept a_isKept a_text a_read a_uses a_entry a_passed a_draft a_label a_met a_bracket a_matrix i_saved i_length i_next f_now r_1 hc_1) (cwV 0 hts gX10_faceCount_X10_ends rfl rfl rfl (by decide +kernel) ⟨Nat.le_of_ble_eq_true rfl, Nat.le_of_ble_eq_true rfl⟩) 7 0 rfl rfl [0, 1] [2] [1, 2, 0] rfl rfl rfl rfl (by decide) rfl rfl hl.1 (Nat.le_of_ble_eq_true rfl) dX10_faceCount_4 ⟨Nat.le_of_ble_eq_true rfl, Nat.le_of_ble_eq_true rfl⟩ (fun H locs hP hD hS => ?_)
      refine lv_icmp_ge (tgt := 23) hx hb dX10_faceCount_7 (by decide) (fun c_13 => ?_) (fun c_13 => ?_)
      · replace hf := kt_p hf c_13
        refine lv_iconst (v := 2) hx hb dX10_faceCount_23 (by decide) ?_
        refine lv_aload_n hx hb dX10_faceCount_24 rfl (lv_at hl 0 rfl) ?_
        refine va_get (D := D) (ci := 7) (v := .ref a_now) (C := RX10) (T := TX10) (N := 17) hx hb hts qX10_faceCount_X10 hown hK hP 0 rfl rfl 0 (Nat.le_of_ble_eq_true rfl) (hts (.fieldLink RX10 7 "KnotDiagramModel" "now" "[I") qX10_faceCount_0) (fun _ h9 => h9) rfl dX10_faceCount_25 ?_
        refine lv_iconst (v := 1) hx hb dX10_faceCount_28 (by decide) ?_
        obtain ⟨hi_2, hf⟩ := ck_s hf
        refine va_iald hx hb hK hP 1 0 rfl rfl hi_2 dX10_faceCount_29 ?_
        refine lv_imul hx hb dX10_faceCount_30 ?_
        refine lv_istore_n (lv' := [(1, .int (2 * (f_now (1 : Int32).toNatClampNeg))), (0, .ref a_this)]) hx hb dX10_faceCount_31 rfl hl (by decide) rfl (fun ls hl => ?_)
        refine lv_iconst (v := 0) hx hb dX10_faceCount_32 (by decide) ?_
        refine lv_istore_n (lv' := [(2, .int 0), (1, .int (2 * (f_now (1 : Int32).toNatClampNeg))), (0, .ref a_this)]) hx hb dX10_faceCount_33 rfl hl (by decide) rfl (fun ls hl => ?_)
        have hL_2 : ∀ (n : Nat) (v1_2 : Int32) (v2_2 : Int32) (f_met_2 : Nat → Int32) (H : Heap) (locs : List Loc) (ls : Array Slot), it3 (kX10_faceCount_L2 f_now) n v1_2 v2_2 f_met_2 = some (r, o_met) → va_P D vwCl [(a_this, .inr (7, [.ref a_now, .ref a_history, .int i_saved, .ref a_kept, .ref a_isKept, .ref a_text, .int i_length, .int i_next, .ref a_read, .ref a_uses, .ref a_entry, .ref a_passed, .ref a_draft, .ref a_label, .ref a_met, .ref a_bracket, .ref a_matrix])), (a_now, .inl (cyI, 34, .inl f_now)), (a_met, .inl (cyZ, 32, .inl f_met_2))] H → va_D A [(a_this, .inr (7, [.ref a_now, .ref a_history, .int i_saved, .ref a_kept, .ref a_isKept, .ref a_text, .int i_length, .int i_next, .ref a_read, .ref a_uses, .ref a_entry, .ref a_passed, .ref a_draft, .ref a_label, .ref a_met, .ref a_bracket, .ref a_matrix])), (a_now, .inl (cyI, 34, .inl f_now)), (a_met, .inl (cyZ, 32, .inl f_met_2))] → va_S A s.heap H locs → lv_has ls 4 [(0, .ref a_this), (1, .int v1_2), (2, .int v2_2)] → W p l e (headSpec wsX10_faceCount rmX10_faceCount).room s m (([.ref a_this] : List Value).toArray) below meth c H locs 0 0 (MQ below (kQi D cyI cyZ A [(a_this, .inr (7, [.ref a_now, .ref a_history, .int i_saved, .ref a_kept, .ref a_isKept, .ref a_text, .int i_length, .int i_next, .ref a_read, .ref a_uses, .ref a_entry, .ref a_passed, .ref a_draft, .ref a_label, .ref a_met, .ref a_bracket, .ref a_matrix])), (a_now, .inl (cyI, 34, .inl f_now)), (a_met, .inl (cyZ, 32, .inl o_met))] r) (([.ref a_this] : List Value).toArray) s 0 0 A) (F0 m 34 ls []) := by
          intro n_2
          induction n_2 with
          | zero =>
            intro _ _ _ _ _ _ hf
            exact (it3_z hf).elim
          | succ n_2 ih_2 =>
            intro v1_2 v2_2 f_met_2 H locs ls hf hP hD hS hl
            replace hf := it3_s hf
            rw [kX10_faceCount_L2] at hf
            refine lv_iload_n hx hb dX10_faceCount_34 rfl (lv_at hl 2 rfl) ?_
            refine lv_aload_n hx hb dX10_faceCount_35 rfl (lv_at hl 0 rfl) ?_
            obtain ⟨r_3, hc_3, hf⟩ := bnd1_s hf
            refine kcVi (As := []) (rest := [.int v2_2]) (w2 := [(a_this, .inr (7, [.ref a_now, .ref a_history, .int i_saved, .ref a_kept, .ref a_isKept, .ref a_text, .int i_length, .int i_next, .ref a_read, .ref a_uses, .ref a_entry, .ref a_passed, .ref a_draft, .ref a_label, .ref a_met, .ref a_bracket, .ref a_matrix])), (a_now, .inl (cyI, 34, .inl f_now)), (a_met, .inl (cyZ, 32, .inl f_met_2))]) S hK hP hD hS hA hN (mX10_ends l D cyI cyZ H.size a_this a_now a_history a_kept a_isKept a_text a_read a_uses a_entry a_passed a_draft a_label a_met a_bracket a_matrix i_saved i_length i_next f_now r_3 hc_3) (cwV 0 hts gX10_faceCount_X10_ends rfl rfl rfl (by decide +kernel) ⟨Nat.le_of_ble_eq_true rfl, Nat.le_of_ble_eq_true rfl⟩) 7 0 rfl rfl [0, 1] [2] [1, 2, 0] rfl rfl rfl rfl (by decide) rfl rfl hl.1 (Nat.le_of_ble_eq_true rfl) dX10_faceCount_36 ⟨Nat.le_of_ble_eq_true rfl, Nat.le_of_ble_eq_true rfl⟩ (fun H locs hP hD hS => ?_)
            refine lv_icmp_ge (tgt := 96) hx hb dX10_faceCount_39 (by decide) (fun c_11 => ?_) (fun c_11 => ?_)
            · replace hf := kt_p hf c_11
              refine lv_iload_n hx hb dX10_faceCount_96 rfl (lv_at hl 1 rfl) ?_
              obtain ⟨rfl, rfl⟩ := some2_s hf
              exact kRi hx hb hr hlocks hP hK hD hS rfl dX10_faceCount_97
            · replace hf := kt_n hf c_11
              refine lv_iload_n hx hb dX10_faceCount_42 rfl (lv_at hl 1 rfl) ?_
              refine lv_aload_n hx hb dX10_faceCount_43 rfl (lv_at hl 0 rfl) ?_
              refine va_get (D := D) (ci := 7) (v := .ref a_met) (C := RX10) (T := TX10) (N := 17) hx hb hts qX10_faceCount_X10 hown hK hP 0 rfl rfl 14 (Nat.le_of_ble_eq_true rfl) (hts (.fieldLink RX10 44 "KnotDiagramModel" "met" "[Z") qX10_faceCount_1) (fun _ h9 => h9) rfl dX10_faceCount_44 ?_
              refine lv_iload_n hx hb dX10_faceCount_47 rfl (lv_at hl 2 rfl) ?_
              obtain ⟨hi_4, hf⟩ := ck_s hf
              refine va_zald hx hb hK hP 2 1 rfl rfl hi_4 dX10_faceCount_48 ?_
              have hJ_3 : ∀ (t1_3 : Int32) (H : Heap) (locs : List Loc) (ls : Array Slot), kX10_faceCount_J3 f_now (it3 (kX10_faceCount_L2 f_now) n_2) v1_2 v2_2 f_met_2 t1_3 = some (r, o_met) → va_P D vwCl [(a_this, .inr (7, [.ref a_now, .ref a_history, .int i_saved, .ref a_kept, .ref a_isKept, .ref a_text, .int i_length, .int i_next, .ref a_read, .ref a_uses, .ref a_entry, .ref a_passed, .ref a_draft, .ref a_label, .ref a_met, .ref a_bracket, .ref a_matrix])), (a_now, .inl (cyI, 34, .inl f_now)), (a_met, .inl (cyZ, 32, .inl f_met_2))] H → va_D A [(a_this, .inr (7, [.ref a_now, .ref a_history, .int i_saved, .ref a_kept, .ref a_isKept, .ref a_text, .int i_length, .int i_next, .ref a_read, .ref a_uses, .ref a_entry, .ref a_passed, .ref a_draft, .ref a_label, .ref a_met, .ref a_bracket, .ref a_matrix])), (a_now, .inl (cyI, 34, .inl f_now)), (a_met, .inl (cyZ, 32, .inl f_met_2))] → va_S A s.heap H locs → lv_has ls 4 [(0, .ref a_this), (2, .int v2_2)] → W p l e (headSpec wsX10_faceCount rmX10_faceCount).room s m (([.ref a_this] : List Value).toArray) below meth c H locs 0 0 (MQ below (kQi D cyI cyZ A [(a_this, .inr (7, [.ref a_now, .ref a_history, .int i_saved, .ref a_kept, .ref a_isKept, .ref a_text, .int i_length, .int i_next, .ref a_read, .ref a_uses, .ref a_entry, .ref a_passed, .ref a_draft, .ref a_label, .ref a_met, .ref a_bracket, .ref a_matrix])), (a_now, .inl (cyI, 34, .inl f_now)), (a_met, .inl (cyZ, 32, .inl o_met))] r) (([.ref a_this] : List Value).toArray) s 0 0 A) (F0 m 57 ls [.int t1_3, .int v1_2]) := by
                intro t1_3 H locs ls hf hP hD hS hl
                delta kX10_faceCount_J3 at hf
                refine lv_iadd hx hb dX10_faceCount_57 ?_
                refine lv_istore_n (lv' := [(1, .int (v1_2 + t1_3)), (0, .ref a_this), (2, .int v2_2)]) hx hb dX10_faceCount_58 rfl hl (by decide) rfl (fun ls hl => ?_)
                refine lv_iload_n hx hb dX10_faceCount_59 rfl (lv_at hl 2 rfl) ?_
                refine lv_istore_n (lv' := [(3, .int v2_2), (1, .int (v1_2 + t1_3)), (0, .ref a_this), (2, .int v2_2)]) hx hb dX10_faceCount_60 rfl hl (by decide) rfl (fun ls hl => ?_)
                have hL_4 : ∀ (n : Nat) (v3_4 : Int32) (f_met_4 : Nat → Int32) (H : Heap) (locs : List Loc) (ls : Array Slot), it2 (kX10_faceCount_L4 f_now (it3 (kX10_faceCount_L2 f_now) n_2) v1_2 t1_3 v2_2) n v3_4 f_met_4 = some (r, o_met) → va_P D vwCl [(a_this, .inr (7, [.ref a_now, .ref a_history, .int i_saved, .ref a_kept, .ref a_isKept, .ref a_text, .int i_length, .int i_next, .ref a_read, .ref a_uses, .ref a_entry, .ref a_passed, .ref a_draft, .ref a_label, .ref a_met, .ref a_bracket, .ref a_matrix])), (a_now, .inl (cyI, 34, .inl f_now)), (a_met, .inl (cyZ, 32, .inl f_met_4))] H → va_D A [(a_this, .inr (7, [.ref a_now, .ref a_history, .int i_saved, .ref a_kept, .ref a_isKept, .ref a_text, .int i_length, .int i_next, .ref a_read, .ref a_uses, .ref a_entry, .ref a_passed, .ref a_draft, .ref a_label, .ref a_met, .ref a_bracket, .ref a_matrix])), (a_now, .inl (cyI, 34, .inl f_now)), (a_met, .inl (cyZ, 32, .inl f_met_4))] → va_S A s.heap H locs → lv_has ls 4 [(0, .ref a_this), (1, .int (v1_2 + t1_3)), (2, .int v2_2), (3, .int v3_4)] → W p l e (headSpec wsX10_faceCount rmX10_faceCount).room s m (([.ref a_this] : List Value).toArray) below meth c H locs 0 0 (MQ below (kQi D cyI cyZ A [(a_this, .inr (7, [.ref a_now, .ref a_history, .int i_saved, .ref a_kept, .ref a_isKept, .ref a_text, .int i_length, .int i_next, .ref a_read, .ref a_uses, .ref a_entry, .ref a_passed, .ref a_draft, .ref a_label, .ref a_met, .ref a_bracket, .ref a_matrix])), (a_now, .inl (cyI, 34, .inl f_now)), (a_met, .inl (cyZ, 32, .inl o_met))] r) (([.ref a_this] : List Value).toArray) s 0 0 A) (F0 m 61 ls []) := by
                  intro n_4
                  induction n_4 with
                  | zero =>
                    intro _ _ _ _ _ hf
                    exact (it2_z hf).elim
                  | succ n_4 ih_4 =>
                    intro v3_4 f_met_4 H locs ls hf hP hD hS hl
                    replace hf := it2_s hf
                    rw [kX10_faceCount_L4] at hf
                    refine lv_aload_n hx hb dX10_faceCount_61 rfl (lv_at hl 0 rfl) ?_
                    refine va_get (D := D) (ci := 7) (v := .ref a_met) (C := RX10) (T := TX10) (N := 17) hx hb hts qX10_faceCount_X10 hown hK hP 0 rfl rfl 14 (Nat.le_of_ble_eq_true rfl) (hts (.fieldLink RX10 44 "KnotDiagramModel" "met" "[Z") qX10_faceCount_1) (fun _ h9 => h9) rfl dX10_faceCount_62 ?_
                    refine lv_iload_n hx hb dX10_faceCount_65 rfl (lv_at hl 3 rfl) ?_
                    obtain ⟨hi_5, hf⟩ := ck_s hf
                    refine va_zald hx hb hK hP 2 1 rfl rfl hi_5 dX10_faceCount_66 ?_
                    refine lv_if_ne (tgt := 90) hx hb dX10_faceCount_67 (by decide) (fun c_9 => ?_) (fun c_9 => ?_)
                    · replace hf := kt_n hf c_9
                      refine lv_iinc (v := (v2_2 + 1)) (lv' := [(2, .int (v2_2 + 1)), (0, .ref a_this), (1, .int (v1_2 + t1_3)), (3, .int v3_4)]) hx hb dX10_faceCount_90 hl (k := 2) rfl rfl (by decide) rfl (fun ls hl => ?_)
                      refine lv_goto (tgt := 34) hx hb dX10_faceCount_93 (by decide) ?_
                      exact ih_2 (v1_2 + t1_3) (v2_2 + 1) f_met_4 H locs ls hf hP hD hS (lv_sub hl [1, 2, 0] rfl)
                    · replace hf := kt_p hf c_9
                      refine lv_aload_n hx hb dX10_faceCount_70 rfl (lv_at hl 0 rfl) ?_
                      refine va_get (D := D) (ci := 7) (v := .ref a_met) (C := RX10) (T := TX10) (N := 17) hx hb hts qX10_faceCount_X10 hown hK hP 0 rfl rfl 14 (Nat.le_of_ble_eq_true rfl) (hts (.fieldLink RX10 44 "KnotDiagramModel" "met" "[Z") qX10_faceCount_1) (fun _ h9 => h9) rfl dX10_faceCount_71 ?_
                      refine lv_iload_n hx hb dX10_faceCount_74 rfl (lv_at hl 3 rfl) ?_
                      refine lv_iconst (v := 1) hx hb dX10_faceCount_75 (by decide) ?_
                      obtain ⟨hi_6, hf⟩ := ck_s hf
                      refine va_zast hx hb hK hP hD hS 2 1 rfl rfl hi_6 dX10_faceCount_76 (fun H locs hP hD hS => ?_)
                      replace hP : va_P D vwCl [(a_this, .inr (7, [.ref a_now, .ref a_history, .int i_saved, .ref a_kept, .ref a_isKept, .ref a_text, .int i_length, .int i_next, .ref a_read, .ref a_uses, .ref a_entry, .ref a_passed, .ref a_draft, .ref a_label, .ref a_met, .ref a_bracket, .ref a_matrix])), (a_now, .inl (cyI, 34, .inl f_now)), (a_met, .inl (cyZ, 32, .inl (upd f_met_4 v3_4.toNatClampNeg (1 &&& 1))))] H := hP
                      replace hD : va_D A [(a_this, .inr (7, [.ref a_now, .ref a_history, .int i_saved, .ref a_kept, .ref a_isKept, .ref a_text, .int i_length, .int i_next, .ref a_read, .ref a_uses, .ref a_entry, .ref a_passed, .ref a_draft, .ref a_label, .ref a_met, .ref a_bracket, .ref a_matrix])), (a_now, .inl (cyI, 34, .inl f_now)), (a_met, .inl (cyZ, 32, .inl (upd f_met_4 v3_4.toNatClampNeg (1 &&& 1))))] := hD
                      refine lv_aload_n hx hb dX10_faceCount_77 rfl (lv_at hl 0 rfl) ?_
                      refine lv_iload_n hx hb dX10_faceCount_78 rfl (lv_at hl 3 rfl) ?_
                      obtain ⟨r_7, hc_7, hf⟩ := bnd1_s hf
                      refine kcVi (As := [.int v3_4]) (rest := []) (w2 := [(a_this, .inr (7, [.ref a_now, .ref a_history, .int i_saved, .ref a_kept, .ref a_isKept, .ref a_text, .int i_length, .int i_next, .ref a_read, .ref a_uses, .ref a_entry, .ref a_passed, .ref a_draft, .ref a_label, .ref a_met, .ref a_bracket, .ref a_matrix])), (a_now, .inl (cyI, 34, .inl f_now)), (a_met, .inl (cyZ, 32, .inl (upd f_met_4 v3_4.toNatClampNeg (1 &&& 1))))]) S hK hP hD hS hA hN (mX10_other l D cyI cyZ H.size a_this a_now a_history a_kept a_isKept a_text a_read a_uses a_entry a_passed a_draft a_label a_met a_bracket a_matrix v3_4 i_saved i_length i_next f_now r_7 hc_7) (cwV 1 hts gX10_faceCount_X10_other rfl rfl rfl (by decide +kernel) ⟨Nat.le_of_ble_eq_true rfl, Nat.le_of_ble_eq_true rfl⟩) 7 0 rfl rfl [0, 1] [2] [1, 2, 0] rfl rfl rfl rfl (by decide) rfl rfl hl.1 (Nat.le_of_ble_eq_true rfl) dX10_faceCount_79 ⟨Nat.le_of_ble_eq_true rfl, Nat.le_of_ble_eq_true rfl⟩ (fun H locs hP hD hS => ?_)
                      refine lv_iconst (v := 1) hx hb dX10_faceCount_82 (by decide) ?_
                      obtain ⟨r_8, hc_8, hf⟩ := bnd1_s hf
                      refine kcSi (As := [.int r_7, .int 1]) (rest := []) (w2 := [(a_this, .inr (7, [.ref a_now, .ref a_history, .int i_saved, .ref a_kept, .ref a_isKept, .ref a_text, .int i_length, .int i_next, .ref a_read, .ref a_uses, .ref a_entry, .ref a_passed, .ref a_draft, .ref a_label, .ref a_met, .ref a_bracket, .ref a_matrix])), (a_now, .inl (cyI, 34, .inl f_now)), (a_met, .inl (cyZ, 32, .inl (upd f_met_4 v3_4.toNatClampNeg (1 &&& 1))))]) S hK hP hD hS hA hN (mX10_turn l D cyI cyZ H.size r_7 1 r_8 hc_8) (va_cwS 2 hts gX10_faceCount_X10_turn rfl rfl rfl (by decide +kernel) ⟨Nat.le_of_ble_eq_true rfl, Nat.le_of_ble_eq_true rfl⟩) [] [0, 1, 2] [0, 1, 2] rfl rfl rfl rfl (by decide) rfl rfl hl.1 (Nat.le_of_ble_eq_true rfl) dX10_faceCount_83 ⟨Nat.le_of_ble_eq_true rfl, Nat.le_of_ble_eq_true rfl⟩ (fun H locs hP hD hS => ?_)
                      refine lv_istore_n (lv' := [(3, .int r_8), (0, .ref a_this), (1, .int (v1_2 + t1_3)), (2, .int v2_2)]) hx hb dX10_faceCount_86 rfl hl (by decide) rfl (fun ls hl => ?_)
                      refine lv_goto (tgt := 61) hx hb dX10_faceCount_87 (by decide) ?_
                      exact ih_4 r_8 (upd f_met_4 v3_4.toNatClampNeg (1 &&& 1)) H locs ls hf hP hD hS (lv_sub hl [1, 2, 3, 0] rfl)
                exact hL_4 400 v2_2 f_met_2 H locs ls hf hP hD hS (lv_sub hl [2, 1, 3, 0] rfl)
              refine lv_if_eq (tgt := 56) hx hb dX10_faceCount_49 (by decide) (fun c_10 => ?_) (fun c_10 => ?_)
              · replace hf := kt_p hf c_10
                refine lv_iconst (v := 1) hx hb dX10_faceCount_56 (by decide) ?_
                exact hJ_3 1 H locs ls hf hP hD hS (lv_sub hl [0, 2] rfl)
              · replace hf := kt_n hf c_10
                refine lv_iconst (v := 0) hx hb dX10_faceCount_52 (by decide) ?_
                refine lv_goto (tgt := 57) hx hb dX10_faceCount_53 (by decide) ?_
                exact hJ_3 0 H locs ls hf hP hD hS (lv_sub hl [0, 2] rfl)
        exact hL_2 400 (2 * (f_now (1 : Int32).toNatClampNeg)) 0 f_met_1 H locs ls hf hP hD hS (lv_sub hl [2, 1, 0] rfl)
      · replace hf := kt_n hf c_13
        refine lv_aload_n hx hb dX10_faceCount_10 rfl (lv_at hl 0 rfl) ?_
        refine va_get (D := D) (ci := 7) (v := .ref a_met) (C := RX10) (T := TX10) (N := 17) hx hb hts qX10_faceCount_X10 hown hK hP 0 rfl rfl 14 (Nat.le_of_ble_eq_true rfl) (hts (.fieldLink RX10 44 "KnotDiagramModel" "met" "[Z") qX10_faceCount_1) (fun _ h9 => h9) rfl dX10_faceCount_11 ?_
        refine lv_iload_n hx hb dX10_faceCount_14 rfl (lv_at hl 1 rfl) ?_
        refine lv_iconst (v := 0) hx hb dX10_faceCount_15 (by decide) ?_
        obtain ⟨hi_12, hf⟩ := ck_s hf
        refine va_zast hx hb hK hP hD hS 2 1 rfl rfl hi_12 dX10_faceCount_16 (fun H locs hP hD hS => ?_)
        replace hP : va_P D vwCl [(a_this, .inr (7, [.ref a_now, .ref a_history, .int i_saved, .ref a_kept, .ref a_isKept, .ref a_text, .int i_length, .int i_next, .ref a_read, .ref a_uses, .ref a_entry, .ref a_passed, .ref a_draft, .ref a_label, .ref a_met, .ref a_bracket, .ref a_matrix])), (a_now, .inl (cyI, 34, .inl f_now)), (a_met, .inl (cyZ, 32, .inl (upd f_met_1 v1_1.toNatClampNeg (0 &&& 1))))] H := hP
        replace hD : va_D A [(a_this, .inr (7, [.ref a_now, .ref a_history, .int i_saved, .ref a_kept, .ref a_isKept, .ref a_text, .int i_length, .int i_next, .ref a_read, .ref a_uses, .ref a_entry, .ref a_passed, .ref a_draft, .ref a_label, .ref a_met, .ref a_bracket, .ref a_matrix])), (a_now, .inl (cyI, 34, .inl f_now)), (a_met, .inl (cyZ, 32, .inl (upd f_met_1 v1_1.toNatClampNeg (0 &&& 1))))] := hD
        refine lv_iinc (v := (v1_1 + 1)) (lv' := [(1, .int (v1_1 + 1)), (0, .ref a_this)]) hx hb dX10_faceCount_17 hl (k := 1) rfl rfl (by decide) rfl (fun ls hl => ?_)
        refine lv_goto (tgt := 2) hx hb dX10_faceCount_20 (by decide) ?_
        exact ih_1 (v1_1 + 1) (upd f_met_1 v1_1.toNatClampNeg (0 &&& 1)) H locs ls hf hP hD hS (lv_sub hl [1, 0] rfl)
  exact hL_1 400 0 f_met H locs ls hf hP hD hS (lv_sub hl [1, 0] rfl)
def kX10_genus (f_now : Nat → Int32) (f_label : Nat → Int32) (f_met : Nat → Int32) : Option (Int32 × (Nat → Int32) × (Nat → Int32)) :=
  bnd1 (kX10_crossings f_now) (fun r_1 => bnd2 (kX10_partCount f_now f_label) (fun r_2 o_label_2 => bnd2 (kX10_faceCount f_now f_met) (fun r_3 o_met_3 => some ((((r_1 + (2 * r_2)) - r_3) / 2), o_label_2, o_met_3))))
def rmX10_genus : Room := { frames := 4, cells := 0, slots := 0, locals := 87 }
set_option maxHeartbeats 4000000 in
set_option maxRecDepth 100000 in
theorem mX10_genus (l : Launch) (D : va_G) (cyI cyZ : ClassId) (sz : Nat) (a_this a_now a_history a_kept a_isKept a_text a_read a_uses a_entry a_passed a_draft a_label a_met a_bracket a_matrix : Nat) (i_saved : Int32) (i_length : Int32) (i_next : Int32) (f_now : Nat → Int32) (f_label : Nat → Int32) (f_met : Nat → Int32) (r : Int32) (o_label : Nat → Int32) (o_met : Nat → Int32) (hf : kX10_genus f_now f_label f_met = some (r, o_label, o_met)) : Met l yX10_genus wsX10_genus rmX10_genus (kPre D cyI cyZ [.ref a_this] [(a_this, .inr (7, [.ref a_now, .ref a_history, .int i_saved, .ref a_kept, .ref a_isKept, .ref a_text, .int i_length, .int i_next, .ref a_read, .ref a_uses, .ref a_entry, .ref a_passed, .ref a_draft, .ref a_label, .ref a_met, .ref a_bracket, .ref a_matrix])), (a_now, .inl (cyI, 34, .inl f_now)), (a_label, .inl (cyI, 17, .inl f_label)), (a_met, .inl (cyZ, 32, .inl f_met))] sz) (kQi D cyI cyZ (va_A [(a_this, .inr (7, [.ref a_now, .ref a_history, .int i_saved, .ref a_kept, .ref a_isKept, .ref a_text, .int i_length, .int i_next, .ref a_read, .ref a_uses, .ref a_entry, .ref a_passed, .ref a_draft, .ref a_label, .ref a_met, .ref a_bracket, .ref a_matrix])), (a_now, .inl (cyI, 34, .inl f_now)), (a_label, .inl (cyI, 17, .inl f_label)), (a_met, .inl (cyZ, 32, .inl f_met))] sz) [(a_this, .inr (7, [.ref a_now, .ref a_history, .int i_saved, .ref a_kept, .ref a_isKept, .ref a_text, .int i_length, .int i_next, .ref a_read, .ref a_uses, .ref a_entry, .ref a_passed, .ref a_draft, .ref a_label, .ref a_met, .ref a_bracket, .ref a_matrix])), (a_now, .inl (cyI, 34, .inl f_now)), (a_label, .inl (cyI, 17, .inl o_label)), (a_met, .inl (cyZ, 32, .inl o_met))] r) 0 0 (va_A [(a_this, .inr (7, [.ref a_now, .ref a_history, .int i_saved, .ref a_kept, .ref a_isKept, .ref a_text, .int i_length, .int i_next, .ref a_read, .ref a_uses, .ref a_entry, .ref a_passed, .ref a_draft, .ref a_label, .ref a_met, .ref a_bracket, .ref a_matrix])), (a_now, .inl (cyI, 34, .inl f_now)), (a_label, .inl (cyI, 17, .inl f_label)), (a_met, .inl (cyZ, 32, .inl f_met))] sz) := by
  refine Met.ofW (cc := cX10_genus) (maxL := 1) (ret := (some .int)) (by decide) rfl ?_
  intro p e s m args below meth c s₁ B hml hv
  obtain ⟨rfl, hsz, hP, hK, hD0, hN⟩ := hv
  have hx := B.exec
  have hb := B.bytes
  have hr := B.returns
  have hts := atoms_spec (ws := wsX10_genus) B.pre
  have hown : s.vm.findClass RX10 = some m.cls := findClass_of_methodNamed B.named
  have hlocks := B.notSynchronized
  subst hsz
  have hD := hD0.self (sz := s.heap.size)
  generalize hAe : va_A [(a_this, .inr (7, [.ref a_now, .ref a_history, .int i_saved, .ref a_kept, .ref a_isKept, .ref a_text, .int i_length, .int i_next, .ref a_read, .ref a_uses, .ref a_entry, .ref a_passed, .ref a_draft, .ref a_label, .ref a_met, .ref a_bracket, .ref a_matrix])), (a_now, .inl (cyI, 34, .inl f_now)), (a_label, .inl (cyI, 17, .inl f_label)), (a_met, .inl (cyZ, 32, .inl f_met))] s.heap.size = A at hD ⊢
  have hA : ∀ q : Nat, s.heap.size ≤ q → A q := fun q h => by rw [← hAe]; exact Or.inr h
  clear hAe hD0
  have hS : va_S A s.heap s.heap [] := va_S.rf
  have S : CallFix p m c cX10_genus 1 s (([.ref a_this] : List Value).toArray) wsX10_genus RX10 := ⟨hx, hb, hml, hown, hts⟩
  have hl := lv_entry ([.ref a_this]) (n := 1) (Nat.le_of_ble_eq_true rfl)
  rw [lg_entry_eq]
  generalize (lg_sl ([.ref a_this]) ++ List.replicate (1 - (lg_sl ([.ref a_this])).length) Slot.unset).toArray = ls at hl ⊢
  replace hl : lv_has ls 1 [(0, .ref a_this)] := hl
  generalize ([] : List Loc) = locs at hS ⊢
  delta kX10_genus at hf
  obtain ⟨H, hH⟩ : ∃ H, H = s.heap := ⟨_, rfl⟩
  have hS : va_S A s.heap H locs := by rw [hH]; exact hS
  have hP : va_P D vwCl [(a_this, .inr (7, [.ref a_now, .ref a_history, .int i_saved, .ref a_kept, .ref a_isKept, .ref a_text, .int i_length, .int i_next, .ref a_read, .ref a_uses, .ref a_entry, .ref a_passed, .ref a_draft, .ref a_label, .ref a_met, .ref a_bracket, .ref a_matrix])), (a_now, .inl (cyI, 34, .inl f_now)), (a_label, .inl (cyI, 17, .inl f_label)), (a_met, .inl (cyZ, 32, .inl f_met))] H := by rw [hH]; exact hP
  suffices hgo : W p l e (headSpec wsX10_genus rmX10_genus).room s m (([.ref a_this] : List Value).toArray) below meth c H locs 0 0 (MQ below (kQi D cyI cyZ A [(a_this, .inr (7, [.ref a_now, .ref a_history, .int i_saved, .ref a_kept, .ref a_isKept, .ref a_text, .int i_length, .int i_next, .ref a_read, .ref a_uses, .ref a_entry, .ref a_passed, .ref a_draft, .ref a_label, .ref a_met, .ref a_bracket, .ref a_matrix])), (a_now, .inl (cyI, 34, .inl f_now)), (a_label, .inl (cyI, 17, .inl o_label)), (a_met, .inl (cyZ, 32, .inl o_met))] r) (([.ref a_this] : List Value).toArray) s 0 0 A) (F0 m 0 ls []) by rw [hH] at hgo; exact hgo
  clear hH
  refine lv_aload_n hx hb dX10_genus_0 rfl (lv_at hl 0 rfl) ?_
  obtain ⟨r_1, hc_1, hf⟩ := bnd1_s hf
  refine kcVi (As := []) (rest := []) (w2 := [(a_this, .inr (7, [.ref a_now, .ref a_history, .int i_saved, .ref a_kept, .ref a_isKept, .ref a_text, .int i_length, .int i_next, .ref a_read, .ref a_uses, .ref a_entry, .ref a_passed, .ref a_draft, .ref a_label, .ref a_met, .ref a_bracket, .ref a_matrix])), (a_now, .inl (cyI, 34, .inl f_now)), (a_label, .inl (cyI, 17, .inl f_label)), (a_met, .inl (cyZ, 32, .inl f_met))]) S hK hP hD hS hA hN (mX10_crossings l D cyI cyZ H.size a_this a_now a_history a_kept a_isKept a_text a_read a_uses a_entry a_passed a_draft a_label a_met a_bracket a_matrix i_saved i_length i_next f_now r_1 hc_1) (cwV 0 hts gX10_genus_X10_crossings rfl rfl rfl (by decide +kernel) ⟨Nat.le_of_ble_eq_true rfl, Nat.le_of_ble_eq_true rfl⟩) 7 0 rfl rfl [0, 1] [2, 3] [2, 3, 0, 1] rfl rfl rfl rfl (by decide) rfl rfl hl.1 (Nat.le_of_ble_eq_true rfl) dX10_genus_1 ⟨Nat.le_of_ble_eq_true rfl, Nat.le_of_ble_eq_true rfl⟩ (fun H locs hP hD hS => ?_)
  refine lv_iconst (v := 2) hx hb dX10_genus_4 (by decide) ?_
  refine lv_aload_n hx hb dX10_genus_5 rfl (lv_at hl 0 rfl) ?_
  obtain ⟨r_2, o_label_2, hc_2, hf⟩ := bnd2_s hf
  refine kcVi (As := []) (rest := [.int 2, .int r_1]) (w2 := [(a_this, .inr (7, [.ref a_now, .ref a_history, .int i_saved, .ref a_kept, .ref a_isKept, .ref a_text, .int i_length, .int i_next, .ref a_read, .ref a_uses, .ref a_entry, .ref a_passed, .ref a_draft, .ref a_label, .ref a_met, .ref a_bracket, .ref a_matrix])), (a_now, .inl (cyI, 34, .inl f_now)), (a_label, .inl (cyI, 17, .inl o_label_2)), (a_met, .inl (cyZ, 32, .inl f_met))]) S hK hP hD hS hA hN (mX10_partCount l D cyI cyZ H.size a_this a_now a_history a_kept a_isKept a_text a_read a_uses a_entry a_passed a_draft a_label a_met a_bracket a_matrix i_saved i_length i_next f_now f_label r_2 o_label_2 hc_2) (cwV 0 hts gX10_genus_X10_partCount rfl rfl rfl (by decide +kernel) ⟨Nat.le_of_ble_eq_true rfl, Nat.le_of_ble_eq_true rfl⟩) 7 0 rfl rfl [0, 1, 2] [3] [1, 2, 3, 0] rfl rfl rfl rfl (by decide) rfl rfl hl.1 (Nat.le_of_ble_eq_true rfl) dX10_genus_6 ⟨Nat.le_of_ble_eq_true rfl, Nat.le_of_ble_eq_true rfl⟩ (fun H locs hP hD hS => ?_)
  refine lv_imul hx hb dX10_genus_9 ?_
  refine lv_iadd hx hb dX10_genus_10 ?_
  refine lv_aload_n hx hb dX10_genus_11 rfl (lv_at hl 0 rfl) ?_
  obtain ⟨r_3, o_met_3, hc_3, hf⟩ := bnd2_s hf
  refine kcVi (As := []) (rest := [.int (r_1 + (2 * r_2))]) (w2 := [(a_this, .inr (7, [.ref a_now, .ref a_history, .int i_saved, .ref a_kept, .ref a_isKept, .ref a_text, .int i_length, .int i_next, .ref a_read, .ref a_uses, .ref a_entry, .ref a_passed, .ref a_draft, .ref a_label, .ref a_met, .ref a_bracket, .ref a_matrix])), (a_now, .inl (cyI, 34, .inl f_now)), (a_label, .inl (cyI, 17, .inl o_label_2)), (a_met, .inl (cyZ, 32, .inl o_met_3))]) S hK hP hD hS hA hN (mX10_faceCount l D cyI cyZ H.size a_this a_now a_history a_kept a_isKept a_text a_read a_uses a_entry a_passed a_draft a_label a_met a_bracket a_matrix i_saved i_length i_next f_now f_met r_3 o_met_3 hc_3) (cwV 0 hts gX10_genus_X10_faceCount rfl rfl rfl (by decide +kernel) ⟨Nat.le_of_ble_eq_true rfl, Nat.le_of_ble_eq_true rfl⟩) 7 0 rfl rfl [0, 1, 3] [2] [1, 2, 0, 3] rfl rfl rfl rfl (by decide) rfl rfl hl.1 (Nat.le_of_ble_eq_true rfl) dX10_genus_12 ⟨Nat.le_of_ble_eq_true rfl, Nat.le_of_ble_eq_true rfl⟩ (fun H locs hP hD hS => ?_)
  refine lv_isub hx hb dX10_genus_15 ?_
  refine lv_iconst (v := 2) hx hb dX10_genus_16 (by decide) ?_
  refine lv_idiv hx hb dX10_genus_17 (by decide) ?_
  obtain ⟨rfl, rfl, rfl⟩ := some3_s hf
  exact kRi hx hb hr hlocks hP hK hD hS rfl dX10_genus_18
def kX10_isAlternating_J2 (K_1 : Int32 → Int32 → Option (Int32)) (v2_1 : Int32)  : Option (Int32) :=
  K_1 0 (v2_1 + 1)
def kX10_isAlternating_L1 (f_now : Nat → Int32) (K_1 : Int32 → Int32 → Option (Int32)) (v1_1 : Int32) (v2_1 : Int32) : Option (Int32) :=
  bnd1 (kX10_ends f_now) (fun r_1 => if r_1 ≤ v2_1 then if v1_1 = 0 then some 0 else some 1 else if v1_1 = 0 then kX10_isAlternating_J2 K_1 v2_1 else bnd1 (kX10_other v2_1 f_now) (fun r_3 => if (irem (v2_1 + r_3) 2) = 1 then K_1 1 (v2_1 + 1) else kX10_isAlternating_J2 K_1 v2_1))
def kX10_isAlternating (f_now : Nat → Int32) : Option (Int32) :=
  it2 (kX10_isAlternating_L1 f_now) 400 1 0
def rmX10_isAlternating : Room := { frames := 2, cells := 0, slots := 0, locals := 44 }
set_option maxHeartbeats 4000000 in
set_option maxRecDepth 100000 in
theorem mX10_isAlternating (l : Launch) (D : va_G) (cyI cyZ : ClassId) (sz : Nat) (a_this a_now a_history a_kept a_isKept a_text a_read a_uses a_entry a_passed a_draft a_label a_met a_bracket a_matrix : Nat) (i_saved : Int32) (i_length : Int32) (i_next : Int32) (f_now : Nat → Int32) (r : Int32) (hf : kX10_isAlternating f_now = some r) : Met l yX10_isAlternating wsX10_isAlternating rmX10_isAlternating (kPre D cyI cyZ [.ref a_this] [(a_this, .inr (7, [.ref a_now, .ref a_history, .int i_saved, .ref a_kept, .ref a_isKept, .ref a_text, .int i_length, .int i_next, .ref a_read, .ref a_uses, .ref a_entry, .ref a_passed, .ref a_draft, .ref a_label, .ref a_met, .ref a_bracket, .ref a_matrix])), (a_now, .inl (cyI, 34, .inl f_now))] sz) (kQi D cyI cyZ (va_A [(a_this, .inr (7, [.ref a_now, .ref a_history, .int i_saved, .ref a_kept, .ref a_isKept, .ref a_text, .int i_length, .int i_next, .ref a_read, .ref a_uses, .ref a_entry, .ref a_passed, .ref a_draft, .ref a_label, .ref a_met, .ref a_bracket, .ref a_matrix])), (a_now, .inl (cyI, 34, .inl f_now))] sz) [(a_this, .inr (7, [.ref a_now, .ref a_history, .int i_saved, .ref a_kept, .ref a_isKept, .ref a_text, .int i_length, .int i_next, .ref a_read, .ref a_uses, .ref a_entry, .ref a_passed, .ref a_draft, .ref a_label, .ref a_met, .ref a_bracket, .ref a_matrix])), (a_now, .inl (cyI, 34, .inl f_now))] r) 0 0 (va_A [(a_this, .inr (7, [.ref a_now, .ref a_history, .int i_saved, .ref a_kept, .ref a_isKept, .ref a_text, .int i_length, .int i_next, .ref a_read, .ref a_uses, .ref a_entry, .ref a_passed, .ref a_draft, .ref a_label, .ref a_met, .ref a_bracket, .ref a_matrix])), (a_now, .inl (cyI, 34, .inl f_now))] sz) := by
  refine Met.ofW (cc := cX10_isAlternating) (maxL := 3) (ret := (some .int)) (by decide) rfl ?_
  intro p e s m args below meth c s₁ B hml hv
  obtain ⟨rfl, hsz, hP, hK, hD0, hN⟩ := hv
  have hx := B.exec
  have hb := B.bytes
  have hr := B.returns
  have hts := atoms_spec (ws := wsX10_isAlternating) B.pre
  have hown : s.vm.findClass RX10 = some m.cls := findClass_of_methodNamed B.named
  have hlocks := B.notSynchronized
  subst hsz
  have hD := hD0.self (sz := s.heap.size)
  generalize hAe : va_A [(a_this, .inr (7, [.ref a_now, .ref a_history, .int i_saved, .ref a_kept, .ref a_isKept, .ref a_text, .int i_length, .int i_next, .ref a_read, .ref a_uses, .ref a_entry, .ref a_passed, .ref a_draft, .ref a_label, .ref a_met, .ref a_bracket, .ref a_matrix])), (a_now, .inl (cyI, 34, .inl f_now))] s.heap.size = A at hD ⊢
  have hA : ∀ q : Nat, s.heap.size ≤ q → A q := fun q h => by rw [← hAe]; exact Or.inr h
  clear hAe hD0
  have hS : va_S A s.heap s.heap [] := va_S.rf
  have S : CallFix p m c cX10_isAlternating 3 s (([.ref a_this] : List Value).toArray) wsX10_isAlternating RX10 := ⟨hx, hb, hml, hown, hts⟩
  have hl := lv_entry ([.ref a_this]) (n := 3) (Nat.le_of_ble_eq_true rfl)
  rw [lg_entry_eq]
  generalize (lg_sl ([.ref a_this]) ++ List.replicate (3 - (lg_sl ([.ref a_this])).length) Slot.unset).toArray = ls at hl ⊢
  replace hl : lv_has ls 3 [(0, .ref a_this)] := hl
  generalize ([] : List Loc) = locs at hS ⊢
  delta kX10_isAlternating at hf
  obtain ⟨H, hH⟩ : ∃ H, H = s.heap := ⟨_, rfl⟩
  have hS : va_S A s.heap H locs := by rw [hH]; exact hS
  have hP : va_P D vwCl [(a_this, .inr (7, [.ref a_now, .ref a_history, .int i_saved, .ref a_kept, .ref a_isKept, .ref a_text, .int i_length, .int i_next, .ref a_read, .ref a_uses, .ref a_entry, .ref a_passed, .ref a_draft, .ref a_label, .ref a_met, .ref a_bracket, .ref a_matrix])), (a_now, .inl (cyI, 34, .inl f_now))] H := by rw [hH]; exact hP
  suffices hgo : W p l e (headSpec wsX10_isAlternating rmX10_isAlternating).room s m (([.ref a_this] : List Value).toArray) below meth c H locs 0 0 (MQ below (kQi D cyI cyZ A [(a_this, .inr (7, [.ref a_now, .ref a_history, .int i_saved, .ref a_kept, .ref a_isKept, .ref a_text, .int i_length, .int i_next, .ref a_read, .ref a_uses, .ref a_entry, .ref a_passed, .ref a_draft, .ref a_label, .ref a_met, .ref a_bracket, .ref a_matrix])), (a_now, .inl (cyI, 34, .inl f_now))] r) (([.ref a_this] : List Value).toArray) s 0 0 A) (F0 m 0 ls []) by rw [hH] at hgo; exact hgo
  clear hH
  refine lv_iconst (v := 1) hx hb dX10_isAlternating_0 (by decide) ?_
  refine lv_istore_n (lv' := [(1, .int 1), (0, .ref a_this)]) hx hb dX10_isAlternating_1 rfl hl (by decide) rfl (fun ls hl => ?_)
  refine lv_iconst (v := 0) hx hb dX10_isAlternating_2 (by decide) ?_
  refine lv_istore_n (lv' := [(2, .int 0), (1, .int 1), (0, .ref a_this)]) hx hb dX10_isAlternating_3 rfl hl (by decide) rfl (fun ls hl => ?_)
  have hL_1 : ∀ (n : Nat) (v1_1 : Int32) (v2_1 : Int32) (H : Heap) (locs : List Loc) (ls : Array Slot), it2 (kX10_isAlternating_L1 f_now) n v1_1 v2_1 = some r → va_P D vwCl [(a_this, .inr (7, [.ref a_now, .ref a_history, .int i_saved, .ref a_kept, .ref a_isKept, .ref a_text, .int i_length, .int i_next, .ref a_read, .ref a_uses, .ref a_entry, .ref a_passed, .ref a_draft, .ref a_label, .ref a_met, .ref a_bracket, .ref a_matrix])), (a_now, .inl (cyI, 34, .inl f_now))] H → va_D A [(a_this, .inr (7, [.ref a_now, .ref a_history, .int i_saved, .ref a_kept, .ref a_isKept, .ref a_text, .int i_length, .int i_next, .ref a_read, .ref a_uses, .ref a_entry, .ref a_passed, .ref a_draft, .ref a_label, .ref a_met, .ref a_bracket, .ref a_matrix])), (a_now, .inl (cyI, 34, .inl f_now))] → va_S A s.heap H locs → lv_has ls 3 [(0, .ref a_this), (1, .int v1_1), (2, .int v2_1)] → W p l e (headSpec wsX10_isAlternating rmX10_isAlternating).room s m (([.ref a_this] : List Value).toArray) below meth c H locs 0 0 (MQ below (kQi D cyI cyZ A [(a_this, .inr (7, [.ref a_now, .ref a_history, .int i_saved, .ref a_kept, .ref a_isKept, .ref a_text, .int i_length, .int i_next, .ref a_read, .ref a_uses, .ref a_entry, .ref a_passed, .ref a_draft, .ref a_label, .ref a_met, .ref a_bracket, .ref a_matrix])), (a_now, .inl (cyI, 34, .inl f_now))] r) (([.ref a_this] : List Value).toArray) s 0 0 A) (F0 m 4 ls []) := by
    intro n_1
    induction n_1 with
    | zero =>
      intro _ _ _ _ _ hf
      exact (it2_z hf).elim
    | succ n_1 ih_1 =>
      intro v1_1 v2_1 H locs ls hf hP hD hS hl
      replace hf := it2_s hf
      rw [kX10_isAlternating_L1] at hf
      refine lv_iload_n hx hb dX10_isAlternating_4 rfl (lv_at hl 2 rfl) ?_
      refine lv_aload_n hx hb dX10_isAlternating_5 rfl (lv_at hl 0 rfl) ?_
      obtain ⟨r_1, hc_1, hf⟩ := bnd1_s hf
      refine kcVi (As := []) (rest := [.int v2_1]) (w2 := [(a_this, .inr (7, [.ref a_now, .ref a_history, .int i_saved, .ref a_kept, .ref a_isKept, .ref a_text, .int i_length, .int i_next, .ref a_read, .ref a_uses, .ref a_entry, .ref a_passed, .ref a_draft, .ref a_label, .ref a_met, .ref a_bracket, .ref a_matrix])), (a_now, .inl (cyI, 34, .inl f_now))]) S hK hP hD hS hA hN (mX10_ends l D cyI cyZ H.size a_this a_now a_history a_kept a_isKept a_text a_read a_uses a_entry a_passed a_draft a_label a_met a_bracket a_matrix i_saved i_length i_next f_now r_1 hc_1) (cwV 0 hts gX10_isAlternating_X10_ends rfl rfl rfl (by decide +kernel) ⟨Nat.le_of_ble_eq_true rfl, Nat.le_of_ble_eq_true rfl⟩) 7 0 rfl rfl [0, 1] [] [0, 1] rfl rfl rfl rfl (by decide) rfl rfl hl.1 (Nat.le_of_ble_eq_true rfl) dX10_isAlternating_6 ⟨Nat.le_of_ble_eq_true rfl, Nat.le_of_ble_eq_true rfl⟩ (fun H locs hP hD hS => ?_)
      refine lv_icmp_ge (tgt := 41) hx hb dX10_isAlternating_9 (by decide) (fun c_6 => ?_) (fun c_6 => ?_)
      · replace hf := kt_p hf c_6
        refine lv_iload_n hx hb dX10_isAlternating_41 rfl (lv_at hl 1 rfl) ?_
        refine lv_if_eq (tgt := 49) hx hb dX10_isAlternating_42 (by decide) (fun c_2 => ?_) (fun c_2 => ?_)
        · replace hf := kt_p hf c_2
          refine lv_iconst (v := 0) hx hb dX10_isAlternating_49 (by decide) ?_
          obtain rfl := some1_s hf
          exact kRi hx hb hr hlocks hP hK hD hS rfl dX10_isAlternating_50
        · replace hf := kt_n hf c_2
          refine lv_iconst (v := 1) hx hb dX10_isAlternating_45 (by decide) ?_
          refine lv_goto (tgt := 50) hx hb dX10_isAlternating_46 (by decide) ?_
          obtain rfl := some1_s hf
          exact kRi hx hb hr hlocks hP hK hD hS rfl dX10_isAlternating_50
      · replace hf := kt_n hf c_6
        refine lv_iload_n hx hb dX10_isAlternating_12 rfl (lv_at hl 1 rfl) ?_
        have hJ_2 : ∀  (H : Heap) (locs : List Loc) (ls : Array Slot), kX10_isAlternating_J2 (it2 (kX10_isAlternating_L1 f_now) n_1) v2_1  = some r → va_P D vwCl [(a_this, .inr (7, [.ref a_now, .ref a_history, .int i_saved, .ref a_kept, .ref a_isKept, .ref a_text, .int i_length, .int i_next, .ref a_read, .ref a_uses, .ref a_entry, .ref a_passed, .ref a_draft, .ref a_label, .ref a_met, .ref a_bracket, .ref a_matrix])), (a_now, .inl (cyI, 34, .inl f_now))] H → va_D A [(a_this, .inr (7, [.ref a_now, .ref a_history, .int i_saved, .ref a_kept, .ref a_isKept, .ref a_text, .int i_length, .int i_next, .ref a_read, .ref a_uses, .ref a_entry, .ref a_passed, .ref a_draft, .ref a_label, .ref a_met, .ref a_bracket, .ref a_matrix])), (a_now, .inl (cyI, 34, .inl f_now))] → va_S A s.heap H locs → lv_has ls 3 [(0, .ref a_this), (2, .int v2_1)] → W p l e (headSpec wsX10_isAlternating rmX10_isAlternating).room s m (([.ref a_this] : List Value).toArray) below meth c H locs 0 0 (MQ below (kQi D cyI cyZ A [(a_this, .inr (7, [.ref a_now, .ref a_history, .int i_saved, .ref a_kept, .ref a_isKept, .ref a_text, .int i_length, .int i_next, .ref a_read, .ref a_uses, .ref a_entry, .ref a_passed, .ref a_draft, .ref a_label, .ref a_met, .ref a_bracket, .ref a_matrix])), (a_now, .inl (cyI, 34, .inl f_now))] r) (([.ref a_this] : List Value).toArray) s 0 0 A) (F0 m 33 ls []) := by
          intro  H locs ls hf hP hD hS hl
          delta kX10_isAlternating_J2 at hf
          refine lv_iconst (v := 0) hx hb dX10_isAlternating_33 (by decide) ?_
          refine lv_istore_n (lv' := [(1, .int 0), (0, .ref a_this), (2, .int v2_1)]) hx hb dX10_isAlternating_34 rfl hl (by decide) rfl (fun ls hl => ?_)
          refine lv_iinc (v := (v2_1 + 1)) (lv' := [(2, .int (v2_1 + 1)), (1, .int 0), (0, .ref a_this)]) hx hb dX10_isAlternating_35 hl (k := 2) rfl rfl (by decide) rfl (fun ls hl => ?_)
          refine lv_goto (tgt := 4) hx hb dX10_isAlternating_38 (by decide) ?_
          exact ih_1 0 (v2_1 + 1) H locs ls hf hP hD hS (lv_sub hl [2, 1, 0] rfl)
        refine lv_if_eq (tgt := 33) hx hb dX10_isAlternating_13 (by decide) (fun c_5 => ?_) (fun c_5 => ?_)
        · replace hf := kt_p hf c_5
          exact hJ_2 H locs ls hf hP hD hS (lv_sub hl [0, 2] rfl)
        · replace hf := kt_n hf c_5
          refine lv_iload_n hx hb dX10_isAlternating_16 rfl (lv_at hl 2 rfl) ?_
          refine lv_aload_n hx hb dX10_isAlternating_17 rfl (lv_at hl 0 rfl) ?_
          refine lv_iload_n hx hb dX10_isAlternating_18 rfl (lv_at hl 2 rfl) ?_
          obtain ⟨r_3, hc_3, hf⟩ := bnd1_s hf
          refine kcVi (As := [.int v2_1]) (rest := [.int v2_1]) (w2 := [(a_this, .inr (7, [.ref a_now, .ref a_history, .int i_saved, .ref a_kept, .ref a_isKept, .ref a_text, .int i_length, .int i_next, .ref a_read, .ref a_uses, .ref a_entry, .ref a_passed, .ref a_draft, .ref a_label, .ref a_met, .ref a_bracket, .ref a_matrix])), (a_now, .inl (cyI, 34, .inl f_now))]) S hK hP hD hS hA hN (mX10_other l D cyI cyZ H.size a_this a_now a_history a_kept a_isKept a_text a_read a_uses a_entry a_passed a_draft a_label a_met a_bracket a_matrix v2_1 i_saved i_length i_next f_now r_3 hc_3) (cwV 1 hts gX10_isAlternating_X10_other rfl rfl rfl (by decide +kernel) ⟨Nat.le_of_ble_eq_true rfl, Nat.le_of_ble_eq_true rfl⟩) 7 0 rfl rfl [0, 1] [] [0, 1] rfl rfl rfl rfl (by decide) rfl rfl hl.1 (Nat.le_of_ble_eq_true rfl) dX10_isAlternating_19 ⟨Nat.le_of_ble_eq_true rfl, Nat.le_of_ble_eq_true rfl⟩ (fun H locs hP hD hS => ?_)
          refine lv_iadd hx hb dX10_isAlternating_22 ?_
          refine lv_iconst (v := 2) hx hb dX10_isAlternating_23 (by decide) ?_
          refine k_irem hx hb dX10_isAlternating_24 (by decide) ?_
          refine lv_iconst (v := 1) hx hb dX10_isAlternating_25 (by decide) ?_
          refine lv_icmp_ne (tgt := 33) hx hb dX10_isAlternating_26 (by decide) (fun c_4 => ?_) (fun c_4 => ?_)
          · replace hf := kt_n hf c_4
            exact hJ_2 H locs ls hf hP hD hS (lv_sub hl [0, 2] rfl)
          · replace hf := kt_p hf c_4
            refine lv_iconst (v := 1) hx hb dX10_isAlternating_29 (by decide) ?_
            refine lv_goto (tgt := 34) hx hb dX10_isAlternating_30 (by decide) ?_
            refine lv_istore_n (lv' := [(1, .int 1), (0, .ref a_this), (2, .int v2_1)]) hx hb dX10_isAlternating_34 rfl hl (by decide) rfl (fun ls hl => ?_)
            refine lv_iinc (v := (v2_1 + 1)) (lv' := [(2, .int (v2_1 + 1)), (1, .int 1), (0, .ref a_this)]) hx hb dX10_isAlternating_35 hl (k := 2) rfl rfl (by decide) rfl (fun ls hl => ?_)
            refine lv_goto (tgt := 4) hx hb dX10_isAlternating_38 (by decide) ?_
            exact ih_1 1 (v2_1 + 1) H locs ls hf hP hD hS (lv_sub hl [2, 1, 0] rfl)
  exact hL_1 400 1 0 H locs ls hf hP hD hS (lv_sub hl [2, 1, 0] rfl)
def kX10_loops_J3 (v2_1 : Int32) (f_now : Nat → Int32) (f_label_1 : Nat → Int32) (t0_2 : Int32) (K_1 : Int32 → (Nat → Int32) → Option (Int32 × (Nat → Int32))) (t2_3 : Int32) : Option (Int32 × (Nat → Int32)) :=
  bnd1 (kX10_unite (4 * v2_1) t2_3 f_now f_label_1) (fun o_label_5 => if t0_2 = 0 then bnd1 (kX10_unite ((4 * v2_1) + 2) ((4 * v2_1) + 3) f_now o_label_5) (fun o_label_6 => K_1 (v2_1 + 1) o_label_6) else bnd1 (kX10_unite ((4 * v2_1) + 2) ((4 * v2_1) + 1) f_now o_label_5) (fun o_label_7 => K_1 (v2_1 + 1) o_label_7))
def kX10_loops_J2 (v2_1 : Int32) (f_now : Nat → Int32) (f_label_1 : Nat → Int32) (K_1 : Int32 → (Nat → Int32) → Option (Int32 × (Nat → Int32))) (t0_2 : Int32) : Option (Int32 × (Nat → Int32)) :=
  if t0_2 = 0 then kX10_loops_J3 v2_1 f_now f_label_1 t0_2 K_1 ((4 * v2_1) + 1) else kX10_loops_J3 v2_1 f_now f_label_1 t0_2 K_1 ((4 * v2_1) + 3)
def kX10_loops_L1 (f_now : Nat → Int32) (v1 : Int32) (K_1 : Int32 → (Nat → Int32) → Option (Int32 × (Nat → Int32))) (v2_1 : Int32) (f_label_1 : Nat → Int32) : Option (Int32 × (Nat → Int32)) :=
  bnd1 (kX10_crossings f_now) (fun r_2 => if r_2 ≤ v2_1 then bnd1 (kX10_classes f_now f_label_1) (fun r_3 => ck 1 34 (some ((r_3 + (f_now (1 : Int32).toNatClampNeg)), f_label_1))) else if ((ishr v1 v2_1) &&& 1) = 1 then kX10_loops_J2 v2_1 f_now f_label_1 K_1 1 else kX10_loops_J2 v2_1 f_now f_label_1 K_1 0)
def kX10_loops (v1 : Int32) (f_now : Nat → Int32) (f_label : Nat → Int32) : Option (Int32 × (Nat → Int32)) :=
  bnd1 (kX10_beginClasses f_label) (fun o_label_1 => it2 (kX10_loops_L1 f_now v1) 400 0 o_label_1)
def rmX10_loops : Room := { frames := 3, cells := 0, slots := 0, locals := 66 }
theorem qX10_loops_0 : (.fieldLink RX10 7 "KnotDiagramModel" "now" "[I" : Cond) ∈ wsX10_loops := by decide +kernel
theorem qX10_loops_X10 : ∀ w ∈ wsX100, w ∈ wsX10_loops := by decide +kernel
set_option maxHeartbeats 4000000 in
set_option maxRecDepth 100000 in
theorem mX10_loops (l : Launch) (D : va_G) (cyI cyZ : ClassId) (sz : Nat) (a_this a_now a_history a_kept a_isKept a_text a_read a_uses a_entry a_passed a_draft a_label a_met a_bracket a_matrix : Nat) (v1 : Int32) (i_saved : Int32) (i_length : Int32) (i_next : Int32) (f_now : Nat → Int32) (f_label : Nat → Int32) (r : Int32) (o_label : Nat → Int32) (hf : kX10_loops v1 f_now f_label = some (r, o_label)) : Met l yX10_loops wsX10_loops rmX10_loops (kPre D cyI cyZ [.ref a_this, .int v1] [(a_this, .inr (7, [.ref a_now, .ref a_history, .int i_saved, .ref a_kept, .ref a_isKept, .ref a_text, .int i_length, .int i_next, .ref a_read, .ref a_uses, .ref a_entry, .ref a_passed, .ref a_draft, .ref a_label, .ref a_met, .ref a_bracket, .ref a_matrix])), (a_now, .inl (cyI, 34, .inl f_now)), (a_label, .inl (cyI, 17, .inl f_label))] sz) (kQi D cyI cyZ (va_A [(a_this, .inr (7, [.ref a_now, .ref a_history, .int i_saved, .ref a_kept, .ref a_isKept, .ref a_text, .int i_length, .int i_next, .ref a_read, .ref a_uses, .ref a_entry, .ref a_passed, .ref a_draft, .ref a_label, .ref a_met, .ref a_bracket, .ref a_matrix])), (a_now, .inl (cyI, 34, .inl f_now)), (a_label, .inl (cyI, 17, .inl f_label))] sz) [(a_this, .inr (7, [.ref a_now, .ref a_history, .int i_saved, .ref a_kept, .ref a_isKept, .ref a_text, .int i_length, .int i_next, .ref a_read, .ref a_uses, .ref a_entry, .ref a_passed, .ref a_draft, .ref a_label, .ref a_met, .ref a_bracket, .ref a_matrix])), (a_now, .inl (cyI, 34, .inl f_now)), (a_label, .inl (cyI, 17, .inl o_label))] r) 0 0 (va_A [(a_this, .inr (7, [.ref a_now, .ref a_history, .int i_saved, .ref a_kept, .ref a_isKept, .ref a_text, .int i_length, .int i_next, .ref a_read, .ref a_uses, .ref a_entry, .ref a_passed, .ref a_draft, .ref a_label, .ref a_met, .ref a_bracket, .ref a_matrix])), (a_now, .inl (cyI, 34, .inl f_now)), (a_label, .inl (cyI, 17, .inl f_label))] sz) := by
  refine Met.ofW (cc := cX10_loops) (maxL := 5) (ret := (some .int)) (by decide) rfl ?_
  intro p e s m args below meth c s₁ B hml hv
  obtain ⟨rfl, hsz, hP, hK, hD0, hN⟩ := hv
  have hx := B.exec
  have hb := B.bytes
  have hr := B.returns
  have hts := atoms_spec (ws := wsX10_loops) B.pre
  have hown : s.vm.findClass RX10 = some m.cls := findClass_of_methodNamed B.named
  have hlocks := B.notSynchronized
  subst hsz
  have hD := hD0.self (sz := s.heap.size)
  generalize hAe : va_A [(a_this, .inr (7, [.ref a_now, .ref a_history, .int i_saved, .ref a_kept, .ref a_isKept, .ref a_text, .int i_length, .int i_next, .ref a_read, .ref a_uses, .ref a_entry, .ref a_passed, .ref a_draft, .ref a_label, .ref a_met, .ref a_bracket, .ref a_matrix])), (a_now, .inl (cyI, 34, .inl f_now)), (a_label, .inl (cyI, 17, .inl f_label))] s.heap.size = A at hD ⊢
  have hA : ∀ q : Nat, s.heap.size ≤ q → A q := fun q h => by rw [← hAe]; exact Or.inr h
  clear hAe hD0
  have hS : va_S A s.heap s.heap [] := va_S.rf
  have S : CallFix p m c cX10_loops 5 s (([.ref a_this, .int v1] : List Value).toArray) wsX10_loops RX10 := ⟨hx, hb, hml, hown, hts⟩
  have hl := lv_entry ([.ref a_this, .int v1]) (n := 5) (Nat.le_of_ble_eq_true rfl)
  rw [lg_entry_eq]
  generalize (lg_sl ([.ref a_this, .int v1]) ++ List.replicate (5 - (lg_sl ([.ref a_this, .int v1])).length) Slot.unset).toArray = ls at hl ⊢
  replace hl : lv_has ls 5 [(0, .ref a_this), (1, .int v1)] := hl
  generalize ([] : List Loc) = locs at hS ⊢
  delta kX10_loops at hf
  obtain ⟨H, hH⟩ : ∃ H, H = s.heap := ⟨_, rfl⟩
  have hS : va_S A s.heap H locs := by rw [hH]; exact hS
  have hP : va_P D vwCl [(a_this, .inr (7, [.ref a_now, .ref a_history, .int i_saved, .ref a_kept, .ref a_isKept, .ref a_text, .int i_length, .int i_next, .ref a_read, .ref a_uses, .ref a_entry, .ref a_passed, .ref a_draft, .ref a_label, .ref a_met, .ref a_bracket, .ref a_matrix])), (a_now, .inl (cyI, 34, .inl f_now)), (a_label, .inl (cyI, 17, .inl f_label))] H := by rw [hH]; exact hP
  suffices hgo : W p l e (headSpec wsX10_loops rmX10_loops).room s m (([.ref a_this, .int v1] : List Value).toArray) below meth c H locs 0 0 (MQ below (kQi D cyI cyZ A [(a_this, .inr (7, [.ref a_now, .ref a_history, .int i_saved, .ref a_kept, .ref a_isKept, .ref a_text, .int i_length, .int i_next, .ref a_read, .ref a_uses, .ref a_entry, .ref a_passed, .ref a_draft, .ref a_label, .ref a_met, .ref a_bracket, .ref a_matrix])), (a_now, .inl (cyI, 34, .inl f_now)), (a_label, .inl (cyI, 17, .inl o_label))] r) (([.ref a_this, .int v1] : List Value).toArray) s 0 0 A) (F0 m 0 ls []) by rw [hH] at hgo; exact hgo
  clear hH
  refine lv_aload_n hx hb dX10_loops_0 rfl (lv_at hl 0 rfl) ?_
  obtain ⟨o_label_1, hc_1, hf⟩ := bnd1_s hf
  refine kcVv (As := []) (rest := []) (w2 := [(a_this, .inr (7, [.ref a_now, .ref a_history, .int i_saved, .ref a_kept, .ref a_isKept, .ref a_text, .int i_length, .int i_next, .ref a_read, .ref a_uses, .ref a_entry, .ref a_passed, .ref a_draft, .ref a_label, .ref a_met, .ref a_bracket, .ref a_matrix])), (a_now, .inl (cyI, 34, .inl f_now)), (a_label, .inl (cyI, 17, .inl o_label_1))]) S hK hP hD hS hA hN (mX10_beginClasses l D cyI cyZ H.size a_this a_now a_history a_kept a_isKept a_text a_read a_uses a_entry a_passed a_draft a_label a_met a_bracket a_matrix i_saved i_length i_next f_label o_label_1 hc_1) (cwV 0 hts gX10_loops_X10_beginClasses rfl rfl rfl (by decide +kernel) ⟨Nat.le_of_ble_eq_true rfl, Nat.le_of_ble_eq_true rfl⟩) 7 0 rfl rfl [0, 2] [1] [1, 0, 2] rfl rfl rfl rfl (by decide) rfl rfl hl.1 (Nat.le_of_ble_eq_true rfl) dX10_loops_1 ⟨Nat.le_of_ble_eq_true rfl, Nat.le_of_ble_eq_true rfl⟩ (fun H locs hP hD hS => ?_)
  refine lv_iconst (v := 0) hx hb dX10_loops_4 (by decide) ?_
  refine lv_istore_n (lv' := [(2, .int 0), (0, .ref a_this), (1, .int v1)]) hx hb dX10_loops_5 rfl hl (by decide) rfl (fun ls hl => ?_)
  have hL_1 : ∀ (n : Nat) (v2_1 : Int32) (f_label_1 : Nat → Int32) (H : Heap) (locs : List Loc) (ls : Array Slot), it2 (kX10_loops_L1 f_now v1) n v2_1 f_label_1 = some (r, o_label) → va_P D vwCl [(a_this, .inr (7, [.ref a_now, .ref a_history, .int i_saved, .ref a_kept, .ref a_isKept, .ref a_text, .int i_length, .int i_next, .ref a_read, .ref a_uses, .ref a_entry, .ref a_passed, .ref a_draft, .ref a_label, .ref a_met, .ref a_bracket, .ref a_matrix])), (a_now, .inl (cyI, 34, .inl f_now)), (a_label, .inl (cyI, 17, .inl f_label_1))] H → va_D A [(a_this, .inr (7, [.ref a_now, .ref a_history, .int i_saved, .ref a_kept, .ref a_isKept, .ref a_text, .int i_length, .int i_next, .ref a_read, .ref a_uses, .ref a_entry, .ref a_passed, .ref a_draft, .ref a_label, .ref a_met, .ref a_bracket, .ref a_matrix])), (a_now, .inl (cyI, 34, .inl f_now)), (a_label, .inl (cyI, 17, .inl f_label_1))] → va_S A s.heap H locs → lv_has ls 5 [(0, .ref a_this), (1, .int v1), (2, .int v2_1)] → W p l e (headSpec wsX10_loops rmX10_loops).room s m (([.ref a_this, .int v1] : List Value).toArray) below meth c H locs 0 0 (MQ below (kQi D cyI cyZ A [(a_this, .inr (7, [.ref a_now, .ref a_history, .int i_saved, .ref a_kept, .ref a_isKept, .ref a_text, .int i_length, .int i_next, .ref a_read, .ref a_uses, .ref a_entry, .ref a_passed, .ref a_draft, .ref a_label, .ref a_met, .ref a_bracket, .ref a_matrix])), (a_now, .inl (cyI, 34, .inl f_now)), (a_label, .inl (cyI, 17, .inl o_label))] r) (([.ref a_this, .int v1] : List Value).toArray) s 0 0 A) (F0 m 6 ls []) := by
    intro n_1
    induction n_1 with
    | zero =>
      intro _ _ _ _ _ hf
      exact (it2_z hf).elim
    | succ n_1 ih_1 =>
      intro v2_1 f_label_1 H locs ls hf hP hD hS hl
      replace hf := it2_s hf
      rw [kX10_loops_L1] at hf
      refine lv_iload_n hx hb dX10_loops_6 rfl (lv_at hl 2 rfl) ?_
      refine lv_aload_n hx hb dX10_loops_7 rfl (lv_at hl 0 rfl) ?_
      obtain ⟨r_2, hc_2, hf⟩ := bnd1_s hf
      refine kcVi (As := []) (rest := [.int v2_1]) (w2 := [(a_this, .inr (7, [.ref a_now, .ref a_history, .int i_saved, .ref a_kept, .ref a_isKept, .ref a_text, .int i_length, .int i_next, .ref a_read, .ref a_uses, .ref a_entry, .ref a_passed, .ref a_draft, .ref a_label, .ref a_met, .ref a_bracket, .ref a_matrix])), (a_now, .inl (cyI, 34, .inl f_now)), (a_label, .inl (cyI, 17, .inl f_label_1))]) S hK hP hD hS hA hN (mX10_crossings l D cyI cyZ H.size a_this a_now a_history a_kept a_isKept a_text a_read a_uses a_entry a_passed a_draft a_label a_met a_bracket a_matrix i_saved i_length i_next f_now r_2 hc_2) (cwV 0 hts gX10_loops_X10_crossings rfl rfl rfl (by decide +kernel) ⟨Nat.le_of_ble_eq_true rfl, Nat.le_of_ble_eq_true rfl⟩) 7 0 rfl rfl [0, 1] [2] [1, 2, 0] rfl rfl rfl rfl (by decide) rfl rfl hl.1 (Nat.le_of_ble_eq_true rfl) dX10_loops_8 ⟨Nat.le_of_ble_eq_true rfl, Nat.le_of_ble_eq_true rfl⟩ (fun H locs hP hD hS => ?_)
      refine lv_icmp_ge (tgt := 80) hx hb dX10_loops_11 (by decide) (fun c_11 => ?_) (fun c_11 => ?_)
      · replace hf := kt_p hf c_11
        refine lv_aload_n hx hb dX10_loops_80 rfl (lv_at hl 0 rfl) ?_
        obtain ⟨r_3, hc_3, hf⟩ := bnd1_s hf
        refine kcVi (As := []) (rest := []) (w2 := [(a_this, .inr (7, [.ref a_now, .ref a_history, .int i_saved, .ref a_kept, .ref a_isKept, .ref a_text, .int i_length, .int i_next, .ref a_read, .ref a_uses, .ref a_entry, .ref a_passed, .ref a_draft, .ref a_label, .ref a_met, .ref a_bracket, .ref a_matrix])), (a_now, .inl (cyI, 34, .inl f_now)), (a_label, .inl (cyI, 17, .inl f_label_1))]) S hK hP hD hS hA hN (mX10_classes l D cyI cyZ H.size a_this a_now a_history a_kept a_isKept a_text a_read a_uses a_entry a_passed a_draft a_label a_met a_bracket a_matrix i_saved i_length i_next f_now f_label_1 r_3 hc_3) (cwV 0 hts gX10_loops_X10_classes rfl rfl rfl (by decide +kernel) ⟨Nat.le_of_ble_eq_true rfl, Nat.le_of_ble_eq_true rfl⟩) 7 0 rfl rfl [0, 1, 2] [] [0, 1, 2] rfl rfl rfl rfl (by decide) rfl rfl hl.1 (Nat.le_of_ble_eq_true rfl) dX10_loops_81 ⟨Nat.le_of_ble_eq_true rfl, Nat.le_of_ble_eq_true rfl⟩ (fun H locs hP hD hS => ?_)
        refine lv_aload_n hx hb dX10_loops_84 rfl (lv_at hl 0 rfl) ?_
        refine va_get (D := D) (ci := 7) (v := .ref a_now) (C := RX10) (T := TX10) (N := 17) hx hb hts qX10_loops_X10 hown hK hP 0 rfl rfl 0 (Nat.le_of_ble_eq_true rfl) (hts (.fieldLink RX10 7 "KnotDiagramModel" "now" "[I") qX10_loops_0) (fun _ h9 => h9) rfl dX10_loops_85 ?_
        refine lv_iconst (v := 1) hx hb dX10_loops_88 (by decide) ?_
        obtain ⟨hi_4, hf⟩ := ck_s hf
        refine va_iald hx hb hK hP 1 0 rfl rfl hi_4 dX10_loops_89 ?_
        refine lv_iadd hx hb dX10_loops_90 ?_
        obtain ⟨rfl, rfl⟩ := some2_s hf
        exact kRi hx hb hr hlocks hP hK hD hS rfl dX10_loops_91
      · replace hf := kt_n hf c_11
        refine lv_iconst (v := 4) hx hb dX10_loops_14 (by decide) ?_
        refine lv_iload_n hx hb dX10_loops_15 rfl (lv_at hl 2 rfl) ?_
        refine lv_imul hx hb dX10_loops_16 ?_
        refine lv_istore_n (lv' := [(3, .int (4 * v2_1)), (0, .ref a_this), (1, .int v1), (2, .int v2_1)]) hx hb dX10_loops_17 rfl hl (by decide) rfl (fun ls hl => ?_)
        refine lv_iload_n hx hb dX10_loops_18 rfl (lv_at hl 2 rfl) ?_
        refine lv_iload_n hx hb dX10_loops_19 rfl (lv_at hl 3 rfl) ?_
        refine k_ishr hx hb dX10_loops_20 ?_
        refine lv_iconst (v := 1) hx hb dX10_loops_21 (by decide) ?_
        refine lv_iand hx hb dX10_loops_22 ?_
        refine lv_iconst (v := 1) hx hb dX10_loops_23 (by decide) ?_
        have hJ_2 : ∀ (t0_2 : Int32) (H : Heap) (locs : List Loc) (ls : Array Slot), kX10_loops_J2 v2_1 f_now f_label_1 (it2 (kX10_loops_L1 f_now v1) n_1) t0_2 = some (r, o_label) → va_P D vwCl [(a_this, .inr (7, [.ref a_now, .ref a_history, .int i_saved, .ref a_kept, .ref a_isKept, .ref a_text, .int i_length, .int i_next, .ref a_read, .ref a_uses, .ref a_entry, .ref a_passed, .ref a_draft, .ref a_label, .ref a_met, .ref a_bracket, .ref a_matrix])), (a_now, .inl (cyI, 34, .inl f_now)), (a_label, .inl (cyI, 17, .inl f_label_1))] H → va_D A [(a_this, .inr (7, [.ref a_now, .ref a_history, .int i_saved, .ref a_kept, .ref a_isKept, .ref a_text, .int i_length, .int i_next, .ref a_read, .ref a_uses, .ref a_entry, .ref a_passed, .ref a_draft, .ref a_label, .ref a_met, .ref a_bracket, .ref a_matrix])), (a_now, .inl (cyI, 34, .inl f_now)), (a_label, .inl (cyI, 17, .inl f_label_1))] → va_S A s.heap H locs → lv_has ls 5 [(0, .ref a_this), (1, .int v1), (2, .int v2_1), (3, .int (4 * v2_1))] → W p l e (headSpec wsX10_loops rmX10_loops).room s m (([.ref a_this, .int v1] : List Value).toArray) below meth c H locs 0 0 (MQ below (kQi D cyI cyZ A [(a_this, .inr (7, [.ref a_now, .ref a_history, .int i_saved, .ref a_kept, .ref a_isKept, .ref a_text, .int i_length, .int i_next, .ref a_read, .ref a_uses, .ref a_entry, .ref a_passed, .ref a_draft, .ref a_label, .ref a_met, .ref a_bracket, .ref a_matrix])), (a_now, .inl (cyI, 34, .inl f_now)), (a_label, .inl (cyI, 17, .inl o_label))] r) (([.ref a_this, .int v1] : List Value).toArray) s 0 0 A) (F0 m 32 ls [.int t0_2]) := by
          intro t0_2 H locs ls hf hP hD hS hl
          delta kX10_loops_J2 at hf
          refine lv_istore (lv' := [(4, .int t0_2), (0, .ref a_this), (1, .int v1), (2, .int v2_1), (3, .int (4 * v2_1))]) hx hb dX10_loops_32 hl (by decide) rfl (fun ls hl => ?_)
          refine lv_aload_n hx hb dX10_loops_34 rfl (lv_at hl 1 rfl) ?_
          refine lv_iload_n hx hb dX10_loops_35 rfl (lv_at hl 4 rfl) ?_
          refine lv_iload hx hb dX10_loops_36 (lv_at hl 0 rfl) ?_
          have hJ_3 : ∀ (t2_3 : Int32) (H : Heap) (locs : List Loc) (ls : Array Slot), kX10_loops_J3 v2_1 f_now f_label_1 t0_2 (it2 (kX10_loops_L1 f_now v1) n_1) t2_3 = some (r, o_label) → va_P D vwCl [(a_this, .inr (7, [.ref a_now, .ref a_history, .int i_saved, .ref a_kept, .ref a_isKept, .ref a_text, .int i_length, .int i_next, .ref a_read, .ref a_uses, .ref a_entry, .ref a_passed, .ref a_draft, .ref a_label, .ref a_met, .ref a_bracket, .ref a_matrix])), (a_now, .inl (cyI, 34, .inl f_now)), (a_label, .inl (cyI, 17, .inl f_label_1))] H → va_D A [(a_this, .inr (7, [.ref a_now, .ref a_history, .int i_saved, .ref a_kept, .ref a_isKept, .ref a_text, .int i_length, .int i_next, .ref a_read, .ref a_uses, .ref a_entry, .ref a_passed, .ref a_draft, .ref a_label, .ref a_met, .ref a_bracket, .ref a_matrix])), (a_now, .inl (cyI, 34, .inl f_now)), (a_label, .inl (cyI, 17, .inl f_label_1))] → va_S A s.heap H locs → lv_has ls 5 [(0, .ref a_this), (1, .int v1), (2, .int v2_1), (3, .int (4 * v2_1)), (4, .int t0_2)] → W p l e (headSpec wsX10_loops rmX10_loops).room s m (([.ref a_this, .int v1] : List Value).toArray) below meth c H locs 0 0 (MQ below (kQi D cyI cyZ A [(a_this, .inr (7, [.ref a_now, .ref a_history, .int i_saved, .ref a_kept, .ref a_isKept, .ref a_text, .int i_length, .int i_next, .ref a_read, .ref a_uses, .ref a_entry, .ref a_passed, .ref a_draft, .ref a_label, .ref a_met, .ref a_bracket, .ref a_matrix])), (a_now, .inl (cyI, 34, .inl f_now)), (a_label, .inl (cyI, 17, .inl o_label))] r) (([.ref a_this, .int v1] : List Value).toArray) s 0 0 A) (F0 m 50 ls [.int t2_3, .int (4 * v2_1), .ref a_this]) := by
            intro t2_3 H locs ls hf hP hD hS hl
            delta kX10_loops_J3 at hf
            obtain ⟨o_label_5, hc_5, hf⟩ := bnd1_s hf
            refine kcVv (As := [.int (4 * v2_1), .int t2_3]) (rest := []) (w2 := [(a_this, .inr (7, [.ref a_now, .ref a_history, .int i_saved, .ref a_kept, .ref a_isKept, .ref a_text, .int i_length, .int i_next, .ref a_read, .ref a_uses, .ref a_entry, .ref a_passed, .ref a_draft, .ref a_label, .ref a_met, .ref a_bracket, .ref a_matrix])), (a_now, .inl (cyI, 34, .inl f_now)), (a_label, .inl (cyI, 17, .inl o_label_5))]) S hK hP hD hS hA hN (mX10_unite l D cyI cyZ H.size a_this a_now a_history a_kept a_isKept a_text a_read a_uses a_entry a_passed a_draft a_label a_met a_bracket a_matrix (4 * v2_1) t2_3 i_saved i_length i_next f_now f_label_1 o_label_5 hc_5) (cwV 2 hts gX10_loops_X10_unite rfl rfl rfl (by decide +kernel) ⟨Nat.le_of_ble_eq_true rfl, Nat.le_of_ble_eq_true rfl⟩) 7 0 rfl rfl [0, 1, 2] [] [0, 1, 2] rfl rfl rfl rfl (by decide) rfl rfl hl.1 (Nat.le_of_ble_eq_true rfl) dX10_loops_50 ⟨Nat.le_of_ble_eq_true rfl, Nat.le_of_ble_eq_true rfl⟩ (fun H locs hP hD hS => ?_)
            refine lv_aload_n hx hb dX10_loops_53 rfl (lv_at hl 0 rfl) ?_
            refine lv_iload_n hx hb dX10_loops_54 rfl (lv_at hl 3 rfl) ?_
            refine lv_iconst (v := 2) hx hb dX10_loops_55 (by decide) ?_
            refine lv_iadd hx hb dX10_loops_56 ?_
            refine lv_iload hx hb dX10_loops_57 (lv_at hl 4 rfl) ?_
            refine lv_if_eq (tgt := 68) hx hb dX10_loops_59 (by decide) (fun c_8 => ?_) (fun c_8 => ?_)
            · replace hf := kt_p hf c_8
              refine lv_iload_n hx hb dX10_loops_68 rfl (lv_at hl 3 rfl) ?_
              refine lv_iconst (v := 3) hx hb dX10_loops_69 (by decide) ?_
              refine lv_iadd hx hb dX10_loops_70 ?_
              obtain ⟨o_label_6, hc_6, hf⟩ := bnd1_s hf
              refine kcVv (As := [.int ((4 * v2_1) + 2), .int ((4 * v2_1) + 3)]) (rest := []) (w2 := [(a_this, .inr (7, [.ref a_now, .ref a_history, .int i_saved, .ref a_kept, .ref a_isKept, .ref a_text, .int i_length, .int i_next, .ref a_read, .ref a_uses, .ref a_entry, .ref a_passed, .ref a_draft, .ref a_label, .ref a_met, .ref a_bracket, .ref a_matrix])), (a_now, .inl (cyI, 34, .inl f_now)), (a_label, .inl (cyI, 17, .inl o_label_6))]) S hK hP hD hS hA hN (mX10_unite l D cyI cyZ H.size a_this a_now a_history a_kept a_isKept a_text a_read a_uses a_entry a_passed a_draft a_label a_met a_bracket a_matrix ((4 * v2_1) + 2) ((4 * v2_1) + 3) i_saved i_length i_next f_now o_label_5 o_label_6 hc_6) (cwV 2 hts gX10_loops_X10_unite rfl rfl rfl (by decide +kernel) ⟨Nat.le_of_ble_eq_true rfl, Nat.le_of_ble_eq_true rfl⟩) 7 0 rfl rfl [0, 1, 2] [] [0, 1, 2] rfl rfl rfl rfl (by decide) rfl rfl hl.1 (Nat.le_of_ble_eq_true rfl) dX10_loops_71 ⟨Nat.le_of_ble_eq_true rfl, Nat.le_of_ble_eq_true rfl⟩ (fun H locs hP hD hS => ?_)
              refine lv_iinc (v := (v2_1 + 1)) (lv' := [(2, .int (v2_1 + 1)), (0, .ref a_this), (1, .int v1), (3, .int (4 * v2_1)), (4, .int t0_2)]) hx hb dX10_loops_74 hl (k := 2) rfl rfl (by decide) rfl (fun ls hl => ?_)
              refine lv_goto (tgt := 6) hx hb dX10_loops_77 (by decide) ?_
              exact ih_1 (v2_1 + 1) o_label_6 H locs ls hf hP hD hS (lv_sub hl [1, 2, 0] rfl)
            · replace hf := kt_n hf c_8
              refine lv_iload_n hx hb dX10_loops_62 rfl (lv_at hl 3 rfl) ?_
              refine lv_iconst (v := 1) hx hb dX10_loops_63 (by decide) ?_
              refine lv_iadd hx hb dX10_loops_64 ?_
              refine lv_goto (tgt := 71) hx hb dX10_loops_65 (by decide) ?_
              obtain ⟨o_label_7, hc_7, hf⟩ := bnd1_s hf
              refine kcVv (As := [.int ((4 * v2_1) + 2), .int ((4 * v2_1) + 1)]) (rest := []) (w2 := [(a_this, .inr (7, [.ref a_now, .ref a_history, .int i_saved, .ref a_kept, .ref a_isKept, .ref a_text, .int i_length, .int i_next, .ref a_read, .ref a_uses, .ref a_entry, .ref a_passed, .ref a_draft, .ref a_label, .ref a_met, .ref a_bracket, .ref a_matrix])), (a_now, .inl (cyI, 34, .inl f_now)), (a_label, .inl (cyI, 17, .inl o_label_7))]) S hK hP hD hS hA hN (mX10_unite l D cyI cyZ H.size a_this a_now a_history a_kept a_isKept a_text a_read a_uses a_entry a_passed a_draft a_label a_met a_bracket a_matrix ((4 * v2_1) + 2) ((4 * v2_1) + 1) i_saved i_length i_next f_now o_label_5 o_label_7 hc_7) (cwV 2 hts gX10_loops_X10_unite rfl rfl rfl (by decide +kernel) ⟨Nat.le_of_ble_eq_true rfl, Nat.le_of_ble_eq_true rfl⟩) 7 0 rfl rfl [0, 1, 2] [] [0, 1, 2] rfl rfl rfl rfl (by decide) rfl rfl hl.1 (Nat.le_of_ble_eq_true rfl) dX10_loops_71 ⟨Nat.le_of_ble_eq_true rfl, Nat.le_of_ble_eq_true rfl⟩ (fun H locs hP hD hS => ?_)
              refine lv_iinc (v := (v2_1 + 1)) (lv' := [(2, .int (v2_1 + 1)), (0, .ref a_this), (1, .int v1), (3, .int (4 * v2_1)), (4, .int t0_2)]) hx hb dX10_loops_74 hl (k := 2) rfl rfl (by decide) rfl (fun ls hl => ?_)
              refine lv_goto (tgt := 6) hx hb dX10_loops_77 (by decide) ?_
              exact ih_1 (v2_1 + 1) o_label_7 H locs ls hf hP hD hS (lv_sub hl [1, 2, 0] rfl)
          refine lv_if_eq (tgt := 47) hx hb dX10_loops_38 (by decide) (fun c_9 => ?_) (fun c_9 => ?_)
          · replace hf := kt_p hf c_9
            refine lv_iload_n hx hb dX10_loops_47 rfl (lv_at hl 4 rfl) ?_
            refine lv_iconst (v := 1) hx hb dX10_loops_48 (by decide) ?_
            refine lv_iadd hx hb dX10_loops_49 ?_
            exact hJ_3 ((4 * v2_1) + 1) H locs ls hf hP hD hS (lv_sub hl [1, 2, 3, 4, 0] rfl)
          · replace hf := kt_n hf c_9
            refine lv_iload_n hx hb dX10_loops_41 rfl (lv_at hl 4 rfl) ?_
            refine lv_iconst (v := 3) hx hb dX10_loops_42 (by decide) ?_
            refine lv_iadd hx hb dX10_loops_43 ?_
            refine lv_goto (tgt := 50) hx hb dX10_loops_44 (by decide) ?_
            exact hJ_3 ((4 * v2_1) + 3) H locs ls hf hP hD hS (lv_sub hl [1, 2, 3, 4, 0] rfl)
        refine lv_icmp_ne (tgt := 31) hx hb dX10_loops_24 (by decide) (fun c_10 => ?_) (fun c_10 => ?_)
        · replace hf := kt_n hf c_10
          refine lv_iconst (v := 0) hx hb dX10_loops_31 (by decide) ?_
          exact hJ_2 0 H locs ls hf hP hD hS (lv_sub hl [1, 2, 3, 0] rfl)
        · replace hf := kt_p hf c_10
          refine lv_iconst (v := 1) hx hb dX10_loops_27 (by decide) ?_
          refine lv_goto (tgt := 32) hx hb dX10_loops_28 (by decide) ?_
          exact hJ_2 1 H locs ls hf hP hD hS (lv_sub hl [1, 2, 3, 0] rfl)
  exact hL_1 400 0 o_label_1 H locs ls hf hP hD hS (lv_sub hl [1, 2, 0] rfl)
def kX10_findBracket_L5 (r_3 : Int32) (K_2 : Int32 → (Nat → Int32) → (Nat → Int32) → Option ((Nat → Int32) × (Nat → Int32))) (v1_2 : Int32) (o_label_3 : Nat → Int32) (v2_3 : Int32) (K_5 : Int32 → Int32 → (Nat → Int32) → Option ((Nat → Int32) × (Nat → Int32))) (v4_5 : Int32) (v5_5 : Int32) (f_bracket_5 : Nat → Int32) : Option ((Nat → Int32) × (Nat → Int32)) :=
  if (r_3 - 1) < v5_5 then K_2 (v1_2 + 1) o_label_3 f_bracket_5 else ck (((60 + v2_3) + (2 * (r_3 - 1))) - (4 * v5_5)) 121 (ck (((60 + v2_3) + (2 * (r_3 - 1))) - (4 * v5_5)) 121 (cz (v5_5 + 1) (K_5 ((v4_5 * ((r_3 - 1) - v5_5)) / (v5_5 + 1)) (v5_5 + 1) (upd f_bracket_5 (((60 + v2_3) + (2 * (r_3 - 1))) - (4 * v5_5)).toNatClampNeg ((f_bracket_5 (((60 + v2_3) + (2 * (r_3 - 1))) - (4 * v5_5)).toNatClampNeg) + v4_5)))))
def kX10_findBracket_J4 (r_3 : Int32) (K_2 : Int32 → (Nat → Int32) → (Nat → Int32) → Option ((Nat → Int32) × (Nat → Int32))) (v1_2 : Int32) (o_label_3 : Nat → Int32) (v2_3 : Int32) (f_bracket_2 : Nat → Int32) (t0_4 : Int32) : Option ((Nat → Int32) × (Nat → Int32)) :=
  it3 (kX10_findBracket_L5 r_3 K_2 v1_2 o_label_3 v2_3) 400 t0_4 0 f_bracket_2
def kX10_findBracket_J6 (K_3 : Int32 → Int32 → Option ((Nat → Int32) × (Nat → Int32))) (v2_3 : Int32) (v3_3 : Int32) (t1_6 : Int32) : Option ((Nat → Int32) × (Nat → Int32)) :=
  K_3 (v2_3 + t1_6) (v3_3 + 1)
def kX10_findBracket_L3 (f_now : Nat → Int32) (v1_2 : Int32) (f_label_2 : Nat → Int32) (K_2 : Int32 → (Nat → Int32) → (Nat → Int32) → Option ((Nat → Int32) × (Nat → Int32))) (f_bracket_2 : Nat → Int32) (K_3 : Int32 → Int32 → Option ((Nat → Int32) × (Nat → Int32))) (v2_3 : Int32) (v3_3 : Int32) : Option ((Nat → Int32) × (Nat → Int32)) :=
  bnd1 (kX10_crossings f_now) (fun r_2 => if r_2 ≤ v3_3 then bnd2 (kX10_loops v1_2 f_now f_label_2) (fun r_3 o_label_3 => if (irem (r_3 - 1) 2) = 0 then kX10_findBracket_J4 r_3 K_2 v1_2 o_label_3 v2_3 f_bracket_2 1 else kX10_findBracket_J4 r_3 K_2 v1_2 o_label_3 v2_3 f_bracket_2 (-1)) else if ((ishr v1_2 v3_3) &&& 1) = 1 then kX10_findBracket_J6 K_3 v2_3 v3_3 (-1) else kX10_findBracket_J6 K_3 v2_3 v3_3 1)
def kX10_findBracket_L2 (f_now : Nat → Int32) (K_2 : Int32 → (Nat → Int32) → (Nat → Int32) → Option ((Nat → Int32) × (Nat → Int32))) (v1_2 : Int32) (f_label_2 : Nat → Int32) (f_bracket_2 : Nat → Int32) : Option ((Nat → Int32) × (Nat → Int32)) :=
  bnd1 (kX10_crossings f_now) (fun r_1 => if (ishl 1 r_1) ≤ v1_2 then some (f_label_2, f_bracket_2) else it2 (kX10_findBracket_L3 f_now v1_2 f_label_2 K_2 f_bracket_2) 400 0 0)
def kX10_findBracket_L1 (f_now : Nat → Int32) (f_label : Nat → Int32) (K_1 : Int32 → (Nat → Int32) → Option ((Nat → Int32) × (Nat → Int32))) (v1_1 : Int32) (f_bracket_1 : Nat → Int32) : Option ((Nat → Int32) × (Nat → Int32)) :=
  if 120 < v1_1 then it3 (kX10_findBracket_L2 f_now) 400 0 f_label f_bracket_1 else ck v1_1 121 (K_1 (v1_1 + 1) (upd f_bracket_1 v1_1.toNatClampNeg 0))
def kX10_findBracket (f_now : Nat → Int32) (f_label : Nat → Int32) (f_bracket : Nat → Int32) : Option ((Nat → Int32) × (Nat → Int32)) :=
  it2 (kX10_findBracket_L1 f_now f_label) 400 0 f_bracket
def rmX10_findBracket : Room := { frames := 4, cells := 0, slots := 0, locals := 90 }
theorem qX10_findBracket_0 : (.fieldLink RX10 47 "KnotDiagramModel" "bracket" "[I" : Cond) ∈ wsX10_findBracket := by decide +kernel
theorem qX10_findBracket_X10 : ∀ w ∈ wsX100, w ∈ wsX10_findBracket := by decide +kernel
set_option maxHeartbeats 4000000 in
set_option maxRecDepth 100000 in
theorem mX10_findBracket (l : Launch) (D : va_G) (cyI cyZ : ClassId) (sz : Nat) (a_this a_now a_history a_kept a_isKept a_text a_read a_uses a_entry a_passed a_draft a_label a_met a_bracket a_matrix : Nat) (i_saved : Int32) (i_length : Int32) (i_next : Int32) (f_now : Nat → Int32) (f_label : Nat → Int32) (f_bracket : Nat → Int32) (o_label : Nat → Int32) (o_bracket : Nat → Int32) (hf : kX10_findBracket f_now f_label f_bracket = some (o_label, o_bracket)) : Met l yX10_findBracket wsX10_findBracket rmX10_findBracket (kPre D cyI cyZ [.ref a_this] [(a_this, .inr (7, [.ref a_now, .ref a_history, .int i_saved, .ref a_kept, .ref a_isKept, .ref a_text, .int i_length, .int i_next, .ref a_read, .ref a_uses, .ref a_entry, .ref a_passed, .ref a_draft, .ref a_label, .ref a_met, .ref a_bracket, .ref a_matrix])), (a_now, .inl (cyI, 34, .inl f_now)), (a_label, .inl (cyI, 17, .inl f_label)), (a_bracket, .inl (cyI, 121, .inl f_bracket))] sz) (kQv D cyI cyZ (va_A [(a_this, .inr (7, [.ref a_now, .ref a_history, .int i_saved, .ref a_kept, .ref a_isKept, .ref a_text, .int i_length, .int i_next, .ref a_read, .ref a_uses, .ref a_entry, .ref a_passed, .ref a_draft, .ref a_label, .ref a_met, .ref a_bracket, .ref a_matrix])), (a_now, .inl (cyI, 34, .inl f_now)), (a_label, .inl (cyI, 17, .inl f_label)), (a_bracket, .inl (cyI, 121, .inl f_bracket))] sz) [(a_this, .inr (7, [.ref a_now, .ref a_history, .int i_saved, .ref a_kept, .ref a_isKept, .ref a_text, .int i_length, .int i_next, .ref a_read, .ref a_uses, .ref a_entry, .ref a_passed, .ref a_draft, .ref a_label, .ref a_met, .ref a_bracket, .ref a_matrix])), (a_now, .inl (cyI, 34, .inl f_now)), (a_label, .inl (cyI, 17, .inl o_label)), (a_bracket, .inl (cyI, 121, .inl o_bracket))]) 0 0 (va_A [(a_this, .inr (7, [.ref a_now, .ref a_history, .int i_saved, .ref a_kept, .ref a_isKept, .ref a_text, .int i_length, .int i_next, .ref a_read, .ref a_uses, .ref a_entry, .ref a_passed, .ref a_draft, .ref a_label, .ref a_met, .ref a_bracket, .ref a_matrix])), (a_now, .inl (cyI, 34, .inl f_now)), (a_label, .inl (cyI, 17, .inl f_label)), (a_bracket, .inl (cyI, 121, .inl f_bracket))] sz) := by
  refine Met.ofW (cc := cX10_findBracket) (maxL := 6) (ret := none) (by decide) rfl ?_
  intro p e s m args below meth c s₁ B hml hv
  obtain ⟨rfl, hsz, hP, hK, hD0, hN⟩ := hv
  have hx := B.exec
  have hb := B.bytes
  have hr := B.returns
  have hts := atoms_spec (ws := wsX10_findBracket) B.pre
  have hown : s.vm.findClass RX10 = some m.cls := findClass_of_methodNamed B.named
  have hlocks := B.notSynchronized
  subst hsz
  have hD := hD0.self (sz := s.heap.size)
  generalize hAe : va_A [(a_this, .inr (7, [.ref a_now, .ref a_history, .int i_saved, .ref a_kept, .ref a_isKept, .ref a_text, .int i_length, .int i_next, .ref a_read, .ref a_uses, .ref a_entry, .ref a_passed, .ref a_draft, .ref a_label, .ref a_met, .ref a_bracket, .ref a_matrix])), (a_now, .inl (cyI, 34, .inl f_now)), (a_label, .inl (cyI, 17, .inl f_label)), (a_bracket, .inl (cyI, 121, .inl f_bracket))] s.heap.size = A at hD ⊢
  have hA : ∀ q : Nat, s.heap.size ≤ q → A q := fun q h => by rw [← hAe]; exact Or.inr h
  clear hAe hD0
  have hS : va_S A s.heap s.heap [] := va_S.rf
  have S : CallFix p m c cX10_findBracket 6 s (([.ref a_this] : List Value).toArray) wsX10_findBracket RX10 := ⟨hx, hb, hml, hown, hts⟩
  have hl := lv_entry ([.ref a_this]) (n := 6) (Nat.le_of_ble_eq_true rfl)
  rw [lg_entry_eq]
  generalize (lg_sl ([.ref a_this]) ++ List.replicate (6 - (lg_sl ([.ref a_this])).length) Slot.unset).toArray = ls at hl ⊢
  replace hl : lv_has ls 6 [(0, .ref a_this)] := hl
  generalize ([] : List Loc) = locs at hS ⊢
  delta kX10_findBracket at hf
  obtain ⟨H, hH⟩ : ∃ H, H = s.heap := ⟨_, rfl⟩
  have hS : va_S A s.heap H locs := by rw [hH]; exact hS
  have hP : va_P D vwCl [(a_this, .inr (7, [.ref a_now, .ref a_history, .int i_saved, .ref a_kept, .ref a_isKept, .ref a_text, .int i_length, .int i_next, .ref a_read, .ref a_uses, .ref a_entry, .ref a_passed, .ref a_draft, .ref a_label, .ref a_met, .ref a_bracket, .ref a_matrix])), (a_now, .inl (cyI, 34, .inl f_now)), (a_label, .inl (cyI, 17, .inl f_label)), (a_bracket, .inl (cyI, 121, .inl f_bracket))] H := by rw [hH]; exact hP
  suffices hgo : W p l e (headSpec wsX10_findBracket rmX10_findBracket).room s m (([.ref a_this] : List Value).toArray) below meth c H locs 0 0 (MQ below (kQv D cyI cyZ A [(a_this, .inr (7, [.ref a_now, .ref a_history, .int i_saved, .ref a_kept, .ref a_isKept, .ref a_text, .int i_length, .int i_next, .ref a_read, .ref a_uses, .ref a_entry, .ref a_passed, .ref a_draft, .ref a_label, .ref a_met, .ref a_bracket, .ref a_matrix])), (a_now, .inl (cyI, 34, .inl f_now)), (a_label, .inl (cyI, 17, .inl o_label)), (a_bracket, .inl (cyI, 121, .inl o_bracket))]) (([.ref a_this] : List Value).toArray) s 0 0 A) (F0 m 0 ls []) by rw [hH] at hgo; exact hgo
  clear hH
  refine lv_iconst (v := 0) hx hb dX10_findBracket_0 (by decide) ?_
  refine lv_istore_n (lv' := [(1, .int 0), (0, .ref a_this)]) hx hb dX10_findBracket_1 rfl hl (by decide) rfl (fun ls hl => ?_)
  have hL_1 : ∀ (n : Nat) (v1_1 : Int32) (f_bracket_1 : Nat → Int32) (H : Heap) (locs : List Loc) (ls : Array Slot), it2 (kX10_findBracket_L1 f_now f_label) n v1_1 f_bracket_1 = some (o_label, o_bracket) → va_P D vwCl [(a_this, .inr (7, [.ref a_now, .ref a_history, .int i_saved, .ref a_kept, .ref a_isKept, .ref a_text, .int i_length, .int i_next, .ref a_read, .ref a_uses, .ref a_entry, .ref a_passed, .ref a_draft, .ref a_label, .ref a_met, .ref a_bracket, .ref a_matrix])), (a_now, .inl (cyI, 34, .inl f_now)), (a_label, .inl (cyI, 17, .inl f_label)), (a_bracket, .inl (cyI, 121, .inl f_bracket_1))] H → va_D A [(a_this, .inr (7, [.ref a_now, .ref a_history, .int i_saved, .ref a_kept, .ref a_isKept, .ref a_text, .int i_length, .int i_next, .ref a_read, .ref a_uses, .ref a_entry, .ref a_passed, .ref a_draft, .ref a_label, .ref a_met, .ref a_bracket, .ref a_matrix])), (a_now, .inl (cyI, 34, .inl f_now)), (a_label, .inl (cyI, 17, .inl f_label)), (a_bracket, .inl (cyI, 121, .inl f_bracket_1))] → va_S A s.heap H locs → lv_has ls 6 [(0, .ref a_this), (1, .int v1_1)] → W p l e (headSpec wsX10_findBracket rmX10_findBracket).room s m (([.ref a_this] : List Value).toArray) below meth c H locs 0 0 (MQ below (kQv D cyI cyZ A [(a_this, .inr (7, [.ref a_now, .ref a_history, .int i_saved, .ref a_kept, .ref a_isKept, .ref a_text, .int i_length, .int i_next, .ref a_read, .ref a_uses, .ref a_entry, .ref a_passed, .ref a_draft, .ref a_label, .ref a_met, .ref a_bracket, .ref a_matrix])), (a_now, .inl (cyI, 34, .inl f_now)), (a_label, .inl (cyI, 17, .inl o_label)), (a_bracket, .inl (cyI, 121, .inl o_bracket))]) (([.ref a_this] : List Value).toArray) s 0 0 A) (F0 m 2 ls []) := by
    intro n_1
    induction n_1 with
    | zero =>
      intro _ _ _ _ _ hf
      exact (it2_z hf).elim
    | succ n_1 ih_1 =>
      intro v1_1 f_bracket_1 H locs ls hf hP hD hS hl
      replace hf := it2_s hf
      rw [kX10_findBracket_L1] at hf
      refine lv_iload_n hx hb dX10_findBracket_2 rfl (lv_at hl 1 rfl) ?_
      refine lv_bipush (v := 120) hx hb dX10_findBracket_3 (by decide) ?_
      refine lv_icmp_gt (tgt := 21) hx hb dX10_findBracket_5 (by decide) (fun c_13 => ?_) (fun c_13 => ?_)
      · replace hf := kt_p hf c_13
        refine lv_iconst (v := 0) hx hb dX10_findBracket_21 (by decide) ?_
        refine lv_istore_n (lv' := [(1, .int 0), (0, .ref a_this)]) hx hb dX10_findBracket_22 rfl hl (by decide) rfl (fun ls hl => ?_)
        have hL_2 : ∀ (n : Nat) (v1_2 : Int32) (f_label_2 : Nat → Int32) (f_bracket_2 : Nat → Int32) (H : Heap) (locs : List Loc) (ls : Array Slot), it3 (kX10_findBracket_L2 f_now) n v1_2 f_label_2 f_bracket_2 = some (o_label, o_bracket) → va_P D vwCl [(a_this, .inr (7, [.ref a_now, .ref a_history, .int i_saved, .ref a_kept, .ref a_isKept, .ref a_text, .int i_length, .int i_next, .ref a_read, .ref a_uses, .ref a_entry, .ref a_passed, .ref a_draft, .ref a_label, .ref a_met, .ref a_bracket, .ref a_matrix])), (a_now, .inl (cyI, 34, .inl f_now)), (a_label, .inl (cyI, 17, .inl f_label_2)), (a_bracket, .inl (cyI, 121, .inl f_bracket_2))] H → va_D A [(a_this, .inr (7, [.ref a_now, .ref a_history, .int i_saved, .ref a_kept, .ref a_isKept, .ref a_text, .int i_length, .int i_next, .ref a_read, .ref a_uses, .ref a_entry, .ref a_passed, .ref a_draft, .ref a_label, .ref a_met, .ref a_bracket, .ref a_matrix])), (a_now, .inl (cyI, 34, .inl f_now)), (a_label, .inl (cyI, 17, .inl f_label_2)), (a_bracket, .inl (cyI, 121, .inl f_bracket_2))] → va_S A s.heap H locs → lv_has ls 6 [(0, .ref a_this), (1, .int v1_2)] → W p l e (headSpec wsX10_findBracket rmX10_findBracket).room s m (([.ref a_this] : List Value).toArray) below meth c H locs 0 0 (MQ below (kQv D cyI cyZ A [(a_this, .inr (7, [.ref a_now, .ref a_history, .int i_saved, .ref a_kept, .ref a_isKept, .ref a_text, .int i_length, .int i_next, .ref a_read, .ref a_uses, .ref a_entry, .ref a_passed, .ref a_draft, .ref a_label, .ref a_met, .ref a_bracket, .ref a_matrix])), (a_now, .inl (cyI, 34, .inl f_now)), (a_label, .inl (cyI, 17, .inl o_label)), (a_bracket, .inl (cyI, 121, .inl o_bracket))]) (([.ref a_this] : List Value).toArray) s 0 0 A) (F0 m 23 ls []) := by
          intro n_2
          induction n_2 with
          | zero =>
            intro _ _ _ _ _ _ hf
            exact (it3_z hf).elim
          | succ n_2 ih_2 =>
            intro v1_2 f_label_2 f_bracket_2 H locs ls hf hP hD hS hl
            replace hf := it3_s hf
            rw [kX10_findBracket_L2] at hf
            refine lv_iload_n hx hb dX10_findBracket_23 rfl (lv_at hl 1 rfl) ?_
            refine lv_iconst (v := 1) hx hb dX10_findBracket_24 (by decide) ?_
            refine lv_aload_n hx hb dX10_findBracket_25 rfl (lv_at hl 0 rfl) ?_
            obtain ⟨r_1, hc_1, hf⟩ := bnd1_s hf
            refine kcVi (As := []) (rest := [.int 1, .int v1_2]) (w2 := [(a_this, .inr (7, [.ref a_now, .ref a_history, .int i_saved, .ref a_kept, .ref a_isKept, .ref a_text, .int i_length, .int i_next, .ref a_read, .ref a_uses, .ref a_entry, .ref a_passed, .ref a_draft, .ref a_label, .ref a_met, .ref a_bracket, .ref a_matrix])), (a_now, .inl (cyI, 34, .inl f_now)), (a_label, .inl (cyI, 17, .inl f_label_2)), (a_bracket, .inl (cyI, 121, .inl f_bracket_2))]) S hK hP hD hS hA hN (mX10_crossings l D cyI cyZ H.size a_this a_now a_history a_kept a_isKept a_text a_read a_uses a_entry a_passed a_draft a_label a_met a_bracket a_matrix i_saved i_length i_next f_now r_1 hc_1) (cwV 0 hts gX10_findBracket_X10_crossings rfl rfl rfl (by decide +kernel) ⟨Nat.le_of_ble_eq_true rfl, Nat.le_of_ble_eq_true rfl⟩) 7 0 rfl rfl [0, 1] [2, 3] [2, 3, 0, 1] rfl rfl rfl rfl (by decide) rfl rfl hl.1 (Nat.le_of_ble_eq_true rfl) dX10_findBracket_26 ⟨Nat.le_of_ble_eq_true rfl, Nat.le_of_ble_eq_true rfl⟩ (fun H locs hP hD hS => ?_)
            refine k_ishl hx hb dX10_findBracket_29 ?_
            refine lv_icmp_ge (tgt := 147) hx hb dX10_findBracket_30 (by decide) (fun c_11 => ?_) (fun c_11 => ?_)
            · replace hf := kt_p hf c_11
              obtain ⟨rfl, rfl⟩ := some2_s hf
              exact kRv hx hb hr hlocks hP hK hD hS dX10_findBracket_147
            · replace hf := kt_n hf c_11
              refine lv_iconst (v := 0) hx hb dX10_findBracket_33 (by decide) ?_
              refine lv_istore_n (lv' := [(2, .int 0), (0, .ref a_this), (1, .int v1_2)]) hx hb dX10_findBracket_34 rfl hl (by decide) rfl (fun ls hl => ?_)
              refine lv_iconst (v := 0) hx hb dX10_findBracket_35 (by decide) ?_
              refine lv_istore_n (lv' := [(3, .int 0), (2, .int 0), (0, .ref a_this), (1, .int v1_2)]) hx hb dX10_findBracket_36 rfl hl (by decide) rfl (fun ls hl => ?_)
              have hL_3 : ∀ (n : Nat) (v2_3 : Int32) (v3_3 : Int32) (H : Heap) (locs : List Loc) (ls : Array Slot), it2 (kX10_findBracket_L3 f_now v1_2 f_label_2 (it3 (kX10_findBracket_L2 f_now) n_2) f_bracket_2) n v2_3 v3_3 = some (o_label, o_bracket) → va_P D vwCl [(a_this, .inr (7, [.ref a_now, .ref a_history, .int i_saved, .ref a_kept, .ref a_isKept, .ref a_text, .int i_length, .int i_next, .ref a_read, .ref a_uses, .ref a_entry, .ref a_passed, .ref a_draft, .ref a_label, .ref a_met, .ref a_bracket, .ref a_matrix])), (a_now, .inl (cyI, 34, .inl f_now)), (a_label, .inl (cyI, 17, .inl f_label_2)), (a_bracket, .inl (cyI, 121, .inl f_bracket_2))] H → va_D A [(a_this, .inr (7, [.ref a_now, .ref a_history, .int i_saved, .ref a_kept, .ref a_isKept, .ref a_text, .int i_length, .int i_next, .ref a_read, .ref a_uses, .ref a_entry, .ref a_passed, .ref a_draft, .ref a_label, .ref a_met, .ref a_bracket, .ref a_matrix])), (a_now, .inl (cyI, 34, .inl f_now)), (a_label, .inl (cyI, 17, .inl f_label_2)), (a_bracket, .inl (cyI, 121, .inl f_bracket_2))] → va_S A s.heap H locs → lv_has ls 6 [(0, .ref a_this), (1, .int v1_2), (2, .int v2_3), (3, .int v3_3)] → W p l e (headSpec wsX10_findBracket rmX10_findBracket).room s m (([.ref a_this] : List Value).toArray) below meth c H locs 0 0 (MQ below (kQv D cyI cyZ A [(a_this, .inr (7, [.ref a_now, .ref a_history, .int i_saved, .ref a_kept, .ref a_isKept, .ref a_text, .int i_length, .int i_next, .ref a_read, .ref a_uses, .ref a_entry, .ref a_passed, .ref a_draft, .ref a_label, .ref a_met, .ref a_bracket, .ref a_matrix])), (a_now, .inl (cyI, 34, .inl f_now)), (a_label, .inl (cyI, 17, .inl o_label)), (a_bracket, .inl (cyI, 121, .inl o_bracket))]) (([.ref a_this] : List Value).toArray) s 0 0 A) (F0 m 37 ls []) := by
                intro n_3
                induction n_3 with
                | zero =>
                  intro _ _ _ _ _ hf
                  exact (it2_z hf).elim
                | succ n_3 ih_3 =>
                  intro v2_3 v3_3 H locs ls hf hP hD hS hl
                  replace hf := it2_s hf
                  rw [kX10_findBracket_L3] at hf
                  refine lv_iload_n hx hb dX10_findBracket_37 rfl (lv_at hl 3 rfl) ?_
                  refine lv_aload_n hx hb dX10_findBracket_38 rfl (lv_at hl 0 rfl) ?_
                  obtain ⟨r_2, hc_2, hf⟩ := bnd1_s hf
                  refine kcVi (As := []) (rest := [.int v3_3]) (w2 := [(a_this, .inr (7, [.ref a_now, .ref a_history, .int i_saved, .ref a_kept, .ref a_isKept, .ref a_text, .int i_length, .int i_next, .ref a_read, .ref a_uses, .ref a_entry, .ref a_passed, .ref a_draft, .ref a_label, .ref a_met, .ref a_bracket, .ref a_matrix])), (a_now, .inl (cyI, 34, .inl f_now)), (a_label, .inl (cyI, 17, .inl f_label_2)), (a_bracket, .inl (cyI, 121, .inl f_bracket_2))]) S hK hP hD hS hA hN (mX10_crossings l D cyI cyZ H.size a_this a_now a_history a_kept a_isKept a_text a_read a_uses a_entry a_passed a_draft a_label a_met a_bracket a_matrix i_saved i_length i_next f_now r_2 hc_2) (cwV 0 hts gX10_findBracket_X10_crossings rfl rfl rfl (by decide +kernel) ⟨Nat.le_of_ble_eq_true rfl, Nat.le_of_ble_eq_true rfl⟩) 7 0 rfl rfl [0, 1] [2, 3] [2, 3, 0, 1] rfl rfl rfl rfl (by decide) rfl rfl hl.1 (Nat.le_of_ble_eq_true rfl) dX10_findBracket_39 ⟨Nat.le_of_ble_eq_true rfl, Nat.le_of_ble_eq_true rfl⟩ (fun H locs hP hD hS => ?_)
                  refine lv_icmp_ge (tgt := 68) hx hb dX10_findBracket_42 (by decide) (fun c_10 => ?_) (fun c_10 => ?_)
                  · replace hf := kt_p hf c_10
                    refine lv_aload_n hx hb dX10_findBracket_68 rfl (lv_at hl 0 rfl) ?_
                    refine lv_iload_n hx hb dX10_findBracket_69 rfl (lv_at hl 1 rfl) ?_
                    obtain ⟨r_3, o_label_3, hc_3, hf⟩ := bnd2_s hf
                    refine kcVi (As := [.int v1_2]) (rest := []) (w2 := [(a_this, .inr (7, [.ref a_now, .ref a_history, .int i_saved, .ref a_kept, .ref a_isKept, .ref a_text, .int i_length, .int i_next, .ref a_read, .ref a_uses, .ref a_entry, .ref a_passed, .ref a_draft, .ref a_label, .ref a_met, .ref a_bracket, .ref a_matrix])), (a_now, .inl (cyI, 34, .inl f_now)), (a_label, .inl (cyI, 17, .inl o_label_3)), (a_bracket, .inl (cyI, 121, .inl f_bracket_2))]) S hK hP hD hS hA hN (mX10_loops l D cyI cyZ H.size a_this a_now a_history a_kept a_isKept a_text a_read a_uses a_entry a_passed a_draft a_label a_met a_bracket a_matrix v1_2 i_saved i_length i_next f_now f_label_2 r_3 o_label_3 hc_3) (cwV 1 hts gX10_findBracket_X10_loops rfl rfl rfl (by decide +kernel) ⟨Nat.le_of_ble_eq_true rfl, Nat.le_of_ble_eq_true rfl⟩) 7 0 rfl rfl [0, 1, 2] [3] [1, 2, 3, 0] rfl rfl rfl rfl (by decide) rfl rfl hl.1 (Nat.le_of_ble_eq_true rfl) dX10_findBracket_70 ⟨Nat.le_of_ble_eq_true rfl, Nat.le_of_ble_eq_true rfl⟩ (fun H locs hP hD hS => ?_)
                    refine lv_iconst (v := 1) hx hb dX10_findBracket_73 (by decide) ?_
                    refine lv_isub hx hb dX10_findBracket_74 ?_
                    refine lv_istore_n (lv' := [(3, .int (r_3 - 1)), (0, .ref a_this), (1, .int v1_2), (2, .int v2_3)]) hx hb dX10_findBracket_75 rfl hl (by decide) rfl (fun ls hl => ?_)
                    refine lv_iload_n hx hb dX10_findBracket_76 rfl (lv_at hl 0 rfl) ?_
                    refine lv_iconst (v := 2) hx hb dX10_findBracket_77 (by decide) ?_
                    refine k_irem hx hb dX10_findBracket_78 (by decide) ?_
                    have hJ_4 : ∀ (t0_4 : Int32) (H : Heap) (locs : List Loc) (ls : Array Slot), kX10_findBracket_J4 r_3 (it3 (kX10_findBracket_L2 f_now) n_2) v1_2 o_label_3 v2_3 f_bracket_2 t0_4 = some (o_label, o_bracket) → va_P D vwCl [(a_this, .inr (7, [.ref a_now, .ref a_history, .int i_saved, .ref a_kept, .ref a_isKept, .ref a_text, .int i_length, .int i_next, .ref a_read, .ref a_uses, .ref a_entry, .ref a_passed, .ref a_draft, .ref a_label, .ref a_met, .ref a_bracket, .ref a_matrix])), (a_now, .inl (cyI, 34, .inl f_now)), (a_label, .inl (cyI, 17, .inl o_label_3)), (a_bracket, .inl (cyI, 121, .inl f_bracket_2))] H → va_D A [(a_this, .inr (7, [.ref a_now, .ref a_history, .int i_saved, .ref a_kept, .ref a_isKept, .ref a_text, .int i_length, .int i_next, .ref a_read, .ref a_uses, .ref a_entry, .ref a_passed, .ref a_draft, .ref a_label, .ref a_met, .ref a_bracket, .ref a_matrix])), (a_now, .inl (cyI, 34, .inl f_now)), (a_label, .inl (cyI, 17, .inl o_label_3)), (a_bracket, .inl (cyI, 121, .inl f_bracket_2))] → va_S A s.heap H locs → lv_has ls 6 [(0, .ref a_this), (1, .int v1_2), (2, .int v2_3), (3, .int (r_3 - 1))] → W p l e (headSpec wsX10_findBracket rmX10_findBracket).room s m (([.ref a_this] : List Value).toArray) below meth c H locs 0 0 (MQ below (kQv D cyI cyZ A [(a_this, .inr (7, [.ref a_now, .ref a_history, .int i_saved, .ref a_kept, .ref a_isKept, .ref a_text, .int i_length, .int i_next, .ref a_read, .ref a_uses, .ref a_entry, .ref a_passed, .ref a_draft, .ref a_label, .ref a_met, .ref a_bracket, .ref a_matrix])), (a_now, .inl (cyI, 34, .inl f_now)), (a_label, .inl (cyI, 17, .inl o_label)), (a_bracket, .inl (cyI, 121, .inl o_bracket))]) (([.ref a_this] : List Value).toArray) s 0 0 A) (F0 m 87 ls [.int t0_4]) := by
                      intro t0_4 H locs ls hf hP hD hS hl
                      delta kX10_findBracket_J4 at hf
                      refine lv_istore (lv' := [(4, .int t0_4), (0, .ref a_this), (1, .int v1_2), (2, .int v2_3), (3, .int (r_3 - 1))]) hx hb dX10_findBracket_87 hl (by decide) rfl (fun ls hl => ?_)
                      refine lv_iconst (v := 0) hx hb dX10_findBracket_89 (by decide) ?_
                      refine lv_istore (lv' := [(5, .int 0), (4, .int t0_4), (0, .ref a_this), (1, .int v1_2), (2, .int v2_3), (3, .int (r_3 - 1))]) hx hb dX10_findBracket_90 hl (by decide) rfl (fun ls hl => ?_)
                      have hL_5 : ∀ (n : Nat) (v4_5 : Int32) (v5_5 : Int32) (f_bracket_5 : Nat → Int32) (H : Heap) (locs : List Loc) (ls : Array Slot), it3 (kX10_findBracket_L5 r_3 (it3 (kX10_findBracket_L2 f_now) n_2) v1_2 o_label_3 v2_3) n v4_5 v5_5 f_bracket_5 = some (o_label, o_bracket) → va_P D vwCl [(a_this, .inr (7, [.ref a_now, .ref a_history, .int i_saved, .ref a_kept, .ref a_isKept, .ref a_text, .int i_length, .int i_next, .ref a_read, .ref a_uses, .ref a_entry, .ref a_passed, .ref a_draft, .ref a_label, .ref a_met, .ref a_bracket, .ref a_matrix])), (a_now, .inl (cyI, 34, .inl f_now)), (a_label, .inl (cyI, 17, .inl o_label_3)), (a_bracket, .inl (cyI, 121, .inl f_bracket_5))] H → va_D A [(a_this, .inr (7, [.ref a_now, .ref a_history, .int i_saved, .ref a_kept, .ref a_isKept, .ref a_text, .int i_length, .int i_next, .ref a_read, .ref a_uses, .ref a_entry, .ref a_passed, .ref a_draft, .ref a_label, .ref a_met, .ref a_bracket, .ref a_matrix])), (a_now, .inl (cyI, 34, .inl f_now)), (a_label, .inl (cyI, 17, .inl o_label_3)), (a_bracket, .inl (cyI, 121, .inl f_bracket_5))] → va_S A s.heap H locs → lv_has ls 6 [(0, .ref a_this), (1, .int v1_2), (2, .int v2_3), (3, .int (r_3 - 1)), (4, .int v4_5), (5, .int v5_5)] → W p l e (headSpec wsX10_findBracket rmX10_findBracket).room s m (([.ref a_this] : List Value).toArray) below meth c H locs 0 0 (MQ below (kQv D cyI cyZ A [(a_this, .inr (7, [.ref a_now, .ref a_history, .int i_saved, .ref a_kept, .ref a_isKept, .ref a_text, .int i_length, .int i_next, .ref a_read, .ref a_uses, .ref a_entry, .ref a_passed, .ref a_draft, .ref a_label, .ref a_met, .ref a_bracket, .ref a_matrix])), (a_now, .inl (cyI, 34, .inl f_now)), (a_label, .inl (cyI, 17, .inl o_label)), (a_bracket, .inl (cyI, 121, .inl o_bracket))]) (([.ref a_this] : List Value).toArray) s 0 0 A) (F0 m 92 ls []) := by
                        intro n_5
                        induction n_5 with
                        | zero =>
                          intro _ _ _ _ _ _ hf
                          exact (it3_z hf).elim
                        | succ n_5 ih_5 =>
                          intro v4_5 v5_5 f_bracket_5 H locs ls hf hP hD hS hl
                          replace hf := it3_s hf
                          rw [kX10_findBracket_L5] at hf
                          refine lv_iload hx hb dX10_findBracket_92 (lv_at hl 5 rfl) ?_
                          refine lv_iload_n hx hb dX10_findBracket_94 rfl (lv_at hl 3 rfl) ?_
                          refine lv_icmp_gt (tgt := 141) hx hb dX10_findBracket_95 (by decide) (fun c_7 => ?_) (fun c_7 => ?_)
                          · replace hf := kt_p hf c_7
                            refine lv_iinc (v := (v1_2 + 1)) (lv' := [(1, .int (v1_2 + 1)), (0, .ref a_this), (2, .int v2_3), (3, .int (r_3 - 1)), (4, .int v4_5), (5, .int v5_5)]) hx hb dX10_findBracket_141 hl (k := 1) rfl rfl (by decide) rfl (fun ls hl => ?_)
                            refine lv_goto (tgt := 23) hx hb dX10_findBracket_144 (by decide) ?_
                            exact ih_2 (v1_2 + 1) o_label_3 f_bracket_5 H locs ls hf hP hD hS (lv_sub hl [1, 0] rfl)
                          · replace hf := kt_n hf c_7
                            refine lv_aload_n hx hb dX10_findBracket_98 rfl (lv_at hl 0 rfl) ?_
                            refine va_get (D := D) (ci := 7) (v := .ref a_bracket) (C := RX10) (T := TX10) (N := 17) hx hb hts qX10_findBracket_X10 hown hK hP 0 rfl rfl 15 (Nat.le_of_ble_eq_true rfl) (hts (.fieldLink RX10 47 "KnotDiagramModel" "bracket" "[I") qX10_findBracket_0) (fun _ h9 => h9) rfl dX10_findBracket_99 ?_
                            refine lv_bipush (v := 60) hx hb dX10_findBracket_102 (by decide) ?_
                            refine lv_iload_n hx hb dX10_findBracket_104 rfl (lv_at hl 2 rfl) ?_
                            refine lv_iadd hx hb dX10_findBracket_105 ?_
                            refine lv_iconst (v := 2) hx hb dX10_findBracket_106 (by decide) ?_
                            refine lv_iload_n hx hb dX10_findBracket_107 rfl (lv_at hl 3 rfl) ?_
                            refine lv_imul hx hb dX10_findBracket_108 ?_
                            refine lv_iadd hx hb dX10_findBracket_109 ?_
                            refine lv_iconst (v := 4) hx hb dX10_findBracket_110 (by decide) ?_
                            refine lv_iload hx hb dX10_findBracket_111 (lv_at hl 5 rfl) ?_
                            refine lv_imul hx hb dX10_findBracket_113 ?_
                            refine lv_isub hx hb dX10_findBracket_114 ?_
                            refine lv_dup2_11 hx hb dX10_findBracket_115 rfl rfl ?_
                            obtain ⟨hi_4, hf⟩ := ck_s hf
                            refine va_iald hx hb hK hP 3 0 rfl rfl hi_4 dX10_findBracket_116 ?_
                            refine lv_iload hx hb dX10_findBracket_117 (lv_at hl 4 rfl) ?_
                            refine lv_iadd hx hb dX10_findBracket_119 ?_
                            obtain ⟨hi_5, hf⟩ := ck_s hf
                            refine va_iast hx hb hK hP hD hS 3 0 rfl rfl hi_5 dX10_findBracket_120 (fun H locs hP hD hS => ?_)
                            replace hP : va_P D vwCl [(a_this, .inr (7, [.ref a_now, .ref a_history, .int i_saved, .ref a_kept, .ref a_isKept, .ref a_text, .int i_length, .int i_next, .ref a_read, .ref a_uses, .ref a_entry, .ref a_passed, .ref a_draft, .ref a_label, .ref a_met, .ref a_bracket, .ref a_matrix])), (a_now, .inl (cyI, 34, .inl f_now)), (a_label, .inl (cyI, 17, .inl o_label_3)), (a_bracket, .inl (cyI, 121, .inl (upd f_bracket_5 (((60 + v2_3) + (2 * (r_3 - 1))) - (4 * v5_5)).toNatClampNeg ((f_bracket_5 (((60 + v2_3) + (2 * (r_3 - 1))) - (4 * v5_5)).toNatClampNeg) + v4_5))))] H := hP
                            replace hD : va_D A [(a_this, .inr (7, [.ref a_now, .ref a_history, .int i_saved, .ref a_kept, .ref a_isKept, .ref a_text, .int i_length, .int i_next, .ref a_read, .ref a_uses, .ref a_entry, .ref a_passed, .ref a_draft, .ref a_label, .ref a_met, .ref a_bracket, .ref a_matrix])), (a_now, .inl (cyI, 34, .inl f_now)), (a_label, .inl (cyI, 17, .inl o_label_3)), (a_bracket, .inl (cyI, 121, .inl (upd f_bracket_5 (((60 + v2_3) + (2 * (r_3 - 1))) - (4 * v5_5)).toNatClampNeg ((f_bracket_5 (((60 + v2_3) + (2 * (r_3 - 1))) - (4 * v5_5)).toNatClampNeg) + v4_5))))] := hD
                            refine lv_iload hx hb dX10_findBracket_121 (lv_at hl 4 rfl) ?_
                            refine lv_iload_n hx hb dX10_findBracket_123 rfl (lv_at hl 3 rfl) ?_
                            refine lv_iload hx hb dX10_findBracket_124 (lv_at hl 5 rfl) ?_
                            refine lv_isub hx hb dX10_findBracket_126 ?_
                            refine lv_imul hx hb dX10_findBracket_127 ?_
                            refine lv_iload hx hb dX10_findBracket_128 (lv_at hl 5 rfl) ?_
                            refine lv_iconst (v := 1) hx hb dX10_findBracket_130 (by decide) ?_
                            refine lv_iadd hx hb dX10_findBracket_131 ?_
                            obtain ⟨hz_6, hf⟩ := cz_s hf
                            refine lv_idiv hx hb dX10_findBracket_132 hz_6 ?_
                            refine lv_istore (lv' := [(4, .int ((v4_5 * ((r_3 - 1) - v5_5)) / (v5_5 + 1))), (0, .ref a_this), (1, .int v1_2), (2, .int v2_3), (3, .int (r_3 - 1)), (5, .int v5_5)]) hx hb dX10_findBracket_133 hl (by decide) rfl (fun ls hl => ?_)
                            refine lv_iinc (v := (v5_5 + 1)) (lv' := [(5, .int (v5_5 + 1)), (4, .int ((v4_5 * ((r_3 - 1) - v5_5)) / (v5_5 + 1))), (0, .ref a_this), (1, .int v1_2), (2, .int v2_3), (3, .int (r_3 - 1))]) hx hb dX10_findBracket_135 hl (k := 5) rfl rfl (by decide) rfl (fun ls hl => ?_)
                            refine lv_goto (tgt := 92) hx hb dX10_findBracket_138 (by decide) ?_
                            exact ih_5 ((v4_5 * ((r_3 - 1) - v5_5)) / (v5_5 + 1)) (v5_5 + 1) (upd f_bracket_5 (((60 + v2_3) + (2 * (r_3 - 1))) - (4 * v5_5)).toNatClampNeg ((f_bracket_5 (((60 + v2_3) + (2 * (r_3 - 1))) - (4 * v5_5)).toNatClampNeg) + v4_5)) H locs ls hf hP hD hS (lv_sub hl [2, 3, 4, 5, 1, 0] rfl)
                      exact hL_5 400 t0_4 0 f_bracket_2 H locs ls hf hP hD hS (lv_sub hl [2, 3, 4, 5, 1, 0] rfl)
                    refine lv_if_ne (tgt := 86) hx hb dX10_findBracket_79 (by decide) (fun c_8 => ?_) (fun c_8 => ?_)
                    · replace hf := kt_n hf c_8
                      refine lv_iconst (v := (-1)) hx hb dX10_findBracket_86 (by decide) ?_
                      exact hJ_4 (-1) H locs ls hf hP hD hS (lv_sub hl [1, 2, 3, 0] rfl)
                    · replace hf := kt_p hf c_8
                      refine lv_iconst (v := 1) hx hb dX10_findBracket_82 (by decide) ?_
                      refine lv_goto (tgt := 87) hx hb dX10_findBracket_83 (by decide) ?_
                      exact hJ_4 1 H locs ls hf hP hD hS (lv_sub hl [1, 2, 3, 0] rfl)
                  · replace hf := kt_n hf c_10
                    refine lv_iload_n hx hb dX10_findBracket_45 rfl (lv_at hl 2 rfl) ?_
                    refine lv_iload_n hx hb dX10_findBracket_46 rfl (lv_at hl 1 rfl) ?_
                    refine lv_iload_n hx hb dX10_findBracket_47 rfl (lv_at hl 3 rfl) ?_
                    refine k_ishr hx hb dX10_findBracket_48 ?_
                    refine lv_iconst (v := 1) hx hb dX10_findBracket_49 (by decide) ?_
                    refine lv_iand hx hb dX10_findBracket_50 ?_
                    refine lv_iconst (v := 1) hx hb dX10_findBracket_51 (by decide) ?_
                    have hJ_6 : ∀ (t1_6 : Int32) (H : Heap) (locs : List Loc) (ls : Array Slot), kX10_findBracket_J6 (it2 (kX10_findBracket_L3 f_now v1_2 f_label_2 (it3 (kX10_findBracket_L2 f_now) n_2) f_bracket_2) n_3) v2_3 v3_3 t1_6 = some (o_label, o_bracket) → va_P D vwCl [(a_this, .inr (7, [.ref a_now, .ref a_history, .int i_saved, .ref a_kept, .ref a_isKept, .ref a_text, .int i_length, .int i_next, .ref a_read, .ref a_uses, .ref a_entry, .ref a_passed, .ref a_draft, .ref a_label, .ref a_met, .ref a_bracket, .ref a_matrix])), (a_now, .inl (cyI, 34, .inl f_now)), (a_label, .inl (cyI, 17, .inl f_label_2)), (a_bracket, .inl (cyI, 121, .inl f_bracket_2))] H → va_D A [(a_this, .inr (7, [.ref a_now, .ref a_history, .int i_saved, .ref a_kept, .ref a_isKept, .ref a_text, .int i_length, .int i_next, .ref a_read, .ref a_uses, .ref a_entry, .ref a_passed, .ref a_draft, .ref a_label, .ref a_met, .ref a_bracket, .ref a_matrix])), (a_now, .inl (cyI, 34, .inl f_now)), (a_label, .inl (cyI, 17, .inl f_label_2)), (a_bracket, .inl (cyI, 121, .inl f_bracket_2))] → va_S A s.heap H locs → lv_has ls 6 [(0, .ref a_this), (1, .int v1_2), (3, .int v3_3)] → W p l e (headSpec wsX10_findBracket rmX10_findBracket).room s m (([.ref a_this] : List Value).toArray) below meth c H locs 0 0 (MQ below (kQv D cyI cyZ A [(a_this, .inr (7, [.ref a_now, .ref a_history, .int i_saved, .ref a_kept, .ref a_isKept, .ref a_text, .int i_length, .int i_next, .ref a_read, .ref a_uses, .ref a_entry, .ref a_passed, .ref a_draft, .ref a_label, .ref a_met, .ref a_bracket, .ref a_matrix])), (a_now, .inl (cyI, 34, .inl f_now)), (a_label, .inl (cyI, 17, .inl o_label)), (a_bracket, .inl (cyI, 121, .inl o_bracket))]) (([.ref a_this] : List Value).toArray) s 0 0 A) (F0 m 60 ls [.int t1_6, .int v2_3]) := by
                      intro t1_6 H locs ls hf hP hD hS hl
                      delta kX10_findBracket_J6 at hf
                      refine lv_iadd hx hb dX10_findBracket_60 ?_
                      refine lv_istore_n (lv' := [(2, .int (v2_3 + t1_6)), (0, .ref a_this), (1, .int v1_2), (3, .int v3_3)]) hx hb dX10_findBracket_61 rfl hl (by decide) rfl (fun ls hl => ?_)
                      refine lv_iinc (v := (v3_3 + 1)) (lv' := [(3, .int (v3_3 + 1)), (2, .int (v2_3 + t1_6)), (0, .ref a_this), (1, .int v1_2)]) hx hb dX10_findBracket_62 hl (k := 3) rfl rfl (by decide) rfl (fun ls hl => ?_)
                      refine lv_goto (tgt := 37) hx hb dX10_findBracket_65 (by decide) ?_
                      exact ih_3 (v2_3 + t1_6) (v3_3 + 1) H locs ls hf hP hD hS (lv_sub hl [2, 3, 1, 0] rfl)
                    refine lv_icmp_ne (tgt := 59) hx hb dX10_findBracket_52 (by decide) (fun c_9 => ?_) (fun c_9 => ?_)
                    · replace hf := kt_n hf c_9
                      refine lv_iconst (v := 1) hx hb dX10_findBracket_59 (by decide) ?_
                      exact hJ_6 1 H locs ls hf hP hD hS (lv_sub hl [0, 1, 3] rfl)
                    · replace hf := kt_p hf c_9
                      refine lv_iconst (v := (-1)) hx hb dX10_findBracket_55 (by decide) ?_
                      refine lv_goto (tgt := 60) hx hb dX10_findBracket_56 (by decide) ?_
                      exact hJ_6 (-1) H locs ls hf hP hD hS (lv_sub hl [0, 1, 3] rfl)
              exact hL_3 400 0 0 H locs ls hf hP hD hS (lv_sub hl [2, 3, 1, 0] rfl)
        exact hL_2 400 0 f_label f_bracket_1 H locs ls hf hP hD hS (lv_sub hl [1, 0] rfl)
      · replace hf := kt_n hf c_13
        refine lv_aload_n hx hb dX10_findBracket_8 rfl (lv_at hl 0 rfl) ?_
        refine va_get (D := D) (ci := 7) (v := .ref a_bracket) (C := RX10) (T := TX10) (N := 17) hx hb hts qX10_findBracket_X10 hown hK hP 0 rfl rfl 15 (Nat.le_of_ble_eq_true rfl) (hts (.fieldLink RX10 47 "KnotDiagramModel" "bracket" "[I") qX10_findBracket_0) (fun _ h9 => h9) rfl dX10_findBracket_9 ?_
        refine lv_iload_n hx hb dX10_findBracket_12 rfl (lv_at hl 1 rfl) ?_
        refine lv_iconst (v := 0) hx hb dX10_findBracket_13 (by decide) ?_
        obtain ⟨hi_12, hf⟩ := ck_s hf
        refine va_iast hx hb hK hP hD hS 3 0 rfl rfl hi_12 dX10_findBracket_14 (fun H locs hP hD hS => ?_)
        replace hP : va_P D vwCl [(a_this, .inr (7, [.ref a_now, .ref a_history, .int i_saved, .ref a_kept, .ref a_isKept, .ref a_text, .int i_length, .int i_next, .ref a_read, .ref a_uses, .ref a_entry, .ref a_passed, .ref a_draft, .ref a_label, .ref a_met, .ref a_bracket, .ref a_matrix])), (a_now, .inl (cyI, 34, .inl f_now)), (a_label, .inl (cyI, 17, .inl f_label)), (a_bracket, .inl (cyI, 121, .inl (upd f_bracket_1 v1_1.toNatClampNeg 0)))] H := hP
        replace hD : va_D A [(a_this, .inr (7, [.ref a_now, .ref a_history, .int i_saved, .ref a_kept, .ref a_isKept, .ref a_text, .int i_length, .int i_next, .ref a_read, .ref a_uses, .ref a_entry, .ref a_passed, .ref a_draft, .ref a_label, .ref a_met, .ref a_bracket, .ref a_matrix])), (a_now, .inl (cyI, 34, .inl f_now)), (a_label, .inl (cyI, 17, .inl f_label)), (a_bracket, .inl (cyI, 121, .inl (upd f_bracket_1 v1_1.toNatClampNeg 0)))] := hD
        refine lv_iinc (v := (v1_1 + 1)) (lv' := [(1, .int (v1_1 + 1)), (0, .ref a_this)]) hx hb dX10_findBracket_15 hl (k := 1) rfl rfl (by decide) rfl (fun ls hl => ?_)
        refine lv_goto (tgt := 2) hx hb dX10_findBracket_18 (by decide) ?_
        exact ih_1 (v1_1 + 1) (upd f_bracket_1 v1_1.toNatClampNeg 0) H locs ls hf hP hD hS (lv_sub hl [1, 0] rfl)
  exact hL_1 400 0 f_bracket H locs ls hf hP hD hS (lv_sub hl [1, 0] rfl)
def kX10_isExponent (v0 : Int32) : Option (Int32) :=
  bnd1 (kX10_in v0 (-60) 60) (fun r_1 => zr r_1 (some r_1))
def rmX10_isExponent : Room := { frames := 1, cells := 0, slots := 0, locals := 22 }
set_option maxHeartbeats 4000000 in
set_option maxRecDepth 100000 in
theorem mX10_isExponent (l : Launch) (D : va_G) (cyI cyZ : ClassId) (sz : Nat) (v0 : Int32) (r : Int32) (hf : kX10_isExponent v0 = some r) : Met l yX10_isExponent wsX10_isExponent rmX10_isExponent (kPre D cyI cyZ [.int v0] [] sz) (kQi D cyI cyZ (va_A [] sz) [] r) 0 0 (va_A [] sz) := by
  refine Met.ofW (cc := cX10_isExponent) (maxL := 1) (ret := (some .boolean)) (by decide) rfl ?_
  intro p e s m args below meth c s₁ B hml hv
  obtain ⟨rfl, hsz, hP, hK, hD0, hN⟩ := hv
  have hx := B.exec
  have hb := B.bytes
  have hr := B.returns
  have hts := atoms_spec (ws := wsX10_isExponent) B.pre
  have hown : s.vm.findClass RX10 = some m.cls := findClass_of_methodNamed B.named
  have hlocks := B.notSynchronized
  subst hsz
  have hD := hD0.self (sz := s.heap.size)
  generalize hAe : va_A [] s.heap.size = A at hD ⊢
  have hA : ∀ q : Nat, s.heap.size ≤ q → A q := fun q h => by rw [← hAe]; exact Or.inr h
  clear hAe hD0
  have hS : va_S A s.heap s.heap [] := va_S.rf
  have S : CallFix p m c cX10_isExponent 1 s (([.int v0] : List Value).toArray) wsX10_isExponent RX10 := ⟨hx, hb, hml, hown, hts⟩
  have hl := lv_entry ([.int v0]) (n := 1) (Nat.le_of_ble_eq_true rfl)
  rw [lg_entry_eq]
  generalize (lg_sl ([.int v0]) ++ List.replicate (1 - (lg_sl ([.int v0])).length) Slot.unset).toArray = ls at hl ⊢
  replace hl : lv_has ls 1 [(0, .int v0)] := hl
  generalize ([] : List Loc) = locs at hS ⊢
  delta kX10_isExponent at hf
  obtain ⟨H, hH⟩ : ∃ H, H = s.heap := ⟨_, rfl⟩
  have hS : va_S A s.heap H locs := by rw [hH]; exact hS
  have hP : va_P D vwCl [] H := by rw [hH]; exact hP
  suffices hgo : W p l e (headSpec wsX10_isExponent rmX10_isExponent).room s m (([.int v0] : List Value).toArray) below meth c H locs 0 0 (MQ below (kQi D cyI cyZ A [] r) (([.int v0] : List Value).toArray) s 0 0 A) (F0 m 0 ls []) by rw [hH] at hgo; exact hgo
  clear hH
  refine lv_iload_n hx hb dX10_isExponent_0 rfl (lv_at hl 0 rfl) ?_
  refine lv_bipush (v := (-60)) hx hb dX10_isExponent_1 (by decide) ?_
  refine lv_bipush (v := 60) hx hb dX10_isExponent_3 (by decide) ?_
  obtain ⟨r_1, hc_1, hf⟩ := bnd1_s hf
  refine kcSi (As := [.int v0, .int (-60), .int 60]) (rest := []) (w2 := []) S hK hP hD hS hA hN (mX10_in l D cyI cyZ H.size v0 (-60) 60 r_1 hc_1) (va_cwS 3 hts gX10_isExponent_X10_in rfl rfl rfl (by decide +kernel) ⟨Nat.le_of_ble_eq_true rfl, Nat.le_of_ble_eq_true rfl⟩) [] [] [] rfl rfl rfl rfl (by decide) rfl rfl hl.1 (Nat.le_of_ble_eq_true rfl) dX10_isExponent_5 ⟨Nat.le_of_ble_eq_true rfl, Nat.le_of_ble_eq_true rfl⟩ (fun H locs hP hD hS => ?_)
  obtain ⟨hz, hf⟩ := zr_s hf
  obtain rfl := some1_s hf
  exact kRz hx hb hr hlocks hP hK hD hS hz rfl dX10_isExponent_8
def kX10_stateLoops (v1 : Int32) (f_now : Nat → Int32) (f_label : Nat → Int32) : Option (Int32 × (Nat → Int32)) :=
  bnd1 (kX10_crossings f_now) (fun r_1 => bnd1 (kX10_in v1 0 ((ishl 1 r_1) - 1)) (fun r_2 => if r_2 = 0 then some ((-1000001), f_label) else bnd2 (kX10_loops v1 f_now f_label) (fun r_3 o_label_3 => some (r_3, o_label_3))))
def rmX10_stateLoops : Room := { frames := 4, cells := 0, slots := 0, locals := 90 }
theorem qX10_stateLoops_0 : (.constant RX10 68 (-1000001) : Cond) ∈ wsX10_stateLoops := by decide +kernel
set_option maxHeartbeats 4000000 in
set_option maxRecDepth 100000 in
theorem mX10_stateLoops (l : Launch) (D : va_G) (cyI cyZ : ClassId) (sz : Nat) (a_this a_now a_history a_kept a_isKept a_text a_read a_uses a_entry a_passed a_draft a_label a_met a_bracket a_matrix : Nat) (v1 : Int32) (i_saved : Int32) (i_length : Int32) (i_next : Int32) (f_now : Nat → Int32) (f_label : Nat → Int32) (r : Int32) (o_label : Nat → Int32) (hf : kX10_stateLoops v1 f_now f_label = some (r, o_label)) : Met l yX10_stateLoops wsX10_stateLoops rmX10_stateLoops (kPre D cyI cyZ [.ref a_this, .int v1] [(a_this, .inr (7, [.ref a_now, .ref a_history, .int i_saved, .ref a_kept, .ref a_isKept, .ref a_text, .int i_length, .int i_next, .ref a_read, .ref a_uses, .ref a_entry, .ref a_passed, .ref a_draft, .ref a_label, .ref a_met, .ref a_bracket, .ref a_matrix])), (a_now, .inl (cyI, 34, .inl f_now)), (a_label, .inl (cyI, 17, .inl f_label))] sz) (kQi D cyI cyZ (va_A [(a_this, .inr (7, [.ref a_now, .ref a_history, .int i_saved, .ref a_kept, .ref a_isKept, .ref a_text, .int i_length, .int i_next, .ref a_read, .ref a_uses, .ref a_entry, .ref a_passed, .ref a_draft, .ref a_label, .ref a_met, .ref a_bracket, .ref a_matrix])), (a_now, .inl (cyI, 34, .inl f_now)), (a_label, .inl (cyI, 17, .inl f_label))] sz) [(a_this, .inr (7, [.ref a_now, .ref a_history, .int i_saved, .ref a_kept, .ref a_isKept, .ref a_text, .int i_length, .int i_next, .ref a_read, .ref a_uses, .ref a_entry, .ref a_passed, .ref a_draft, .ref a_label, .ref a_met, .ref a_bracket, .ref a_matrix])), (a_now, .inl (cyI, 34, .inl f_now)), (a_label, .inl (cyI, 17, .inl o_label))] r) 0 0 (va_A [(a_this, .inr (7, [.ref a_now, .ref a_history, .int i_saved, .ref a_kept, .ref a_isKept, .ref a_text, .int i_length, .int i_next, .ref a_read, .ref a_uses, .ref a_entry, .ref a_passed, .ref a_draft, .ref a_label, .ref a_met, .ref a_bracket, .ref a_matrix])), (a_now, .inl (cyI, 34, .inl f_now)), (a_label, .inl (cyI, 17, .inl f_label))] sz) := by
  refine Met.ofW (cc := cX10_stateLoops) (maxL := 2) (ret := (some .int)) (by decide) rfl ?_
  intro p e s m args below meth c s₁ B hml hv
  obtain ⟨rfl, hsz, hP, hK, hD0, hN⟩ := hv
  have hx := B.exec
  have hb := B.bytes
  have hr := B.returns
  have hts := atoms_spec (ws := wsX10_stateLoops) B.pre
  have hown : s.vm.findClass RX10 = some m.cls := findClass_of_methodNamed B.named
  have hlocks := B.notSynchronized
  subst hsz
  have hD := hD0.self (sz := s.heap.size)
  generalize hAe : va_A [(a_this, .inr (7, [.ref a_now, .ref a_history, .int i_saved, .ref a_kept, .ref a_isKept, .ref a_text, .int i_length, .int i_next, .ref a_read, .ref a_uses, .ref a_entry, .ref a_passed, .ref a_draft, .ref a_label, .ref a_met, .ref a_bracket, .ref a_matrix])), (a_now, .inl (cyI, 34, .inl f_now)), (a_label, .inl (cyI, 17, .inl f_label))] s.heap.size = A at hD ⊢
  have hA : ∀ q : Nat, s.heap.size ≤ q → A q := fun q h => by rw [← hAe]; exact Or.inr h
  clear hAe hD0
  have hS : va_S A s.heap s.heap [] := va_S.rf
  have S : CallFix p m c cX10_stateLoops 2 s (([.ref a_this, .int v1] : List Value).toArray) wsX10_stateLoops RX10 := ⟨hx, hb, hml, hown, hts⟩
  have hl := lv_entry ([.ref a_this, .int v1]) (n := 2) (Nat.le_of_ble_eq_true rfl)
  rw [lg_entry_eq]
  generalize (lg_sl ([.ref a_this, .int v1]) ++ List.replicate (2 - (lg_sl ([.ref a_this, .int v1])).length) Slot.unset).toArray = ls at hl ⊢
  replace hl : lv_has ls 2 [(0, .ref a_this), (1, .int v1)] := hl
  generalize ([] : List Loc) = locs at hS ⊢
  delta kX10_stateLoops at hf
  obtain ⟨H, hH⟩ : ∃ H, H = s.heap := ⟨_, rfl⟩
  have hS : va_S A s.heap H locs := by rw [hH]; exact hS
  have hP : va_P D vwCl [(a_this, .inr (7, [.ref a_now, .ref a_history, .int i_saved, .ref a_kept, .ref a_isKept, .ref a_text, .int i_length, .int i_next, .ref a_read, .ref a_uses, .ref a_entry, .ref a_passed, .ref a_draft, .ref a_label, .ref a_met, .ref a_bracket, .ref a_matrix])), (a_now, .inl (cyI, 34, .inl f_now)), (a_label, .inl (cyI, 17, .inl f_label))] H := by rw [hH]; exact hP
  suffices hgo : W p l e (headSpec wsX10_stateLoops rmX10_stateLoops).room s m (([.ref a_this, .int v1] : List Value).toArray) below meth c H locs 0 0 (MQ below (kQi D cyI cyZ A [(a_this, .inr (7, [.ref a_now, .ref a_history, .int i_saved, .ref a_kept, .ref a_isKept, .ref a_text, .int i_length, .int i_next, .ref a_read, .ref a_uses, .ref a_entry, .ref a_passed, .ref a_draft, .ref a_label, .ref a_met, .ref a_bracket, .ref a_matrix])), (a_now, .inl (cyI, 34, .inl f_now)), (a_label, .inl (cyI, 17, .inl o_label))] r) (([.ref a_this, .int v1] : List Value).toArray) s 0 0 A) (F0 m 0 ls []) by rw [hH] at hgo; exact hgo
  clear hH
  refine lv_iload_n hx hb dX10_stateLoops_0 rfl (lv_at hl 1 rfl) ?_
  refine lv_iconst (v := 0) hx hb dX10_stateLoops_1 (by decide) ?_
  refine lv_iconst (v := 1) hx hb dX10_stateLoops_2 (by decide) ?_
  refine lv_aload_n hx hb dX10_stateLoops_3 rfl (lv_at hl 0 rfl) ?_
  obtain ⟨r_1, hc_1, hf⟩ := bnd1_s hf
  refine kcVi (As := []) (rest := [.int 1, .int 0, .int v1]) (w2 := [(a_this, .inr (7, [.ref a_now, .ref a_history, .int i_saved, .ref a_kept, .ref a_isKept, .ref a_text, .int i_length, .int i_next, .ref a_read, .ref a_uses, .ref a_entry, .ref a_passed, .ref a_draft, .ref a_label, .ref a_met, .ref a_bracket, .ref a_matrix])), (a_now, .inl (cyI, 34, .inl f_now)), (a_label, .inl (cyI, 17, .inl f_label))]) S hK hP hD hS hA hN (mX10_crossings l D cyI cyZ H.size a_this a_now a_history a_kept a_isKept a_text a_read a_uses a_entry a_passed a_draft a_label a_met a_bracket a_matrix i_saved i_length i_next f_now r_1 hc_1) (cwV 0 hts gX10_stateLoops_X10_crossings rfl rfl rfl (by decide +kernel) ⟨Nat.le_of_ble_eq_true rfl, Nat.le_of_ble_eq_true rfl⟩) 7 0 rfl rfl [0, 1] [2] [1, 2, 0] rfl rfl rfl rfl (by decide) rfl rfl hl.1 (Nat.le_of_ble_eq_true rfl) dX10_stateLoops_4 ⟨Nat.le_of_ble_eq_true rfl, Nat.le_of_ble_eq_true rfl⟩ (fun H locs hP hD hS => ?_)
  refine k_ishl hx hb dX10_stateLoops_7 ?_
  refine lv_iconst (v := 1) hx hb dX10_stateLoops_8 (by decide) ?_
  refine lv_isub hx hb dX10_stateLoops_9 ?_
  obtain ⟨r_2, hc_2, hf⟩ := bnd1_s hf
  refine kcSi (As := [.int v1, .int 0, .int ((ishl 1 r_1) - 1)]) (rest := []) (w2 := [(a_this, .inr (7, [.ref a_now, .ref a_history, .int i_saved, .ref a_kept, .ref a_isKept, .ref a_text, .int i_length, .int i_next, .ref a_read, .ref a_uses, .ref a_entry, .ref a_passed, .ref a_draft, .ref a_label, .ref a_met, .ref a_bracket, .ref a_matrix])), (a_now, .inl (cyI, 34, .inl f_now)), (a_label, .inl (cyI, 17, .inl f_label))]) S hK hP hD hS hA hN (mX10_in l D cyI cyZ H.size v1 0 ((ishl 1 r_1) - 1) r_2 hc_2) (va_cwS 3 hts gX10_stateLoops_X10_in rfl rfl rfl (by decide +kernel) ⟨Nat.le_of_ble_eq_true rfl, Nat.le_of_ble_eq_true rfl⟩) [] [0, 1, 2] [0, 1, 2] rfl rfl rfl rfl (by decide) rfl rfl hl.1 (Nat.le_of_ble_eq_true rfl) dX10_stateLoops_10 ⟨Nat.le_of_ble_eq_true rfl, Nat.le_of_ble_eq_true rfl⟩ (fun H locs hP hD hS => ?_)
  refine lv_if_eq (tgt := 24) hx hb dX10_stateLoops_13 (by decide) (fun c_4 => ?_) (fun c_4 => ?_)
  · replace hf := kt_p hf c_4
    refine lv_ldc (v := (-1000001)) hx hb hown (hts (.constant RX10 68 (-1000001)) qX10_stateLoops_0) dX10_stateLoops_24 ?_
    obtain ⟨rfl, rfl⟩ := some2_s hf
    exact kRi hx hb hr hlocks hP hK hD hS rfl dX10_stateLoops_26
  · replace hf := kt_n hf c_4
    refine lv_aload_n hx hb dX10_stateLoops_16 rfl (lv_at hl 0 rfl) ?_
    refine lv_iload_n hx hb dX10_stateLoops_17 rfl (lv_at hl 1 rfl) ?_
    obtain ⟨r_3, o_label_3, hc_3, hf⟩ := bnd2_s hf
    refine kcVi (As := [.int v1]) (rest := []) (w2 := [(a_this, .inr (7, [.ref a_now, .ref a_history, .int i_saved, .ref a_kept, .ref a_isKept, .ref a_text, .int i_length, .int i_next, .ref a_read, .ref a_uses, .ref a_entry, .ref a_passed, .ref a_draft, .ref a_label, .ref a_met, .ref a_bracket, .ref a_matrix])), (a_now, .inl (cyI, 34, .inl f_now)), (a_label, .inl (cyI, 17, .inl o_label_3))]) S hK hP hD hS hA hN (mX10_loops l D cyI cyZ H.size a_this a_now a_history a_kept a_isKept a_text a_read a_uses a_entry a_passed a_draft a_label a_met a_bracket a_matrix v1 i_saved i_length i_next f_now f_label r_3 o_label_3 hc_3) (cwV 1 hts gX10_stateLoops_X10_loops rfl rfl rfl (by decide +kernel) ⟨Nat.le_of_ble_eq_true rfl, Nat.le_of_ble_eq_true rfl⟩) 7 0 rfl rfl [0, 1, 2] [] [0, 1, 2] rfl rfl rfl rfl (by decide) rfl rfl hl.1 (Nat.le_of_ble_eq_true rfl) dX10_stateLoops_18 ⟨Nat.le_of_ble_eq_true rfl, Nat.le_of_ble_eq_true rfl⟩ (fun H locs hP hD hS => ?_)
    refine lv_goto (tgt := 26) hx hb dX10_stateLoops_21 (by decide) ?_
    obtain ⟨rfl, rfl⟩ := some2_s hf
    exact kRi hx hb hr hlocks hP hK hD hS rfl dX10_stateLoops_26
def kX10_coefficient (v1 : Int32) (f_now : Nat → Int32) (f_label : Nat → Int32) (f_bracket : Nat → Int32) : Option (Int32 × (Nat → Int32) × (Nat → Int32)) :=
  bnd1 (kX10_isExponent v1) (fun r_1 => if r_1 = 0 then some ((-1000001), f_label, f_bracket) else bnd2 (kX10_findBracket f_now f_label f_bracket) (fun o_label_2 o_bracket_2 => ck (60 + v1) 121 (some ((o_bracket_2 (60 + v1).toNatClampNeg), o_label_2, o_bracket_2))))
def rmX10_coefficient : Room := { frames := 5, cells := 0, slots := 0, locals := 115 }
theorem qX10_coefficient_0 : (.fieldLink RX10 47 "KnotDiagramModel" "bracket" "[I" : Cond) ∈ wsX10_coefficient := by decide +kernel
theorem qX10_coefficient_1 : (.constant RX10 68 (-1000001) : Cond) ∈ wsX10_coefficient := by decide +kernel
theorem qX10_coefficient_X10 : ∀ w ∈ wsX100, w ∈ wsX10_coefficient := by decide +kernel
set_option maxHeartbeats 4000000 in
set_option maxRecDepth 100000 in
theorem mX10_coefficient (l : Launch) (D : va_G) (cyI cyZ : ClassId) (sz : Nat) (a_this a_now a_history a_kept a_isKept a_text a_read a_uses a_entry a_passed a_draft a_label a_met a_bracket a_matrix : Nat) (v1 : Int32) (i_saved : Int32) (i_length : Int32) (i_next : Int32) (f_now : Nat → Int32) (f_label : Nat → Int32) (f_bracket : Nat → Int32) (r : Int32) (o_label : Nat → Int32) (o_bracket : Nat → Int32) (hf : kX10_coefficient v1 f_now f_label f_bracket = some (r, o_label, o_bracket)) : Met l yX10_coefficient wsX10_coefficient rmX10_coefficient (kPre D cyI cyZ [.ref a_this, .int v1] [(a_this, .inr (7, [.ref a_now, .ref a_history, .int i_saved, .ref a_kept, .ref a_isKept, .ref a_text, .int i_length, .int i_next, .ref a_read, .ref a_uses, .ref a_entry, .ref a_passed, .ref a_draft, .ref a_label, .ref a_met, .ref a_bracket, .ref a_matrix])), (a_now, .inl (cyI, 34, .inl f_now)), (a_label, .inl (cyI, 17, .inl f_label)), (a_bracket, .inl (cyI, 121, .inl f_bracket))] sz) (kQi D cyI cyZ (va_A [(a_this, .inr (7, [.ref a_now, .ref a_history, .int i_saved, .ref a_kept, .ref a_isKept, .ref a_text, .int i_length, .int i_next, .ref a_read, .ref a_uses, .ref a_entry, .ref a_passed, .ref a_draft, .ref a_label, .ref a_met, .ref a_bracket, .ref a_matrix])), (a_now, .inl (cyI, 34, .inl f_now)), (a_label, .inl (cyI, 17, .inl f_label)), (a_bracket, .inl (cyI, 121, .inl f_bracket))] sz) [(a_this, .inr (7, [.ref a_now, .ref a_history, .int i_saved, .ref a_kept, .ref a_isKept, .ref a_text, .int i_length, .int i_next, .ref a_read, .ref a_uses, .ref a_entry, .ref a_passed, .ref a_draft, .ref a_label, .ref a_met, .ref a_bracket, .ref a_matrix])), (a_now, .inl (cyI, 34, .inl f_now)), (a_label, .inl (cyI, 17, .inl o_label)), (a_bracket, .inl (cyI, 121, .inl o_bracket))] r) 0 0 (va_A [(a_this, .inr (7, [.ref a_now, .ref a_history, .int i_saved, .ref a_kept, .ref a_isKept, .ref a_text, .int i_length, .int i_next, .ref a_read, .ref a_uses, .ref a_entry, .ref a_passed, .ref a_draft, .ref a_label, .ref a_met, .ref a_bracket, .ref a_matrix])), (a_now, .inl (cyI, 34, .inl f_now)), (a_label, .inl (cyI, 17, .inl f_label)), (a_bracket, .inl (cyI, 121, .inl f_bracket))] sz) := by
  refine Met.ofW (cc := cX10_coefficient) (maxL := 2) (ret := (some .int)) (by decide) rfl ?_
  intro p e s m args below meth c s₁ B hml hv
  obtain ⟨rfl, hsz, hP, hK, hD0, hN⟩ := hv
  have hx := B.exec
  have hb := B.bytes
  have hr := B.returns
  have hts := atoms_spec (ws := wsX10_coefficient) B.pre
  have hown : s.vm.findClass RX10 = some m.cls := findClass_of_methodNamed B.named
  have hlocks := B.notSynchronized
  subst hsz
  have hD := hD0.self (sz := s.heap.size)
  generalize hAe : va_A [(a_this, .inr (7, [.ref a_now, .ref a_history, .int i_saved, .ref a_kept, .ref a_isKept, .ref a_text, .int i_length, .int i_next, .ref a_read, .ref a_uses, .ref a_entry, .ref a_passed, .ref a_draft, .ref a_label, .ref a_met, .ref a_bracket, .ref a_matrix])), (a_now, .inl (cyI, 34, .inl f_now)), (a_label, .inl (cyI, 17, .inl f_label)), (a_bracket, .inl (cyI, 121, .inl f_bracket))] s.heap.size = A at hD ⊢
  have hA : ∀ q : Nat, s.heap.size ≤ q → A q := fun q h => by rw [← hAe]; exact Or.inr h
  clear hAe hD0
  have hS : va_S A s.heap s.heap [] := va_S.rf
  have S : CallFix p m c cX10_coefficient 2 s (([.ref a_this, .int v1] : List Value).toArray) wsX10_coefficient RX10 := ⟨hx, hb, hml, hown, hts⟩
  have hl := lv_entry ([.ref a_this, .int v1]) (n := 2) (Nat.le_of_ble_eq_true rfl)
  rw [lg_entry_eq]
  generalize (lg_sl ([.ref a_this, .int v1]) ++ List.replicate (2 - (lg_sl ([.ref a_this, .int v1])).length) Slot.unset).toArray = ls at hl ⊢
  replace hl : lv_has ls 2 [(0, .ref a_this), (1, .int v1)] := hl
  generalize ([] : List Loc) = locs at hS ⊢
  delta kX10_coefficient at hf
  obtain ⟨H, hH⟩ : ∃ H, H = s.heap := ⟨_, rfl⟩
  have hS : va_S A s.heap H locs := by rw [hH]; exact hS
  have hP : va_P D vwCl [(a_this, .inr (7, [.ref a_now, .ref a_history, .int i_saved, .ref a_kept, .ref a_isKept, .ref a_text, .int i_length, .int i_next, .ref a_read, .ref a_uses, .ref a_entry, .ref a_passed, .ref a_draft, .ref a_label, .ref a_met, .ref a_bracket, .ref a_matrix])), (a_now, .inl (cyI, 34, .inl f_now)), (a_label, .inl (cyI, 17, .inl f_label)), (a_bracket, .inl (cyI, 121, .inl f_bracket))] H := by rw [hH]; exact hP
  suffices hgo : W p l e (headSpec wsX10_coefficient rmX10_coefficient).room s m (([.ref a_this, .int v1] : List Value).toArray) below meth c H locs 0 0 (MQ below (kQi D cyI cyZ A [(a_this, .inr (7, [.ref a_now, .ref a_history, .int i_saved, .ref a_kept, .ref a_isKept, .ref a_text, .int i_length, .int i_next, .ref a_read, .ref a_uses, .ref a_entry, .ref a_passed, .ref a_draft, .ref a_label, .ref a_met, .ref a_bracket, .ref a_matrix])), (a_now, .inl (cyI, 34, .inl f_now)), (a_label, .inl (cyI, 17, .inl o_label)), (a_bracket, .inl (cyI, 121, .inl o_bracket))] r) (([.ref a_this, .int v1] : List Value).toArray) s 0 0 A) (F0 m 0 ls []) by rw [hH] at hgo; exact hgo
  clear hH
  refine lv_iload_n hx hb dX10_coefficient_0 rfl (lv_at hl 1 rfl) ?_
  obtain ⟨r_1, hc_1, hf⟩ := bnd1_s hf
  refine kcSi (As := [.int v1]) (rest := []) (w2 := [(a_this, .inr (7, [.ref a_now, .ref a_history, .int i_saved, .ref a_kept, .ref a_isKept, .ref a_text, .int i_length, .int i_next, .ref a_read, .ref a_uses, .ref a_entry, .ref a_passed, .ref a_draft, .ref a_label, .ref a_met, .ref a_bracket, .ref a_matrix])), (a_now, .inl (cyI, 34, .inl f_now)), (a_label, .inl (cyI, 17, .inl f_label)), (a_bracket, .inl (cyI, 121, .inl f_bracket))]) S hK hP hD hS hA hN (mX10_isExponent l D cyI cyZ H.size v1 r_1 hc_1) (va_cwS 1 hts gX10_coefficient_X10_isExponent rfl rfl rfl (by decide +kernel) ⟨Nat.le_of_ble_eq_true rfl, Nat.le_of_ble_eq_true rfl⟩) [] [0, 1, 2, 3] [0, 1, 2, 3] rfl rfl rfl rfl (by decide) rfl rfl hl.1 (Nat.le_of_ble_eq_true rfl) dX10_coefficient_1 ⟨Nat.le_of_ble_eq_true rfl, Nat.le_of_ble_eq_true rfl⟩ (fun H locs hP hD hS => ?_)
  refine lv_if_ne (tgt := 10) hx hb dX10_coefficient_4 (by decide) (fun c_4 => ?_) (fun c_4 => ?_)
  · replace hf := kt_n hf c_4
    refine lv_aload_n hx hb dX10_coefficient_10 rfl (lv_at hl 0 rfl) ?_
    obtain ⟨o_label_2, o_bracket_2, hc_2, hf⟩ := bnd2_s hf
    refine kcVv (As := []) (rest := []) (w2 := [(a_this, .inr (7, [.ref a_now, .ref a_history, .int i_saved, .ref a_kept, .ref a_isKept, .ref a_text, .int i_length, .int i_next, .ref a_read, .ref a_uses, .ref a_entry, .ref a_passed, .ref a_draft, .ref a_label, .ref a_met, .ref a_bracket, .ref a_matrix])), (a_now, .inl (cyI, 34, .inl f_now)), (a_label, .inl (cyI, 17, .inl o_label_2)), (a_bracket, .inl (cyI, 121, .inl o_bracket_2))]) S hK hP hD hS hA hN (mX10_findBracket l D cyI cyZ H.size a_this a_now a_history a_kept a_isKept a_text a_read a_uses a_entry a_passed a_draft a_label a_met a_bracket a_matrix i_saved i_length i_next f_now f_label f_bracket o_label_2 o_bracket_2 hc_2) (cwV 0 hts gX10_coefficient_X10_findBracket rfl rfl rfl (by decide +kernel) ⟨Nat.le_of_ble_eq_true rfl, Nat.le_of_ble_eq_true rfl⟩) 7 0 rfl rfl [0, 1, 2, 3] [] [0, 1, 2, 3] rfl rfl rfl rfl (by decide) rfl rfl hl.1 (Nat.le_of_ble_eq_true rfl) dX10_coefficient_11 ⟨Nat.le_of_ble_eq_true rfl, Nat.le_of_ble_eq_true rfl⟩ (fun H locs hP hD hS => ?_)
    refine lv_aload_n hx hb dX10_coefficient_14 rfl (lv_at hl 0 rfl) ?_
    refine va_get (D := D) (ci := 7) (v := .ref a_bracket) (C := RX10) (T := TX10) (N := 17) hx hb hts qX10_coefficient_X10 hown hK hP 0 rfl rfl 15 (Nat.le_of_ble_eq_true rfl) (hts (.fieldLink RX10 47 "KnotDiagramModel" "bracket" "[I") qX10_coefficient_0) (fun _ h9 => h9) rfl dX10_coefficient_15 ?_
    refine lv_bipush (v := 60) hx hb dX10_coefficient_18 (by decide) ?_
    refine lv_iload_n hx hb dX10_coefficient_20 rfl (lv_at hl 1 rfl) ?_
    refine lv_iadd hx hb dX10_coefficient_21 ?_
    obtain ⟨hi_3, hf⟩ := ck_s hf
    refine va_iald hx hb hK hP 3 0 rfl rfl hi_3 dX10_coefficient_22 ?_
    obtain ⟨rfl, rfl, rfl⟩ := some3_s hf
    exact kRi hx hb hr hlocks hP hK hD hS rfl dX10_coefficient_23
  · replace hf := kt_p hf c_4
    refine lv_ldc (v := (-1000001)) hx hb hown (hts (.constant RX10 68 (-1000001)) qX10_coefficient_1) dX10_coefficient_7 ?_
    obtain ⟨rfl, rfl, rfl⟩ := some3_s hf
    exact kRi hx hb hr hlocks hP hK hD hS rfl dX10_coefficient_9
def kX10_normalizedCoefficient_J1 (r_3 : Int32) (o_entry_3 : Nat → Int32) (o_passed_3 : Nat → Int32) (o_label_2 : Nat → Int32) (o_bracket_2 : Nat → Int32) (t0_1 : Int32) : Option (Int32 × (Nat → Int32) × (Nat → Int32) × (Nat → Int32) × (Nat → Int32)) :=
  if (irem r_3 2) = 0 then some (t0_1, o_entry_3, o_passed_3, o_label_2, o_bracket_2) else some ((-t0_1), o_entry_3, o_passed_3, o_label_2, o_bracket_2)
def kX10_normalizedCoefficient (v1 : Int32) (f_now : Nat → Int32) (f_entry : Nat → Int32) (f_passed : Nat → Int32) (f_label : Nat → Int32) (f_bracket : Nat → Int32) : Option (Int32 × (Nat → Int32) × (Nat → Int32) × (Nat → Int32) × (Nat → Int32)) :=
  bnd1 (kX10_isExponent v1) (fun r_1 => if r_1 = 0 then some ((-1000001), f_entry, f_passed, f_label, f_bracket) else bnd2 (kX10_findBracket f_now f_label f_bracket) (fun o_label_2 o_bracket_2 => bnd3 (kX10_writheNow f_now f_entry f_passed) (fun r_3 o_entry_3 o_passed_3 => bnd1 (kX10_isExponent (v1 + (3 * r_3))) (fun r_4 => if r_4 = 0 then kX10_normalizedCoefficient_J1 r_3 o_entry_3 o_passed_3 o_label_2 o_bracket_2 0 else ck (60 + (v1 + (3 * r_3))) 121 (kX10_normalizedCoefficient_J1 r_3 o_entry_3 o_passed_3 o_label_2 o_bracket_2 (o_bracket_2 (60 + (v1 + (3 * r_3))).toNatClampNeg))))))
def rmX10_normalizedCoefficient : Room := { frames := 5, cells := 0, slots := 0, locals := 115 }
theorem qX10_normalizedCoefficient_0 : (.fieldLink RX10 47 "KnotDiagramModel" "bracket" "[I" : Cond) ∈ wsX10_normalizedCoefficient := by decide +kernel
theorem qX10_normalizedCoefficient_1 : (.constant RX10 68 (-1000001) : Cond) ∈ wsX10_normalizedCoefficient := by decide +kernel
theorem qX10_normalizedCoefficient_X10 : ∀ w ∈ wsX100, w ∈ wsX10_normalizedCoefficient := by decide +kernel
set_option maxHeartbeats 4000000 in
set_option maxRecDepth 100000 in
theorem mX10_normalizedCoefficient (l : Launch) (D : va_G) (cyI cyZ : ClassId) (sz : Nat) (a_this a_now a_history a_kept a_isKept a_text a_read a_uses a_entry a_passed a_draft a_label a_met a_bracket a_matrix : Nat) (v1 : Int32) (i_saved : Int32) (i_length : Int32) (i_next : Int32) (f_now : Nat → Int32) (f_entry : Nat → Int32) (f_passed : Nat → Int32) (f_label : Nat → Int32) (f_bracket : Nat → Int32) (r : Int32) (o_entry : Nat → Int32) (o_passed : Nat → Int32) (o_label : Nat → Int32) (o_bracket : Nat → Int32) (hf : kX10_normalizedCoefficient v1 f_now f_entry f_passed f_label f_bracket = some (r, o_entry, o_passed, o_label, o_bracket)) : Met l yX10_normalizedCoefficient wsX10_normalizedCoefficient rmX10_normalizedCoefficient (kPre D cyI cyZ [.ref a_this, .int v1] [(a_this, .inr (7, [.ref a_now, .ref a_history, .int i_saved, .ref a_kept, .ref a_isKept, .ref a_text, .int i_length, .int i_next, .ref a_read, .ref a_uses, .ref a_entry, .ref a_passed, .ref a_draft, .ref a_label, .ref a_met, .ref a_bracket, .ref a_matrix])), (a_now, .inl (cyI, 34, .inl f_now)), (a_entry, .inl (cyI, 16, .inl f_entry)), (a_passed, .inl (cyZ, 17, .inl f_passed)), (a_label, .inl (cyI, 17, .inl f_label)), (a_bracket, .inl (cyI, 121, .inl f_bracket))] sz) (kQi D cyI cyZ (va_A [(a_this, .inr (7, [.ref a_now, .ref a_history, .int i_saved, .ref a_kept, .ref a_isKept, .ref a_text, .int i_length, .int i_next, .ref a_read, .ref a_uses, .ref a_entry, .ref a_passed, .ref a_draft, .ref a_label, .ref a_met, .ref a_bracket, .ref a_matrix])), (a_now, .inl (cyI, 34, .inl f_now)), (a_entry, .inl (cyI, 16, .inl f_entry)), (a_passed, .inl (cyZ, 17, .inl f_passed)), (a_label, .inl (cyI, 17, .inl f_label)), (a_bracket, .inl (cyI, 121, .inl f_bracket))] sz) [(a_this, .inr (7, [.ref a_now, .ref a_history, .int i_saved, .ref a_kept, .ref a_isKept, .ref a_text, .int i_length, .int i_next, .ref a_read, .ref a_uses, .ref a_entry, .ref a_passed, .ref a_draft, .ref a_label, .ref a_met, .ref a_bracket, .ref a_matrix])), (a_now, .inl (cyI, 34, .inl f_now)), (a_entry, .inl (cyI, 16, .inl o_entry)), (a_passed, .inl (cyZ, 17, .inl o_passed)), (a_label, .inl (cyI, 17, .inl o_label)), (a_bracket, .inl (cyI, 121, .inl o_bracket))] r) 0 0 (va_A [(a_this, .inr (7, [.ref a_now, .ref a_history, .int i_saved, .ref a_kept, .ref a_isKept, .ref a_text, .int i_length, .int i_next, .ref a_read, .ref a_uses, .ref a_entry, .ref a_passed, .ref a_draft, .ref a_label, .ref a_met, .ref a_bracket, .ref a_matrix])), (a_now, .inl (cyI, 34, .inl f_now)), (a_entry, .inl (cyI, 16, .inl f_entry)), (a_passed, .inl (cyZ, 17, .inl f_passed)), (a_label, .inl (cyI, 17, .inl f_label)), (a_bracket, .inl (cyI, 121, .inl f_bracket))] sz) := by
  refine Met.ofW (cc := cX10_normalizedCoefficient) (maxL := 5) (ret := (some .int)) (by decide) rfl ?_
  intro p e s m args below meth c s₁ B hml hv
  obtain ⟨rfl, hsz, hP, hK, hD0, hN⟩ := hv
  have hx := B.exec
  have hb := B.bytes
  have hr := B.returns
  have hts := atoms_spec (ws := wsX10_normalizedCoefficient) B.pre
  have hown : s.vm.findClass RX10 = some m.cls := findClass_of_methodNamed B.named
  have hlocks := B.notSynchronized
  subst hsz
  have hD := hD0.self (sz := s.heap.size)
  generalize hAe : va_A [(a_this, .inr (7, [.ref a_now, .ref a_history, .int i_saved, .ref a_kept, .ref a_isKept, .ref a_text, .int i_length, .int i_next, .ref a_read, .ref a_uses, .ref a_entry, .ref a_passed, .ref a_draft, .ref a_label, .ref a_met, .ref a_bracket, .ref a_matrix])), (a_now, .inl (cyI, 34, .inl f_now)), (a_entry, .inl (cyI, 16, .inl f_entry)), (a_passed, .inl (cyZ, 17, .inl f_passed)), (a_label, .inl (cyI, 17, .inl f_label)), (a_bracket, .inl (cyI, 121, .inl f_bracket))] s.heap.size = A at hD ⊢
  have hA : ∀ q : Nat, s.heap.size ≤ q → A q := fun q h => by rw [← hAe]; exact Or.inr h
  clear hAe hD0
  have hS : va_S A s.heap s.heap [] := va_S.rf
  have S : CallFix p m c cX10_normalizedCoefficient 5 s (([.ref a_this, .int v1] : List Value).toArray) wsX10_normalizedCoefficient RX10 := ⟨hx, hb, hml, hown, hts⟩
  have hl := lv_entry ([.ref a_this, .int v1]) (n := 5) (Nat.le_of_ble_eq_true rfl)
  rw [lg_entry_eq]
  generalize (lg_sl ([.ref a_this, .int v1]) ++ List.replicate (5 - (lg_sl ([.ref a_this, .int v1])).length) Slot.unset).toArray = ls at hl ⊢
  replace hl : lv_has ls 5 [(0, .ref a_this), (1, .int v1)] := hl
  generalize ([] : List Loc) = locs at hS ⊢
  delta kX10_normalizedCoefficient at hf
  obtain ⟨H, hH⟩ : ∃ H, H = s.heap := ⟨_, rfl⟩
  have hS : va_S A s.heap H locs := by rw [hH]; exact hS
  have hP : va_P D vwCl [(a_this, .inr (7, [.ref a_now, .ref a_history, .int i_saved, .ref a_kept, .ref a_isKept, .ref a_text, .int i_length, .int i_next, .ref a_read, .ref a_uses, .ref a_entry, .ref a_passed, .ref a_draft, .ref a_label, .ref a_met, .ref a_bracket, .ref a_matrix])), (a_now, .inl (cyI, 34, .inl f_now)), (a_entry, .inl (cyI, 16, .inl f_entry)), (a_passed, .inl (cyZ, 17, .inl f_passed)), (a_label, .inl (cyI, 17, .inl f_label)), (a_bracket, .inl (cyI, 121, .inl f_bracket))] H := by rw [hH]; exact hP
  suffices hgo : W p l e (headSpec wsX10_normalizedCoefficient rmX10_normalizedCoefficient).room s m (([.ref a_this, .int v1] : List Value).toArray) below meth c H locs 0 0 (MQ below (kQi D cyI cyZ A [(a_this, .inr (7, [.ref a_now, .ref a_history, .int i_saved, .ref a_kept, .ref a_isKept, .ref a_text, .int i_length, .int i_next, .ref a_read, .ref a_uses, .ref a_entry, .ref a_passed, .ref a_draft, .ref a_label, .ref a_met, .ref a_bracket, .ref a_matrix])), (a_now, .inl (cyI, 34, .inl f_now)), (a_entry, .inl (cyI, 16, .inl o_entry)), (a_passed, .inl (cyZ, 17, .inl o_passed)), (a_label, .inl (cyI, 17, .inl o_label)), (a_bracket, .inl (cyI, 121, .inl o_bracket))] r) (([.ref a_this, .int v1] : List Value).toArray) s 0 0 A) (F0 m 0 ls []) by rw [hH] at hgo; exact hgo
  clear hH
  refine lv_iload_n hx hb dX10_normalizedCoefficient_0 rfl (lv_at hl 1 rfl) ?_
  obtain ⟨r_1, hc_1, hf⟩ := bnd1_s hf
  refine kcSi (As := [.int v1]) (rest := []) (w2 := [(a_this, .inr (7, [.ref a_now, .ref a_history, .int i_saved, .ref a_kept, .ref a_isKept, .ref a_text, .int i_length, .int i_next, .ref a_read, .ref a_uses, .ref a_entry, .ref a_passed, .ref a_draft, .ref a_label, .ref a_met, .ref a_bracket, .ref a_matrix])), (a_now, .inl (cyI, 34, .inl f_now)), (a_entry, .inl (cyI, 16, .inl f_entry)), (a_passed, .inl (cyZ, 17, .inl f_passed)), (a_label, .inl (cyI, 17, .inl f_label)), (a_bracket, .inl (cyI, 121, .inl f_bracket))]) S hK hP hD hS hA hN (mX10_isExponent l D cyI cyZ H.size v1 r_1 hc_1) (va_cwS 1 hts gX10_normalizedCoefficient_X10_isExponent rfl rfl rfl (by decide +kernel) ⟨Nat.le_of_ble_eq_true rfl, Nat.le_of_ble_eq_true rfl⟩) [] [0, 1, 2, 3, 4, 5] [0, 1, 2, 3, 4, 5] rfl rfl rfl rfl (by decide) rfl rfl hl.1 (Nat.le_of_ble_eq_true rfl) dX10_normalizedCoefficient_1 ⟨Nat.le_of_ble_eq_true rfl, Nat.le_of_ble_eq_true rfl⟩ (fun H locs hP hD hS => ?_)
  refine lv_if_ne (tgt := 10) hx hb dX10_normalizedCoefficient_4 (by decide) (fun c_8 => ?_) (fun c_8 => ?_)
  · replace hf := kt_n hf c_8
    refine lv_aload_n hx hb dX10_normalizedCoefficient_10 rfl (lv_at hl 0 rfl) ?_
    obtain ⟨o_label_2, o_bracket_2, hc_2, hf⟩ := bnd2_s hf
    refine kcVv (As := []) (rest := []) (w2 := [(a_this, .inr (7, [.ref a_now, .ref a_history, .int i_saved, .ref a_kept, .ref a_isKept, .ref a_text, .int i_length, .int i_next, .ref a_read, .ref a_uses, .ref a_entry, .ref a_passed, .ref a_draft, .ref a_label, .ref a_met, .ref a_bracket, .ref a_matrix])), (a_now, .inl (cyI, 34, .inl f_now)), (a_entry, .inl (cyI, 16, .inl f_entry)), (a_passed, .inl (cyZ, 17, .inl f_passed)), (a_label, .inl (cyI, 17, .inl o_label_2)), (a_bracket, .inl (cyI, 121, .inl o_bracket_2))]) S hK hP hD hS hA hN (mX10_findBracket l D cyI cyZ H.size a_this a_now a_history a_kept a_isKept a_text a_read a_uses a_entry a_passed a_draft a_label a_met a_bracket a_matrix i_saved i_length i_next f_now f_label f_bracket o_label_2 o_bracket_2 hc_2) (cwV 0 hts gX10_normalizedCoefficient_X10_findBracket rfl rfl rfl (by decide +kernel) ⟨Nat.le_of_ble_eq_true rfl, Nat.le_of_ble_eq_true rfl⟩) 7 0 rfl rfl [0, 1, 4, 5] [2, 3] [2, 3, 0, 1, 4, 5] rfl rfl rfl rfl (by decide) rfl rfl hl.1 (Nat.le_of_ble_eq_true rfl) dX10_normalizedCoefficient_11 ⟨Nat.le_of_ble_eq_true rfl, Nat.le_of_ble_eq_true rfl⟩ (fun H locs hP hD hS => ?_)
    refine lv_aload_n hx hb dX10_normalizedCoefficient_14 rfl (lv_at hl 0 rfl) ?_
    obtain ⟨r_3, o_entry_3, o_passed_3, hc_3, hf⟩ := bnd3_s hf
    refine kcVi (As := []) (rest := []) (w2 := [(a_this, .inr (7, [.ref a_now, .ref a_history, .int i_saved, .ref a_kept, .ref a_isKept, .ref a_text, .int i_length, .int i_next, .ref a_read, .ref a_uses, .ref a_entry, .ref a_passed, .ref a_draft, .ref a_label, .ref a_met, .ref a_bracket, .ref a_matrix])), (a_now, .inl (cyI, 34, .inl f_now)), (a_entry, .inl (cyI, 16, .inl o_entry_3)), (a_passed, .inl (cyZ, 17, .inl o_passed_3)), (a_label, .inl (cyI, 17, .inl o_label_2)), (a_bracket, .inl (cyI, 121, .inl o_bracket_2))]) S hK hP hD hS hA hN (mX10_writheNow l D cyI cyZ H.size a_this a_now a_history a_kept a_isKept a_text a_read a_uses a_entry a_passed a_draft a_label a_met a_bracket a_matrix i_saved i_length i_next f_now f_entry f_passed r_3 o_entry_3 o_passed_3 hc_3) (cwV 0 hts gX10_normalizedCoefficient_X10_writheNow rfl rfl rfl (by decide +kernel) ⟨Nat.le_of_ble_eq_true rfl, Nat.le_of_ble_eq_true rfl⟩) 7 0 rfl rfl [0, 1, 2, 3] [4, 5] [2, 3, 4, 5, 0, 1] rfl rfl rfl rfl (by decide) rfl rfl hl.1 (Nat.le_of_ble_eq_true rfl) dX10_normalizedCoefficient_15 ⟨Nat.le_of_ble_eq_true rfl, Nat.le_of_ble_eq_true rfl⟩ (fun H locs hP hD hS => ?_)
    refine lv_istore_n (lv' := [(2, .int r_3), (0, .ref a_this), (1, .int v1)]) hx hb dX10_normalizedCoefficient_18 rfl hl (by decide) rfl (fun ls hl => ?_)
    refine lv_iload_n hx hb dX10_normalizedCoefficient_19 rfl (lv_at hl 2 rfl) ?_
    refine lv_iconst (v := 3) hx hb dX10_normalizedCoefficient_20 (by decide) ?_
    refine lv_iload_n hx hb dX10_normalizedCoefficient_21 rfl (lv_at hl 0 rfl) ?_
    refine lv_imul hx hb dX10_normalizedCoefficient_22 ?_
    refine lv_iadd hx hb dX10_normalizedCoefficient_23 ?_
    refine lv_istore_n (lv' := [(3, .int (v1 + (3 * r_3))), (2, .int r_3), (0, .ref a_this), (1, .int v1)]) hx hb dX10_normalizedCoefficient_24 rfl hl (by decide) rfl (fun ls hl => ?_)
    refine lv_iload_n hx hb dX10_normalizedCoefficient_25 rfl (lv_at hl 0 rfl) ?_
    obtain ⟨r_4, hc_4, hf⟩ := bnd1_s hf
    refine kcSi (As := [.int (v1 + (3 * r_3))]) (rest := []) (w2 := [(a_this, .inr (7, [.ref a_now, .ref a_history, .int i_saved, .ref a_kept, .ref a_isKept, .ref a_text, .int i_length, .int i_next, .ref a_read, .ref a_uses, .ref a_entry, .ref a_passed, .ref a_draft, .ref a_label, .ref a_met, .ref a_bracket, .ref a_matrix])), (a_now, .inl (cyI, 34, .inl f_now)), (a_entry, .inl (cyI, 16, .inl o_entry_3)), (a_passed, .inl (cyZ, 17, .inl o_passed_3)), (a_label, .inl (cyI, 17, .inl o_label_2)), (a_bracket, .inl (cyI, 121, .inl o_bracket_2))]) S hK hP hD hS hA hN (mX10_isExponent l D cyI cyZ H.size (v1 + (3 * r_3)) r_4 hc_4) (va_cwS 1 hts gX10_normalizedCoefficient_X10_isExponent rfl rfl rfl (by decide +kernel) ⟨Nat.le_of_ble_eq_true rfl, Nat.le_of_ble_eq_true rfl⟩) [] [0, 1, 2, 3, 4, 5] [0, 1, 2, 3, 4, 5] rfl rfl rfl rfl (by decide) rfl rfl hl.1 (Nat.le_of_ble_eq_true rfl) dX10_normalizedCoefficient_26 ⟨Nat.le_of_ble_eq_true rfl, Nat.le_of_ble_eq_true rfl⟩ (fun H locs hP hD hS => ?_)
    have hJ_1 : ∀ (t0_1 : Int32) (H : Heap) (locs : List Loc) (ls : Array Slot), kX10_normalizedCoefficient_J1 r_3 o_entry_3 o_passed_3 o_label_2 o_bracket_2 t0_1 = some (r, o_entry, o_passed, o_label, o_bracket) → va_P D vwCl [(a_this, .inr (7, [.ref a_now, .ref a_history, .int i_saved, .ref a_kept, .ref a_isKept, .ref a_text, .int i_length, .int i_next, .ref a_read, .ref a_uses, .ref a_entry, .ref a_passed, .ref a_draft, .ref a_label, .ref a_met, .ref a_bracket, .ref a_matrix])), (a_now, .inl (cyI, 34, .inl f_now)), (a_entry, .inl (cyI, 16, .inl o_entry_3)), (a_passed, .inl (cyZ, 17, .inl o_passed_3)), (a_label, .inl (cyI, 17, .inl o_label_2)), (a_bracket, .inl (cyI, 121, .inl o_bracket_2))] H → va_D A [(a_this, .inr (7, [.ref a_now, .ref a_history, .int i_saved, .ref a_kept, .ref a_isKept, .ref a_text, .int i_length, .int i_next, .ref a_read, .ref a_uses, .ref a_entry, .ref a_passed, .ref a_draft, .ref a_label, .ref a_met, .ref a_bracket, .ref a_matrix])), (a_now, .inl (cyI, 34, .inl f_now)), (a_entry, .inl (cyI, 16, .inl o_entry_3)), (a_passed, .inl (cyZ, 17, .inl o_passed_3)), (a_label, .inl (cyI, 17, .inl o_label_2)), (a_bracket, .inl (cyI, 121, .inl o_bracket_2))] → va_S A s.heap H locs → lv_has ls 5 [(2, .int r_3)] → W p l e (headSpec wsX10_normalizedCoefficient rmX10_normalizedCoefficient).room s m (([.ref a_this, .int v1] : List Value).toArray) below meth c H locs 0 0 (MQ below (kQi D cyI cyZ A [(a_this, .inr (7, [.ref a_now, .ref a_history, .int i_saved, .ref a_kept, .ref a_isKept, .ref a_text, .int i_length, .int i_next, .ref a_read, .ref a_uses, .ref a_entry, .ref a_passed, .ref a_draft, .ref a_label, .ref a_met, .ref a_bracket, .ref a_matrix])), (a_now, .inl (cyI, 34, .inl f_now)), (a_entry, .inl (cyI, 16, .inl o_entry)), (a_passed, .inl (cyZ, 17, .inl o_passed)), (a_label, .inl (cyI, 17, .inl o_label)), (a_bracket, .inl (cyI, 121, .inl o_bracket))] r) (([.ref a_this, .int v1] : List Value).toArray) s 0 0 A) (F0 m 45 ls [.int t0_1]) := by
      intro t0_1 H locs ls hf hP hD hS hl
      delta kX10_normalizedCoefficient_J1 at hf
      refine lv_istore (lv' := [(4, .int t0_1), (2, .int r_3)]) hx hb dX10_normalizedCoefficient_45 hl (by decide) rfl (fun ls hl => ?_)
      refine lv_iload_n hx hb dX10_normalizedCoefficient_47 rfl (lv_at hl 1 rfl) ?_
      refine lv_iconst (v := 2) hx hb dX10_normalizedCoefficient_48 (by decide) ?_
      refine k_irem hx hb dX10_normalizedCoefficient_49 (by decide) ?_
      refine lv_if_ne (tgt := 58) hx hb dX10_normalizedCoefficient_50 (by decide) (fun c_5 => ?_) (fun c_5 => ?_)
      · replace hf := kt_n hf c_5
        refine lv_iload hx hb dX10_normalizedCoefficient_58 (lv_at hl 0 rfl) ?_
        refine lv_ineg hx hb dX10_normalizedCoefficient_60 ?_
        obtain ⟨rfl, rfl, rfl, rfl, rfl⟩ := some5_s hf
        exact kRi hx hb hr hlocks hP hK hD hS rfl dX10_normalizedCoefficient_61
      · replace hf := kt_p hf c_5
        refine lv_iload hx hb dX10_normalizedCoefficient_53 (lv_at hl 0 rfl) ?_
        refine lv_goto (tgt := 61) hx hb dX10_normalizedCoefficient_55 (by decide) ?_
        obtain ⟨rfl, rfl, rfl, rfl, rfl⟩ := some5_s hf
        exact kRi hx hb hr hlocks hP hK hD hS rfl dX10_normalizedCoefficient_61
    refine lv_if_eq (tgt := 44) hx hb dX10_normalizedCoefficient_29 (by decide) (fun c_7 => ?_) (fun c_7 => ?_)
    · replace hf := kt_p hf c_7
      refine lv_iconst (v := 0) hx hb dX10_normalizedCoefficient_44 (by decide) ?_
      exact hJ_1 0 H locs ls hf hP hD hS (lv_sub hl [1] rfl)
    · replace hf := kt_n hf c_7
      refine lv_aload_n hx hb dX10_normalizedCoefficient_32 rfl (lv_at hl 2 rfl) ?_
      refine va_get (D := D) (ci := 7) (v := .ref a_bracket) (C := RX10) (T := TX10) (N := 17) hx hb hts qX10_normalizedCoefficient_X10 hown hK hP 0 rfl rfl 15 (Nat.le_of_ble_eq_true rfl) (hts (.fieldLink RX10 47 "KnotDiagramModel" "bracket" "[I") qX10_normalizedCoefficient_0) (fun _ h9 => h9) rfl dX10_normalizedCoefficient_33 ?_
      refine lv_bipush (v := 60) hx hb dX10_normalizedCoefficient_36 (by decide) ?_
      refine lv_iload_n hx hb dX10_normalizedCoefficient_38 rfl (lv_at hl 0 rfl) ?_
      refine lv_iadd hx hb dX10_normalizedCoefficient_39 ?_
      obtain ⟨hi_6, hf⟩ := ck_s hf
      refine va_iald hx hb hK hP 5 0 rfl rfl hi_6 dX10_normalizedCoefficient_40 ?_
      refine lv_goto (tgt := 45) hx hb dX10_normalizedCoefficient_41 (by decide) ?_
      exact hJ_1 (o_bracket_2 (60 + (v1 + (3 * r_3))).toNatClampNeg) H locs ls hf hP hD hS (lv_sub hl [1] rfl)
  · replace hf := kt_p hf c_8
    refine lv_ldc (v := (-1000001)) hx hb hown (hts (.constant RX10 68 (-1000001)) qX10_normalizedCoefficient_1) dX10_normalizedCoefficient_7 ?_
    obtain ⟨rfl, rfl, rfl, rfl, rfl⟩ := some5_s hf
    exact kRi hx hb hr hlocks hP hK hD hS rfl dX10_normalizedCoefficient_9
def kX10_lowest_L1 (f_bracket : Nat → Int32) (K_1 : Int32 → Int32 → Option (Int32)) (v1_1 : Int32) (v2_1 : Int32) : Option (Int32) :=
  if v2_1 < 0 then some v1_1 else ck v2_1 121 (if (f_bracket v2_1.toNatClampNeg) = 0 then K_1 v1_1 (v2_1 + (-1)) else K_1 (v2_1 - 60) (v2_1 + (-1)))
def kX10_lowest (f_bracket : Nat → Int32) : Option (Int32) :=
  it2 (kX10_lowest_L1 f_bracket) 400 (-1000009) 120
def rmX10_lowest : Room := { frames := 0, cells := 0, slots := 0, locals := 0 }
theorem qX10_lowest_0 : (.constant RX10 153 (-1000009) : Cond) ∈ wsX10_lowest := by decide +kernel
theorem qX10_lowest_1 : (.fieldLink RX10 47 "KnotDiagramModel" "bracket" "[I" : Cond) ∈ wsX10_lowest := by decide +kernel
theorem qX10_lowest_X10 : ∀ w ∈ wsX100, w ∈ wsX10_lowest := by decide +kernel
set_option maxHeartbeats 4000000 in
set_option maxRecDepth 100000 in
theorem mX10_lowest (l : Launch) (D : va_G) (cyI cyZ : ClassId) (sz : Nat) (a_this a_now a_history a_kept a_isKept a_text a_read a_uses a_entry a_passed a_draft a_label a_met a_bracket a_matrix : Nat) (i_saved : Int32) (i_length : Int32) (i_next : Int32) (f_bracket : Nat → Int32) (r : Int32) (hf : kX10_lowest f_bracket = some r) : Met l yX10_lowest wsX10_lowest rmX10_lowest (kPre D cyI cyZ [.ref a_this] [(a_this, .inr (7, [.ref a_now, .ref a_history, .int i_saved, .ref a_kept, .ref a_isKept, .ref a_text, .int i_length, .int i_next, .ref a_read, .ref a_uses, .ref a_entry, .ref a_passed, .ref a_draft, .ref a_label, .ref a_met, .ref a_bracket, .ref a_matrix])), (a_bracket, .inl (cyI, 121, .inl f_bracket))] sz) (kQi D cyI cyZ (va_A [(a_this, .inr (7, [.ref a_now, .ref a_history, .int i_saved, .ref a_kept, .ref a_isKept, .ref a_text, .int i_length, .int i_next, .ref a_read, .ref a_uses, .ref a_entry, .ref a_passed, .ref a_draft, .ref a_label, .ref a_met, .ref a_bracket, .ref a_matrix])), (a_bracket, .inl (cyI, 121, .inl f_bracket))] sz) [(a_this, .inr (7, [.ref a_now, .ref a_history, .int i_saved, .ref a_kept, .ref a_isKept, .ref a_text, .int i_length, .int i_next, .ref a_read, .ref a_uses, .ref a_entry, .ref a_passed, .ref a_draft, .ref a_label, .ref a_met, .ref a_bracket, .ref a_matrix])), (a_bracket, .inl (cyI, 121, .inl f_bracket))] r) 0 0 (va_A [(a_this, .inr (7, [.ref a_now, .ref a_history, .int i_saved, .ref a_kept, .ref a_isKept, .ref a_text, .int i_length, .int i_next, .ref a_read, .ref a_uses, .ref a_entry, .ref a_passed, .ref a_draft, .ref a_label, .ref a_met, .ref a_bracket, .ref a_matrix])), (a_bracket, .inl (cyI, 121, .inl f_bracket))] sz) := by
  refine Met.ofW (cc := cX10_lowest) (maxL := 3) (ret := (some .int)) (by decide) rfl ?_
  intro p e s m args below meth c s₁ B hml hv
  obtain ⟨rfl, hsz, hP, hK, hD0, hN⟩ := hv
  have hx := B.exec
  have hb := B.bytes
  have hr := B.returns
  have hts := atoms_spec (ws := wsX10_lowest) B.pre
  have hown : s.vm.findClass RX10 = some m.cls := findClass_of_methodNamed B.named
  have hlocks := B.notSynchronized
  subst hsz
  have hD := hD0.self (sz := s.heap.size)
  generalize hAe : va_A [(a_this, .inr (7, [.ref a_now, .ref a_history, .int i_saved, .ref a_kept, .ref a_isKept, .ref a_text, .int i_length, .int i_next, .ref a_read, .ref a_uses, .ref a_entry, .ref a_passed, .ref a_draft, .ref a_label, .ref a_met, .ref a_bracket, .ref a_matrix])), (a_bracket, .inl (cyI, 121, .inl f_bracket))] s.heap.size = A at hD ⊢
  have hA : ∀ q : Nat, s.heap.size ≤ q → A q := fun q h => by rw [← hAe]; exact Or.inr h
  clear hAe hD0
  have hS : va_S A s.heap s.heap [] := va_S.rf
  have S : CallFix p m c cX10_lowest 3 s (([.ref a_this] : List Value).toArray) wsX10_lowest RX10 := ⟨hx, hb, hml, hown, hts⟩
  have hl := lv_entry ([.ref a_this]) (n := 3) (Nat.le_of_ble_eq_true rfl)
  rw [lg_entry_eq]
  generalize (lg_sl ([.ref a_this]) ++ List.replicate (3 - (lg_sl ([.ref a_this])).length) Slot.unset).toArray = ls at hl ⊢
  replace hl : lv_has ls 3 [(0, .ref a_this)] := hl
  generalize ([] : List Loc) = locs at hS ⊢
  delta kX10_lowest at hf
  obtain ⟨H, hH⟩ : ∃ H, H = s.heap := ⟨_, rfl⟩
  have hS : va_S A s.heap H locs := by rw [hH]; exact hS
  have hP : va_P D vwCl [(a_this, .inr (7, [.ref a_now, .ref a_history, .int i_saved, .ref a_kept, .ref a_isKept, .ref a_text, .int i_length, .int i_next, .ref a_read, .ref a_uses, .ref a_entry, .ref a_passed, .ref a_draft, .ref a_label, .ref a_met, .ref a_bracket, .ref a_matrix])), (a_bracket, .inl (cyI, 121, .inl f_bracket))] H := by rw [hH]; exact hP
  suffices hgo : W p l e (headSpec wsX10_lowest rmX10_lowest).room s m (([.ref a_this] : List Value).toArray) below meth c H locs 0 0 (MQ below (kQi D cyI cyZ A [(a_this, .inr (7, [.ref a_now, .ref a_history, .int i_saved, .ref a_kept, .ref a_isKept, .ref a_text, .int i_length, .int i_next, .ref a_read, .ref a_uses, .ref a_entry, .ref a_passed, .ref a_draft, .ref a_label, .ref a_met, .ref a_bracket, .ref a_matrix])), (a_bracket, .inl (cyI, 121, .inl f_bracket))] r) (([.ref a_this] : List Value).toArray) s 0 0 A) (F0 m 0 ls []) by rw [hH] at hgo; exact hgo
  clear hH
  refine lv_ldc (v := (-1000009)) hx hb hown (hts (.constant RX10 153 (-1000009)) qX10_lowest_0) dX10_lowest_0 ?_
  refine lv_istore_n (lv' := [(1, .int (-1000009)), (0, .ref a_this)]) hx hb dX10_lowest_2 rfl hl (by decide) rfl (fun ls hl => ?_)
  refine lv_bipush (v := 120) hx hb dX10_lowest_3 (by decide) ?_
  refine lv_istore_n (lv' := [(2, .int 120), (1, .int (-1000009)), (0, .ref a_this)]) hx hb dX10_lowest_5 rfl hl (by decide) rfl (fun ls hl => ?_)
  have hL_1 : ∀ (n : Nat) (v1_1 : Int32) (v2_1 : Int32) (H : Heap) (locs : List Loc) (ls : Array Slot), it2 (kX10_lowest_L1 f_bracket) n v1_1 v2_1 = some r → va_P D vwCl [(a_this, .inr (7, [.ref a_now, .ref a_history, .int i_saved, .ref a_kept, .ref a_isKept, .ref a_text, .int i_length, .int i_next, .ref a_read, .ref a_uses, .ref a_entry, .ref a_passed, .ref a_draft, .ref a_label, .ref a_met, .ref a_bracket, .ref a_matrix])), (a_bracket, .inl (cyI, 121, .inl f_bracket))] H → va_D A [(a_this, .inr (7, [.ref a_now, .ref a_history, .int i_saved, .ref a_kept, .ref a_isKept, .ref a_text, .int i_length, .int i_next, .ref a_read, .ref a_uses, .ref a_entry, .ref a_passed, .ref a_draft, .ref a_label, .ref a_met, .ref a_bracket, .ref a_matrix])), (a_bracket, .inl (cyI, 121, .inl f_bracket))] → va_S A s.heap H locs → lv_has ls 3 [(0, .ref a_this), (1, .int v1_1), (2, .int v2_1)] → W p l e (headSpec wsX10_lowest rmX10_lowest).room s m (([.ref a_this] : List Value).toArray) below meth c H locs 0 0 (MQ below (kQi D cyI cyZ A [(a_this, .inr (7, [.ref a_now, .ref a_history, .int i_saved, .ref a_kept, .ref a_isKept, .ref a_text, .int i_length, .int i_next, .ref a_read, .ref a_uses, .ref a_entry, .ref a_passed, .ref a_draft, .ref a_label, .ref a_met, .ref a_bracket, .ref a_matrix])), (a_bracket, .inl (cyI, 121, .inl f_bracket))] r) (([.ref a_this] : List Value).toArray) s 0 0 A) (F0 m 6 ls []) := by
    intro n_1
    induction n_1 with
    | zero =>
      intro _ _ _ _ _ hf
      exact (it2_z hf).elim
    | succ n_1 ih_1 =>
      intro v1_1 v2_1 H locs ls hf hP hD hS hl
      replace hf := it2_s hf
      rw [kX10_lowest_L1] at hf
      refine lv_iload_n hx hb dX10_lowest_6 rfl (lv_at hl 2 rfl) ?_
      refine lv_if_lt (tgt := 34) hx hb dX10_lowest_7 (by decide) (fun c_3 => ?_) (fun c_3 => ?_)
      · replace hf := kt_p hf c_3
        refine lv_iload_n hx hb dX10_lowest_34 rfl (lv_at hl 1 rfl) ?_
        obtain rfl := some1_s hf
        exact kRi hx hb hr hlocks hP hK hD hS rfl dX10_lowest_35
      · replace hf := kt_n hf c_3
        refine lv_aload_n hx hb dX10_lowest_10 rfl (lv_at hl 0 rfl) ?_
        refine va_get (D := D) (ci := 7) (v := .ref a_bracket) (C := RX10) (T := TX10) (N := 17) hx hb hts qX10_lowest_X10 hown hK hP 0 rfl rfl 15 (Nat.le_of_ble_eq_true rfl) (hts (.fieldLink RX10 47 "KnotDiagramModel" "bracket" "[I") qX10_lowest_1) (fun _ h9 => h9) rfl dX10_lowest_11 ?_
        refine lv_iload_n hx hb dX10_lowest_14 rfl (lv_at hl 2 rfl) ?_
        obtain ⟨hi_1, hf⟩ := ck_s hf
        refine va_iald hx hb hK hP 1 0 rfl rfl hi_1 dX10_lowest_15 ?_
        refine lv_if_eq (tgt := 26) hx hb dX10_lowest_16 (by decide) (fun c_2 => ?_) (fun c_2 => ?_)
        · replace hf := kt_p hf c_2
          refine lv_iload_n hx hb dX10_lowest_26 rfl (lv_at hl 1 rfl) ?_
          refine lv_istore_n (lv' := [(1, .int v1_1), (0, .ref a_this), (2, .int v2_1)]) hx hb dX10_lowest_27 rfl hl (by decide) rfl (fun ls hl => ?_)
          refine lv_iinc (v := (v2_1 + (-1))) (lv' := [(2, .int (v2_1 + (-1))), (1, .int v1_1), (0, .ref a_this)]) hx hb dX10_lowest_28 hl (k := 2) rfl rfl (by decide) rfl (fun ls hl => ?_)
          refine lv_goto (tgt := 6) hx hb dX10_lowest_31 (by decide) ?_
          exact ih_1 v1_1 (v2_1 + (-1)) H locs ls hf hP hD hS (lv_sub hl [2, 1, 0] rfl)
        · replace hf := kt_n hf c_2
          refine lv_iload_n hx hb dX10_lowest_19 rfl (lv_at hl 2 rfl) ?_
          refine lv_bipush (v := 60) hx hb dX10_lowest_20 (by decide) ?_
          refine lv_isub hx hb dX10_lowest_22 ?_
          refine lv_goto (tgt := 27) hx hb dX10_lowest_23 (by decide) ?_
          refine lv_istore_n (lv' := [(1, .int (v2_1 - 60)), (0, .ref a_this), (2, .int v2_1)]) hx hb dX10_lowest_27 rfl hl (by decide) rfl (fun ls hl => ?_)
          refine lv_iinc (v := (v2_1 + (-1))) (lv' := [(2, .int (v2_1 + (-1))), (1, .int (v2_1 - 60)), (0, .ref a_this)]) hx hb dX10_lowest_28 hl (k := 2) rfl rfl (by decide) rfl (fun ls hl => ?_)
          refine lv_goto (tgt := 6) hx hb dX10_lowest_31 (by decide) ?_
          exact ih_1 (v2_1 - 60) (v2_1 + (-1)) H locs ls hf hP hD hS (lv_sub hl [2, 1, 0] rfl)
  exact hL_1 400 (-1000009) 120 H locs ls hf hP hD hS (lv_sub hl [2, 1, 0] rfl)
def kX10_lowestExponent (f_now : Nat → Int32) (f_label : Nat → Int32) (f_bracket : Nat → Int32) : Option (Int32 × (Nat → Int32) × (Nat → Int32)) :=
  bnd2 (kX10_findBracket f_now f_label f_bracket) (fun o_label_1 o_bracket_1 => bnd1 (kX10_lowest o_bracket_1) (fun r_2 => some (r_2, o_label_1, o_bracket_1)))
def rmX10_lowestExponent : Room := { frames := 5, cells := 0, slots := 0, locals := 115 }
set_option maxHeartbeats 4000000 in
set_option maxRecDepth 100000 in
theorem mX10_lowestExponent (l : Launch) (D : va_G) (cyI cyZ : ClassId) (sz : Nat) (a_this a_now a_history a_kept a_isKept a_text a_read a_uses a_entry a_passed a_draft a_label a_met a_bracket a_matrix : Nat) (i_saved : Int32) (i_length : Int32) (i_next : Int32) (f_now : Nat → Int32) (f_label : Nat → Int32) (f_bracket : Nat → Int32) (r : Int32) (o_label : Nat → Int32) (o_bracket : Nat → Int32) (hf : kX10_lowestExponent f_now f_label f_bracket = some (r, o_label, o_bracket)) : Met l yX10_lowestExponent wsX10_lowestExponent rmX10_lowestExponent (kPre D cyI cyZ [.ref a_this] [(a_this, .inr (7, [.ref a_now, .ref a_history, .int i_saved, .ref a_kept, .ref a_isKept, .ref a_text, .int i_length, .int i_next, .ref a_read, .ref a_uses, .ref a_entry, .ref a_passed, .ref a_draft, .ref a_label, .ref a_met, .ref a_bracket, .ref a_matrix])), (a_now, .inl (cyI, 34, .inl f_now)), (a_label, .inl (cyI, 17, .inl f_label)), (a_bracket, .inl (cyI, 121, .inl f_bracket))] sz) (kQi D cyI cyZ (va_A [(a_this, .inr (7, [.ref a_now, .ref a_history, .int i_saved, .ref a_kept, .ref a_isKept, .ref a_text, .int i_length, .int i_next, .ref a_read, .ref a_uses, .ref a_entry, .ref a_passed, .ref a_draft, .ref a_label, .ref a_met, .ref a_bracket, .ref a_matrix])), (a_now, .inl (cyI, 34, .inl f_now)), (a_label, .inl (cyI, 17, .inl f_label)), (a_bracket, .inl (cyI, 121, .inl f_bracket))] sz) [(a_this, .inr (7, [.ref a_now, .ref a_history, .int i_saved, .ref a_kept, .ref a_isKept, .ref a_text, .int i_length, .int i_next, .ref a_read, .ref a_uses, .ref a_entry, .ref a_passed, .ref a_draft, .ref a_label, .ref a_met, .ref a_bracket, .ref a_matrix])), (a_now, .inl (cyI, 34, .inl f_now)), (a_label, .inl (cyI, 17, .inl o_label)), (a_bracket, .inl (cyI, 121, .inl o_bracket))] r) 0 0 (va_A [(a_this, .inr (7, [.ref a_now, .ref a_history, .int i_saved, .ref a_kept, .ref a_isKept, .ref a_text, .int i_length, .int i_next, .ref a_read, .ref a_uses, .ref a_entry, .ref a_passed, .ref a_draft, .ref a_label, .ref a_met, .ref a_bracket, .ref a_matrix])), (a_now, .inl (cyI, 34, .inl f_now)), (a_label, .inl (cyI, 17, .inl f_label)), (a_bracket, .inl (cyI, 121, .inl f_bracket))] sz) := by
  refine Met.ofW (cc := cX10_lowestExponent) (maxL := 1) (ret := (some .int)) (by decide) rfl ?_
  intro p e s m args below meth c s₁ B hml hv
  obtain ⟨rfl, hsz, hP, hK, hD0, hN⟩ := hv
  have hx := B.exec
  have hb := B.bytes
  have hr := B.returns
  have hts := atoms_spec (ws := wsX10_lowestExponent) B.pre
  have hown : s.vm.findClass RX10 = some m.cls := findClass_of_methodNamed B.named
  have hlocks := B.notSynchronized
  subst hsz
  have hD := hD0.self (sz := s.heap.size)
  generalize hAe : va_A [(a_this, .inr (7, [.ref a_now, .ref a_history, .int i_saved, .ref a_kept, .ref a_isKept, .ref a_text, .int i_length, .int i_next, .ref a_read, .ref a_uses, .ref a_entry, .ref a_passed, .ref a_draft, .ref a_label, .ref a_met, .ref a_bracket, .ref a_matrix])), (a_now, .inl (cyI, 34, .inl f_now)), (a_label, .inl (cyI, 17, .inl f_label)), (a_bracket, .inl (cyI, 121, .inl f_bracket))] s.heap.size = A at hD ⊢
  have hA : ∀ q : Nat, s.heap.size ≤ q → A q := fun q h => by rw [← hAe]; exact Or.inr h
  clear hAe hD0
  have hS : va_S A s.heap s.heap [] := va_S.rf
  have S : CallFix p m c cX10_lowestExponent 1 s (([.ref a_this] : List Value).toArray) wsX10_lowestExponent RX10 := ⟨hx, hb, hml, hown, hts⟩
  have hl := lv_entry ([.ref a_this]) (n := 1) (Nat.le_of_ble_eq_true rfl)
  rw [lg_entry_eq]
  generalize (lg_sl ([.ref a_this]) ++ List.replicate (1 - (lg_sl ([.ref a_this])).length) Slot.unset).toArray = ls at hl ⊢
  replace hl : lv_has ls 1 [(0, .ref a_this)] := hl
  generalize ([] : List Loc) = locs at hS ⊢
  delta kX10_lowestExponent at hf
  obtain ⟨H, hH⟩ : ∃ H, H = s.heap := ⟨_, rfl⟩
  have hS : va_S A s.heap H locs := by rw [hH]; exact hS
  have hP : va_P D vwCl [(a_this, .inr (7, [.ref a_now, .ref a_history, .int i_saved, .ref a_kept, .ref a_isKept, .ref a_text, .int i_length, .int i_next, .ref a_read, .ref a_uses, .ref a_entry, .ref a_passed, .ref a_draft, .ref a_label, .ref a_met, .ref a_bracket, .ref a_matrix])), (a_now, .inl (cyI, 34, .inl f_now)), (a_label, .inl (cyI, 17, .inl f_label)), (a_bracket, .inl (cyI, 121, .inl f_bracket))] H := by rw [hH]; exact hP
  suffices hgo : W p l e (headSpec wsX10_lowestExponent rmX10_lowestExponent).room s m (([.ref a_this] : List Value).toArray) below meth c H locs 0 0 (MQ below (kQi D cyI cyZ A [(a_this, .inr (7, [.ref a_now, .ref a_history, .int i_saved, .ref a_kept, .ref a_isKept, .ref a_text, .int i_length, .int i_next, .ref a_read, .ref a_uses, .ref a_entry, .ref a_passed, .ref a_draft, .ref a_label, .ref a_met, .ref a_bracket, .ref a_matrix])), (a_now, .inl (cyI, 34, .inl f_now)), (a_label, .inl (cyI, 17, .inl o_label)), (a_bracket, .inl (cyI, 121, .inl o_bracket))] r) (([.ref a_this] : List Value).toArray) s 0 0 A) (F0 m 0 ls []) by rw [hH] at hgo; exact hgo
  clear hH
  refine lv_aload_n hx hb dX10_lowestExponent_0 rfl (lv_at hl 0 rfl) ?_
  obtain ⟨o_label_1, o_bracket_1, hc_1, hf⟩ := bnd2_s hf
  refine kcVv (As := []) (rest := []) (w2 := [(a_this, .inr (7, [.ref a_now, .ref a_history, .int i_saved, .ref a_kept, .ref a_isKept, .ref a_text, .int i_length, .int i_next, .ref a_read, .ref a_uses, .ref a_entry, .ref a_passed, .ref a_draft, .ref a_label, .ref a_met, .ref a_bracket, .ref a_matrix])), (a_now, .inl (cyI, 34, .inl f_now)), (a_label, .inl (cyI, 17, .inl o_label_1)), (a_bracket, .inl (cyI, 121, .inl o_bracket_1))]) S hK hP hD hS hA hN (mX10_findBracket l D cyI cyZ H.size a_this a_now a_history a_kept a_isKept a_text a_read a_uses a_entry a_passed a_draft a_label a_met a_bracket a_matrix i_saved i_length i_next f_now f_label f_bracket o_label_1 o_bracket_1 hc_1) (cwV 0 hts gX10_lowestExponent_X10_findBracket rfl rfl rfl (by decide +kernel) ⟨Nat.le_of_ble_eq_true rfl, Nat.le_of_ble_eq_true rfl⟩) 7 0 rfl rfl [0, 1, 2, 3] [] [0, 1, 2, 3] rfl rfl rfl rfl (by decide) rfl rfl hl.1 (Nat.le_of_ble_eq_true rfl) dX10_lowestExponent_1 ⟨Nat.le_of_ble_eq_true rfl, Nat.le_of_ble_eq_true rfl⟩ (fun H locs hP hD hS => ?_)
  refine lv_aload_n hx hb dX10_lowestExponent_4 rfl (lv_at hl 0 rfl) ?_
  obtain ⟨r_2, hc_2, hf⟩ := bnd1_s hf
  refine kcVi (As := []) (rest := []) (w2 := [(a_this, .inr (7, [.ref a_now, .ref a_history, .int i_saved, .ref a_kept, .ref a_isKept, .ref a_text, .int i_length, .int i_next, .ref a_read, .ref a_uses, .ref a_entry, .ref a_passed, .ref a_draft, .ref a_label, .ref a_met, .ref a_bracket, .ref a_matrix])), (a_now, .inl (cyI, 34, .inl f_now)), (a_label, .inl (cyI, 17, .inl o_label_1)), (a_bracket, .inl (cyI, 121, .inl o_bracket_1))]) S hK hP hD hS hA hN (mX10_lowest l D cyI cyZ H.size a_this a_now a_history a_kept a_isKept a_text a_read a_uses a_entry a_passed a_draft a_label a_met a_bracket a_matrix i_saved i_length i_next o_bracket_1 r_2 hc_2) (cwV 0 hts gX10_lowestExponent_X10_lowest rfl rfl rfl (by decide +kernel) ⟨Nat.le_of_ble_eq_true rfl, Nat.le_of_ble_eq_true rfl⟩) 7 0 rfl rfl [0, 3] [1, 2] [2, 0, 1, 3] rfl rfl rfl rfl (by decide) rfl rfl hl.1 (Nat.le_of_ble_eq_true rfl) dX10_lowestExponent_5 ⟨Nat.le_of_ble_eq_true rfl, Nat.le_of_ble_eq_true rfl⟩ (fun H locs hP hD hS => ?_)
  obtain ⟨rfl, rfl, rfl⟩ := some3_s hf
  exact kRi hx hb hr hlocks hP hK hD hS rfl dX10_lowestExponent_8
def kX10_highestExponent_L1 (o_label_1 : Nat → Int32) (o_bracket_1 : Nat → Int32) (K_1 : Int32 → Int32 → Option (Int32 × (Nat → Int32) × (Nat → Int32))) (v1_1 : Int32) (v2_1 : Int32) : Option (Int32 × (Nat → Int32) × (Nat → Int32)) :=
  if 120 < v2_1 then some (v1_1, o_label_1, o_bracket_1) else ck v2_1 121 (if (o_bracket_1 v2_1.toNatClampNeg) = 0 then K_1 v1_1 (v2_1 + 1) else K_1 (v2_1 - 60) (v2_1 + 1))
def kX10_highestExponent (f_now : Nat → Int32) (f_label : Nat → Int32) (f_bracket : Nat → Int32) : Option (Int32 × (Nat → Int32) × (Nat → Int32)) :=
  bnd2 (kX10_findBracket f_now f_label f_bracket) (fun o_label_1 o_bracket_1 => it2 (kX10_highestExponent_L1 o_label_1 o_bracket_1) 400 (-1000009) 0)
def rmX10_highestExponent : Room := { frames := 5, cells := 0, slots := 0, locals := 115 }
theorem qX10_highestExponent_0 : (.constant RX10 153 (-1000009) : Cond) ∈ wsX10_highestExponent := by decide +kernel
theorem qX10_highestExponent_1 : (.fieldLink RX10 47 "KnotDiagramModel" "bracket" "[I" : Cond) ∈ wsX10_highestExponent := by decide +kernel
theorem qX10_highestExponent_X10 : ∀ w ∈ wsX100, w ∈ wsX10_highestExponent := by decide +kernel
set_option maxHeartbeats 4000000 in
set_option maxRecDepth 100000 in
theorem mX10_highestExponent (l : Launch) (D : va_G) (cyI cyZ : ClassId) (sz : Nat) (a_this a_now a_history a_kept a_isKept a_text a_read a_uses a_entry a_passed a_draft a_label a_met a_bracket a_matrix : Nat) (i_saved : Int32) (i_length : Int32) (i_next : Int32) (f_now : Nat → Int32) (f_label : Nat → Int32) (f_bracket : Nat → Int32) (r : Int32) (o_label : Nat → Int32) (o_bracket : Nat → Int32) (hf : kX10_highestExponent f_now f_label f_bracket = some (r, o_label, o_bracket)) : Met l yX10_highestExponent wsX10_highestExponent rmX10_highestExponent (kPre D cyI cyZ [.ref a_this] [(a_this, .inr (7, [.ref a_now, .ref a_history, .int i_saved, .ref a_kept, .ref a_isKept, .ref a_text, .int i_length, .int i_next, .ref a_read, .ref a_uses, .ref a_entry, .ref a_passed, .ref a_draft, .ref a_label, .ref a_met, .ref a_bracket, .ref a_matrix])), (a_now, .inl (cyI, 34, .inl f_now)), (a_label, .inl (cyI, 17, .inl f_label)), (a_bracket, .inl (cyI, 121, .inl f_bracket))] sz) (kQi D cyI cyZ (va_A [(a_this, .inr (7, [.ref a_now, .ref a_history, .int i_saved, .ref a_kept, .ref a_isKept, .ref a_text, .int i_length, .int i_next, .ref a_read, .ref a_uses, .ref a_entry, .ref a_passed, .ref a_draft, .ref a_label, .ref a_met, .ref a_bracket, .ref a_matrix])), (a_now, .inl (cyI, 34, .inl f_now)), (a_label, .inl (cyI, 17, .inl f_label)), (a_bracket, .inl (cyI, 121, .inl f_bracket))] sz) [(a_this, .inr (7, [.ref a_now, .ref a_history, .int i_saved, .ref a_kept, .ref a_isKept, .ref a_text, .int i_length, .int i_next, .ref a_read, .ref a_uses, .ref a_entry, .ref a_passed, .ref a_draft, .ref a_label, .ref a_met, .ref a_bracket, .ref a_matrix])), (a_now, .inl (cyI, 34, .inl f_now)), (a_label, .inl (cyI, 17, .inl o_label)), (a_bracket, .inl (cyI, 121, .inl o_bracket))] r) 0 0 (va_A [(a_this, .inr (7, [.ref a_now, .ref a_history, .int i_saved, .ref a_kept, .ref a_isKept, .ref a_text, .int i_length, .int i_next, .ref a_read, .ref a_uses, .ref a_entry, .ref a_passed, .ref a_draft, .ref a_label, .ref a_met, .ref a_bracket, .ref a_matrix])), (a_now, .inl (cyI, 34, .inl f_now)), (a_label, .inl (cyI, 17, .inl f_label)), (a_bracket, .inl (cyI, 121, .inl f_bracket))] sz) := by
  refine Met.ofW (cc := cX10_highestExponent) (maxL := 3) (ret := (some .int)) (by decide) rfl ?_
  intro p e s m args below meth c s₁ B hml hv
  obtain ⟨rfl, hsz, hP, hK, hD0, hN⟩ := hv
  have hx := B.exec
  have hb := B.bytes
  have hr := B.returns
  have hts := atoms_spec (ws := wsX10_highestExponent) B.pre
  have hown : s.vm.findClass RX10 = some m.cls := findClass_of_methodNamed B.named
  have hlocks := B.notSynchronized
  subst hsz
  have hD := hD0.self (sz := s.heap.size)
  generalize hAe : va_A [(a_this, .inr (7, [.ref a_now, .ref a_history, .int i_saved, .ref a_kept, .ref a_isKept, .ref a_text, .int i_length, .int i_next, .ref a_read, .ref a_uses, .ref a_entry, .ref a_passed, .ref a_draft, .ref a_label, .ref a_met, .ref a_bracket, .ref a_matrix])), (a_now, .inl (cyI, 34, .inl f_now)), (a_label, .inl (cyI, 17, .inl f_label)), (a_bracket, .inl (cyI, 121, .inl f_bracket))] s.heap.size = A at hD ⊢
  have hA : ∀ q : Nat, s.heap.size ≤ q → A q := fun q h => by rw [← hAe]; exact Or.inr h
  clear hAe hD0
  have hS : va_S A s.heap s.heap [] := va_S.rf
  have S : CallFix p m c cX10_highestExponent 3 s (([.ref a_this] : List Value).toArray) wsX10_highestExponent RX10 := ⟨hx, hb, hml, hown, hts⟩
  have hl := lv_entry ([.ref a_this]) (n := 3) (Nat.le_of_ble_eq_true rfl)
  rw [lg_entry_eq]
  generalize (lg_sl ([.ref a_this]) ++ List.replicate (3 - (lg_sl ([.ref a_this])).length) Slot.unset).toArray = ls at hl ⊢
  replace hl : lv_has ls 3 [(0, .ref a_this)] := hl
  generalize ([] : List Loc) = locs at hS ⊢
  delta kX10_highestExponent at hf
  obtain ⟨H, hH⟩ : ∃ H, H = s.heap := ⟨_, rfl⟩
  have hS : va_S A s.heap H locs := by rw [hH]; exact hS
  have hP : va_P D vwCl [(a_this, .inr (7, [.ref a_now, .ref a_history, .int i_saved, .ref a_kept, .ref a_isKept, .ref a_text, .int i_length, .int i_next, .ref a_read, .ref a_uses, .ref a_entry, .ref a_passed, .ref a_draft, .ref a_label, .ref a_met, .ref a_bracket, .ref a_matrix])), (a_now, .inl (cyI, 34, .inl f_now)), (a_label, .inl (cyI, 17, .inl f_label)), (a_bracket, .inl (cyI, 121, .inl f_bracket))] H := by rw [hH]; exact hP
  suffices hgo : W p l e (headSpec wsX10_highestExponent rmX10_highestExponent).room s m (([.ref a_this] : List Value).toArray) below meth c H locs 0 0 (MQ below (kQi D cyI cyZ A [(a_this, .inr (7, [.ref a_now, .ref a_history, .int i_saved, .ref a_kept, .ref a_isKept, .ref a_text, .int i_length, .int i_next, .ref a_read, .ref a_uses, .ref a_entry, .ref a_passed, .ref a_draft, .ref a_label, .ref a_met, .ref a_bracket, .ref a_matrix])), (a_now, .inl (cyI, 34, .inl f_now)), (a_label, .inl (cyI, 17, .inl o_label)), (a_bracket, .inl (cyI, 121, .inl o_bracket))] r) (([.ref a_this] : List Value).toArray) s 0 0 A) (F0 m 0 ls []) by rw [hH] at hgo; exact hgo
  clear hH
  refine lv_aload_n hx hb dX10_highestExponent_0 rfl (lv_at hl 0 rfl) ?_
  obtain ⟨o_label_1, o_bracket_1, hc_1, hf⟩ := bnd2_s hf
  refine kcVv (As := []) (rest := []) (w2 := [(a_this, .inr (7, [.ref a_now, .ref a_history, .int i_saved, .ref a_kept, .ref a_isKept, .ref a_text, .int i_length, .int i_next, .ref a_read, .ref a_uses, .ref a_entry, .ref a_passed, .ref a_draft, .ref a_label, .ref a_met, .ref a_bracket, .ref a_matrix])), (a_now, .inl (cyI, 34, .inl f_now)), (a_label, .inl (cyI, 17, .inl o_label_1)), (a_bracket, .inl (cyI, 121, .inl o_bracket_1))]) S hK hP hD hS hA hN (mX10_findBracket l D cyI cyZ H.size a_this a_now a_history a_kept a_isKept a_text a_read a_uses a_entry a_passed a_draft a_label a_met a_bracket a_matrix i_saved i_length i_next f_now f_label f_bracket o_label_1 o_bracket_1 hc_1) (cwV 0 hts gX10_highestExponent_X10_findBracket rfl rfl rfl (by decide +kernel) ⟨Nat.le_of_ble_eq_true rfl, Nat.le_of_ble_eq_true rfl⟩) 7 0 rfl rfl [0, 1, 2, 3] [] [0, 1, 2, 3] rfl rfl rfl rfl (by decide) rfl rfl hl.1 (Nat.le_of_ble_eq_true rfl) dX10_highestExponent_1 ⟨Nat.le_of_ble_eq_true rfl, Nat.le_of_ble_eq_true rfl⟩ (fun H locs hP hD hS => ?_)
  refine lv_ldc (v := (-1000009)) hx hb hown (hts (.constant RX10 153 (-1000009)) qX10_highestExponent_0) dX10_highestExponent_4 ?_
  refine lv_istore_n (lv' := [(1, .int (-1000009)), (0, .ref a_this)]) hx hb dX10_highestExponent_6 rfl hl (by decide) rfl (fun ls hl => ?_)
  refine lv_iconst (v := 0) hx hb dX10_highestExponent_7 (by decide) ?_
  refine lv_istore_n (lv' := [(2, .int 0), (1, .int (-1000009)), (0, .ref a_this)]) hx hb dX10_highestExponent_8 rfl hl (by decide) rfl (fun ls hl => ?_)
  have hL_1 : ∀ (n : Nat) (v1_1 : Int32) (v2_1 : Int32) (H : Heap) (locs : List Loc) (ls : Array Slot), it2 (kX10_highestExponent_L1 o_label_1 o_bracket_1) n v1_1 v2_1 = some (r, o_label, o_bracket) → va_P D vwCl [(a_this, .inr (7, [.ref a_now, .ref a_history, .int i_saved, .ref a_kept, .ref a_isKept, .ref a_text, .int i_length, .int i_next, .ref a_read, .ref a_uses, .ref a_entry, .ref a_passed, .ref a_draft, .ref a_label, .ref a_met, .ref a_bracket, .ref a_matrix])), (a_now, .inl (cyI, 34, .inl f_now)), (a_label, .inl (cyI, 17, .inl o_label_1)), (a_bracket, .inl (cyI, 121, .inl o_bracket_1))] H → va_D A [(a_this, .inr (7, [.ref a_now, .ref a_history, .int i_saved, .ref a_kept, .ref a_isKept, .ref a_text, .int i_length, .int i_next, .ref a_read, .ref a_uses, .ref a_entry, .ref a_passed, .ref a_draft, .ref a_label, .ref a_met, .ref a_bracket, .ref a_matrix])), (a_now, .inl (cyI, 34, .inl f_now)), (a_label, .inl (cyI, 17, .inl o_label_1)), (a_bracket, .inl (cyI, 121, .inl o_bracket_1))] → va_S A s.heap H locs → lv_has ls 3 [(0, .ref a_this), (1, .int v1_1), (2, .int v2_1)] → W p l e (headSpec wsX10_highestExponent rmX10_highestExponent).room s m (([.ref a_this] : List Value).toArray) below meth c H locs 0 0 (MQ below (kQi D cyI cyZ A [(a_this, .inr (7, [.ref a_now, .ref a_history, .int i_saved, .ref a_kept, .ref a_isKept, .ref a_text, .int i_length, .int i_next, .ref a_read, .ref a_uses, .ref a_entry, .ref a_passed, .ref a_draft, .ref a_label, .ref a_met, .ref a_bracket, .ref a_matrix])), (a_now, .inl (cyI, 34, .inl f_now)), (a_label, .inl (cyI, 17, .inl o_label)), (a_bracket, .inl (cyI, 121, .inl o_bracket))] r) (([.ref a_this] : List Value).toArray) s 0 0 A) (F0 m 9 ls []) := by
    intro n_1
    induction n_1 with
    | zero =>
      intro _ _ _ _ _ hf
      exact (it2_z hf).elim
    | succ n_1 ih_1 =>
      intro v1_1 v2_1 H locs ls hf hP hD hS hl
      replace hf := it2_s hf
      rw [kX10_highestExponent_L1] at hf
      refine lv_iload_n hx hb dX10_highestExponent_9 rfl (lv_at hl 2 rfl) ?_
      refine lv_bipush (v := 120) hx hb dX10_highestExponent_10 (by decide) ?_
      refine lv_icmp_gt (tgt := 39) hx hb dX10_highestExponent_12 (by decide) (fun c_4 => ?_) (fun c_4 => ?_)
      · replace hf := kt_p hf c_4
        refine lv_iload_n hx hb dX10_highestExponent_39 rfl (lv_at hl 1 rfl) ?_
        obtain ⟨rfl, rfl, rfl⟩ := some3_s hf
        exact kRi hx hb hr hlocks hP hK hD hS rfl dX10_highestExponent_40
      · replace hf := kt_n hf c_4
        refine lv_aload_n hx hb dX10_highestExponent_15 rfl (lv_at hl 0 rfl) ?_
        refine va_get (D := D) (ci := 7) (v := .ref a_bracket) (C := RX10) (T := TX10) (N := 17) hx hb hts qX10_highestExponent_X10 hown hK hP 0 rfl rfl 15 (Nat.le_of_ble_eq_true rfl) (hts (.fieldLink RX10 47 "KnotDiagramModel" "bracket" "[I") qX10_highestExponent_1) (fun _ h9 => h9) rfl dX10_highestExponent_16 ?_
        refine lv_iload_n hx hb dX10_highestExponent_19 rfl (lv_at hl 2 rfl) ?_
        obtain ⟨hi_2, hf⟩ := ck_s hf
        refine va_iald hx hb hK hP 3 0 rfl rfl hi_2 dX10_highestExponent_20 ?_
        refine lv_if_eq (tgt := 31) hx hb dX10_highestExponent_21 (by decide) (fun c_3 => ?_) (fun c_3 => ?_)
        · replace hf := kt_p hf c_3
          refine lv_iload_n hx hb dX10_highestExponent_31 rfl (lv_at hl 1 rfl) ?_
          refine lv_istore_n (lv' := [(1, .int v1_1), (0, .ref a_this), (2, .int v2_1)]) hx hb dX10_highestExponent_32 rfl hl (by decide) rfl (fun ls hl => ?_)
          refine lv_iinc (v := (v2_1 + 1)) (lv' := [(2, .int (v2_1 + 1)), (1, .int v1_1), (0, .ref a_this)]) hx hb dX10_highestExponent_33 hl (k := 2) rfl rfl (by decide) rfl (fun ls hl => ?_)
          refine lv_goto (tgt := 9) hx hb dX10_highestExponent_36 (by decide) ?_
          exact ih_1 v1_1 (v2_1 + 1) H locs ls hf hP hD hS (lv_sub hl [2, 1, 0] rfl)
        · replace hf := kt_n hf c_3
          refine lv_iload_n hx hb dX10_highestExponent_24 rfl (lv_at hl 2 rfl) ?_
          refine lv_bipush (v := 60) hx hb dX10_highestExponent_25 (by decide) ?_
          refine lv_isub hx hb dX10_highestExponent_27 ?_
          refine lv_goto (tgt := 32) hx hb dX10_highestExponent_28 (by decide) ?_
          refine lv_istore_n (lv' := [(1, .int (v2_1 - 60)), (0, .ref a_this), (2, .int v2_1)]) hx hb dX10_highestExponent_32 rfl hl (by decide) rfl (fun ls hl => ?_)
          refine lv_iinc (v := (v2_1 + 1)) (lv' := [(2, .int (v2_1 + 1)), (1, .int (v2_1 - 60)), (0, .ref a_this)]) hx hb dX10_highestExponent_33 hl (k := 2) rfl rfl (by decide) rfl (fun ls hl => ?_)
          refine lv_goto (tgt := 9) hx hb dX10_highestExponent_36 (by decide) ?_
          exact ih_1 (v2_1 - 60) (v2_1 + 1) H locs ls hf hP hD hS (lv_sub hl [2, 1, 0] rfl)
  exact hL_1 400 (-1000009) 0 H locs ls hf hP hD hS (lv_sub hl [2, 1, 0] rfl)
def kX10_determinant_L1 (o_label_1 : Nat → Int32) (o_bracket_1 : Nat → Int32) (K_1 : Int32 → Int32 → Int32 → Option (Int32 × (Nat → Int32) × (Nat → Int32))) (v2_1 : Int32) (v3_1 : Int32) (v4_1 : Int32) : Option (Int32 × (Nat → Int32) × (Nat → Int32)) :=
  if 60 < v4_1 then if 0 ≤ v2_1 then some (v2_1, o_label_1, o_bracket_1) else some ((-v2_1), o_label_1, o_bracket_1) else ck (60 + v4_1) 121 (K_1 (v2_1 + (v3_1 * (o_bracket_1 (60 + v4_1).toNatClampNeg))) (-v3_1) (v4_1 + 4))
def kX10_determinant (f_now : Nat → Int32) (f_label : Nat → Int32) (f_bracket : Nat → Int32) : Option (Int32 × (Nat → Int32) × (Nat → Int32)) :=
  bnd2 (kX10_findBracket f_now f_label f_bracket) (fun o_label_1 o_bracket_1 => bnd1 (kX10_lowest o_bracket_1) (fun r_2 => if r_2 = (-1000009) then some (0, o_label_1, o_bracket_1) else it3 (kX10_determinant_L1 o_label_1 o_bracket_1) 400 0 1 r_2))
def rmX10_determinant : Room := { frames := 5, cells := 0, slots := 0, locals := 115 }
theorem qX10_determinant_0 : (.constant RX10 153 (-1000009) : Cond) ∈ wsX10_determinant := by decide +kernel
theorem qX10_determinant_1 : (.fieldLink RX10 47 "KnotDiagramModel" "bracket" "[I" : Cond) ∈ wsX10_determinant := by decide +kernel
theorem qX10_determinant_X10 : ∀ w ∈ wsX100, w ∈ wsX10_determinant := by decide +kernel
set_option maxHeartbeats 4000000 in
set_option maxRecDepth 100000 in
theorem mX10_determinant (l : Launch) (D : va_G) (cyI cyZ : ClassId) (sz : Nat) (a_this a_now a_history a_kept a_isKept a_text a_read a_uses a_entry a_passed a_draft a_label a_met a_bracket a_matrix : Nat) (i_saved : Int32) (i_length : Int32) (i_next : Int32) (f_now : Nat → Int32) (f_label : Nat → Int32) (f_bracket : Nat → Int32) (r : Int32) (o_label : Nat → Int32) (o_bracket : Nat → Int32) (hf : kX10_determinant f_now f_label f_bracket = some (r, o_label, o_bracket)) : Met l yX10_determinant wsX10_determinant rmX10_determinant (kPre D cyI cyZ [.ref a_this] [(a_this, .inr (7, [.ref a_now, .ref a_history, .int i_saved, .ref a_kept, .ref a_isKept, .ref a_text, .int i_length, .int i_next, .ref a_read, .ref a_uses, .ref a_entry, .ref a_passed, .ref a_draft, .ref a_label, .ref a_met, .ref a_bracket, .ref a_matrix])), (a_now, .inl (cyI, 34, .inl f_now)), (a_label, .inl (cyI, 17, .inl f_label)), (a_bracket, .inl (cyI, 121, .inl f_bracket))] sz) (kQi D cyI cyZ (va_A [(a_this, .inr (7, [.ref a_now, .ref a_history, .int i_saved, .ref a_kept, .ref a_isKept, .ref a_text, .int i_length, .int i_next, .ref a_read, .ref a_uses, .ref a_entry, .ref a_passed, .ref a_draft, .ref a_label, .ref a_met, .ref a_bracket, .ref a_matrix])), (a_now, .inl (cyI, 34, .inl f_now)), (a_label, .inl (cyI, 17, .inl f_label)), (a_bracket, .inl (cyI, 121, .inl f_bracket))] sz) [(a_this, .inr (7, [.ref a_now, .ref a_history, .int i_saved, .ref a_kept, .ref a_isKept, .ref a_text, .int i_length, .int i_next, .ref a_read, .ref a_uses, .ref a_entry, .ref a_passed, .ref a_draft, .ref a_label, .ref a_met, .ref a_bracket, .ref a_matrix])), (a_now, .inl (cyI, 34, .inl f_now)), (a_label, .inl (cyI, 17, .inl o_label)), (a_bracket, .inl (cyI, 121, .inl o_bracket))] r) 0 0 (va_A [(a_this, .inr (7, [.ref a_now, .ref a_history, .int i_saved, .ref a_kept, .ref a_isKept, .ref a_text, .int i_length, .int i_next, .ref a_read, .ref a_uses, .ref a_entry, .ref a_passed, .ref a_draft, .ref a_label, .ref a_met, .ref a_bracket, .ref a_matrix])), (a_now, .inl (cyI, 34, .inl f_now)), (a_label, .inl (cyI, 17, .inl f_label)), (a_bracket, .inl (cyI, 121, .inl f_bracket))] sz) := by
  refine Met.ofW (cc := cX10_determinant) (maxL := 5) (ret := (some .int)) (by decide) rfl ?_
  intro p e s m args below meth c s₁ B hml hv
  obtain ⟨rfl, hsz, hP, hK, hD0, hN⟩ := hv
  have hx := B.exec
  have hb := B.bytes
  have hr := B.returns
  have hts := atoms_spec (ws := wsX10_determinant) B.pre
  have hown : s.vm.findClass RX10 = some m.cls := findClass_of_methodNamed B.named
  have hlocks := B.notSynchronized
  subst hsz
  have hD := hD0.self (sz := s.heap.size)
  generalize hAe : va_A [(a_this, .inr (7, [.ref a_now, .ref a_history, .int i_saved, .ref a_kept, .ref a_isKept, .ref a_text, .int i_length, .int i_next, .ref a_read, .ref a_uses, .ref a_entry, .ref a_passed, .ref a_draft, .ref a_label, .ref a_met, .ref a_bracket, .ref a_matrix])), (a_now, .inl (cyI, 34, .inl f_now)), (a_label, .inl (cyI, 17, .inl f_label)), (a_bracket, .inl (cyI, 121, .inl f_bracket))] s.heap.size = A at hD ⊢
  have hA : ∀ q : Nat, s.heap.size ≤ q → A q := fun q h => by rw [← hAe]; exact Or.inr h
  clear hAe hD0
  have hS : va_S A s.heap s.heap [] := va_S.rf
  have S : CallFix p m c cX10_determinant 5 s (([.ref a_this] : List Value).toArray) wsX10_determinant RX10 := ⟨hx, hb, hml, hown, hts⟩
  have hl := lv_entry ([.ref a_this]) (n := 5) (Nat.le_of_ble_eq_true rfl)
  rw [lg_entry_eq]
  generalize (lg_sl ([.ref a_this]) ++ List.replicate (5 - (lg_sl ([.ref a_this])).length) Slot.unset).toArray = ls at hl ⊢
  replace hl : lv_has ls 5 [(0, .ref a_this)] := hl
  generalize ([] : List Loc) = locs at hS ⊢
  delta kX10_determinant at hf
  obtain ⟨H, hH⟩ : ∃ H, H = s.heap := ⟨_, rfl⟩
  have hS : va_S A s.heap H locs := by rw [hH]; exact hS
  have hP : va_P D vwCl [(a_this, .inr (7, [.ref a_now, .ref a_history, .int i_saved, .ref a_kept, .ref a_isKept, .ref a_text, .int i_length, .int i_next, .ref a_read, .ref a_uses, .ref a_entry, .ref a_passed, .ref a_draft, .ref a_label, .ref a_met, .ref a_bracket, .ref a_matrix])), (a_now, .inl (cyI, 34, .inl f_now)), (a_label, .inl (cyI, 17, .inl f_label)), (a_bracket, .inl (cyI, 121, .inl f_bracket))] H := by rw [hH]; exact hP
  suffices hgo : W p l e (headSpec wsX10_determinant rmX10_determinant).room s m (([.ref a_this] : List Value).toArray) below meth c H locs 0 0 (MQ below (kQi D cyI cyZ A [(a_this, .inr (7, [.ref a_now, .ref a_history, .int i_saved, .ref a_kept, .ref a_isKept, .ref a_text, .int i_length, .int i_next, .ref a_read, .ref a_uses, .ref a_entry, .ref a_passed, .ref a_draft, .ref a_label, .ref a_met, .ref a_bracket, .ref a_matrix])), (a_now, .inl (cyI, 34, .inl f_now)), (a_label, .inl (cyI, 17, .inl o_label)), (a_bracket, .inl (cyI, 121, .inl o_bracket))] r) (([.ref a_this] : List Value).toArray) s 0 0 A) (F0 m 0 ls []) by rw [hH] at hgo; exact hgo
  clear hH
  refine lv_aload_n hx hb dX10_determinant_0 rfl (lv_at hl 0 rfl) ?_
  obtain ⟨o_label_1, o_bracket_1, hc_1, hf⟩ := bnd2_s hf
  refine kcVv (As := []) (rest := []) (w2 := [(a_this, .inr (7, [.ref a_now, .ref a_history, .int i_saved, .ref a_kept, .ref a_isKept, .ref a_text, .int i_length, .int i_next, .ref a_read, .ref a_uses, .ref a_entry, .ref a_passed, .ref a_draft, .ref a_label, .ref a_met, .ref a_bracket, .ref a_matrix])), (a_now, .inl (cyI, 34, .inl f_now)), (a_label, .inl (cyI, 17, .inl o_label_1)), (a_bracket, .inl (cyI, 121, .inl o_bracket_1))]) S hK hP hD hS hA hN (mX10_findBracket l D cyI cyZ H.size a_this a_now a_history a_kept a_isKept a_text a_read a_uses a_entry a_passed a_draft a_label a_met a_bracket a_matrix i_saved i_length i_next f_now f_label f_bracket o_label_1 o_bracket_1 hc_1) (cwV 0 hts gX10_determinant_X10_findBracket rfl rfl rfl (by decide +kernel) ⟨Nat.le_of_ble_eq_true rfl, Nat.le_of_ble_eq_true rfl⟩) 7 0 rfl rfl [0, 1, 2, 3] [] [0, 1, 2, 3] rfl rfl rfl rfl (by decide) rfl rfl hl.1 (Nat.le_of_ble_eq_true rfl) dX10_determinant_1 ⟨Nat.le_of_ble_eq_true rfl, Nat.le_of_ble_eq_true rfl⟩ (fun H locs hP hD hS => ?_)
  refine lv_aload_n hx hb dX10_determinant_4 rfl (lv_at hl 0 rfl) ?_
  obtain ⟨r_2, hc_2, hf⟩ := bnd1_s hf
  refine kcVi (As := []) (rest := []) (w2 := [(a_this, .inr (7, [.ref a_now, .ref a_history, .int i_saved, .ref a_kept, .ref a_isKept, .ref a_text, .int i_length, .int i_next, .ref a_read, .ref a_uses, .ref a_entry, .ref a_passed, .ref a_draft, .ref a_label, .ref a_met, .ref a_bracket, .ref a_matrix])), (a_now, .inl (cyI, 34, .inl f_now)), (a_label, .inl (cyI, 17, .inl o_label_1)), (a_bracket, .inl (cyI, 121, .inl o_bracket_1))]) S hK hP hD hS hA hN (mX10_lowest l D cyI cyZ H.size a_this a_now a_history a_kept a_isKept a_text a_read a_uses a_entry a_passed a_draft a_label a_met a_bracket a_matrix i_saved i_length i_next o_bracket_1 r_2 hc_2) (cwV 0 hts gX10_determinant_X10_lowest rfl rfl rfl (by decide +kernel) ⟨Nat.le_of_ble_eq_true rfl, Nat.le_of_ble_eq_true rfl⟩) 7 0 rfl rfl [0, 3] [1, 2] [2, 0, 1, 3] rfl rfl rfl rfl (by decide) rfl rfl hl.1 (Nat.le_of_ble_eq_true rfl) dX10_determinant_5 ⟨Nat.le_of_ble_eq_true rfl, Nat.le_of_ble_eq_true rfl⟩ (fun H locs hP hD hS => ?_)
  refine lv_istore_n (lv' := [(1, .int r_2), (0, .ref a_this)]) hx hb dX10_determinant_8 rfl hl (by decide) rfl (fun ls hl => ?_)
  refine lv_iload_n hx hb dX10_determinant_9 rfl (lv_at hl 0 rfl) ?_
  refine lv_ldc (v := (-1000009)) hx hb hown (hts (.constant RX10 153 (-1000009)) qX10_determinant_0) dX10_determinant_10 ?_
  refine lv_icmp_ne (tgt := 17) hx hb dX10_determinant_12 (by decide) (fun c_6 => ?_) (fun c_6 => ?_)
  · replace hf := kt_n hf c_6
    refine lv_iconst (v := 0) hx hb dX10_determinant_17 (by decide) ?_
    refine lv_istore_n (lv' := [(2, .int 0), (1, .int r_2), (0, .ref a_this)]) hx hb dX10_determinant_18 rfl hl (by decide) rfl (fun ls hl => ?_)
    refine lv_iconst (v := 1) hx hb dX10_determinant_19 (by decide) ?_
    refine lv_istore_n (lv' := [(3, .int 1), (2, .int 0), (1, .int r_2), (0, .ref a_this)]) hx hb dX10_determinant_20 rfl hl (by decide) rfl (fun ls hl => ?_)
    refine lv_iload_n hx hb dX10_determinant_21 rfl (lv_at hl 2 rfl) ?_
    refine lv_istore (lv' := [(4, .int r_2), (3, .int 1), (2, .int 0), (1, .int r_2), (0, .ref a_this)]) hx hb dX10_determinant_22 hl (by decide) rfl (fun ls hl => ?_)
    have hL_1 : ∀ (n : Nat) (v2_1 : Int32) (v3_1 : Int32) (v4_1 : Int32) (H : Heap) (locs : List Loc) (ls : Array Slot), it3 (kX10_determinant_L1 o_label_1 o_bracket_1) n v2_1 v3_1 v4_1 = some (r, o_label, o_bracket) → va_P D vwCl [(a_this, .inr (7, [.ref a_now, .ref a_history, .int i_saved, .ref a_kept, .ref a_isKept, .ref a_text, .int i_length, .int i_next, .ref a_read, .ref a_uses, .ref a_entry, .ref a_passed, .ref a_draft, .ref a_label, .ref a_met, .ref a_bracket, .ref a_matrix])), (a_now, .inl (cyI, 34, .inl f_now)), (a_label, .inl (cyI, 17, .inl o_label_1)), (a_bracket, .inl (cyI, 121, .inl o_bracket_1))] H → va_D A [(a_this, .inr (7, [.ref a_now, .ref a_history, .int i_saved, .ref a_kept, .ref a_isKept, .ref a_text, .int i_length, .int i_next, .ref a_read, .ref a_uses, .ref a_entry, .ref a_passed, .ref a_draft, .ref a_label, .ref a_met, .ref a_bracket, .ref a_matrix])), (a_now, .inl (cyI, 34, .inl f_now)), (a_label, .inl (cyI, 17, .inl o_label_1)), (a_bracket, .inl (cyI, 121, .inl o_bracket_1))] → va_S A s.heap H locs → lv_has ls 5 [(0, .ref a_this), (2, .int v2_1), (3, .int v3_1), (4, .int v4_1)] → W p l e (headSpec wsX10_determinant rmX10_determinant).room s m (([.ref a_this] : List Value).toArray) below meth c H locs 0 0 (MQ below (kQi D cyI cyZ A [(a_this, .inr (7, [.ref a_now, .ref a_history, .int i_saved, .ref a_kept, .ref a_isKept, .ref a_text, .int i_length, .int i_next, .ref a_read, .ref a_uses, .ref a_entry, .ref a_passed, .ref a_draft, .ref a_label, .ref a_met, .ref a_bracket, .ref a_matrix])), (a_now, .inl (cyI, 34, .inl f_now)), (a_label, .inl (cyI, 17, .inl o_label)), (a_bracket, .inl (cyI, 121, .inl o_bracket))] r) (([.ref a_this] : List Value).toArray) s 0 0 A) (F0 m 24 ls []) := by
      intro n_1
      induction n_1 with
      | zero =>
        intro _ _ _ _ _ _ hf
        exact (it3_z hf).elim
      | succ n_1 ih_1 =>
        intro v2_1 v3_1 v4_1 H locs ls hf hP hD hS hl
        replace hf := it3_s hf
        rw [kX10_determinant_L1] at hf
        refine lv_iload hx hb dX10_determinant_24 (lv_at hl 3 rfl) ?_
        refine lv_bipush (v := 60) hx hb dX10_determinant_26 (by decide) ?_
        refine lv_icmp_gt (tgt := 55) hx hb dX10_determinant_28 (by decide) (fun c_5 => ?_) (fun c_5 => ?_)
        · replace hf := kt_p hf c_5
          refine lv_iload_n hx hb dX10_determinant_55 rfl (lv_at hl 1 rfl) ?_
          refine lv_if_ge (tgt := 64) hx hb dX10_determinant_56 (by decide) (fun c_3 => ?_) (fun c_3 => ?_)
          · replace hf := kt_p hf c_3
            refine lv_iload_n hx hb dX10_determinant_64 rfl (lv_at hl 1 rfl) ?_
            obtain ⟨rfl, rfl, rfl⟩ := some3_s hf
            exact kRi hx hb hr hlocks hP hK hD hS rfl dX10_determinant_65
          · replace hf := kt_n hf c_3
            refine lv_iload_n hx hb dX10_determinant_59 rfl (lv_at hl 1 rfl) ?_
            refine lv_ineg hx hb dX10_determinant_60 ?_
            refine lv_goto (tgt := 65) hx hb dX10_determinant_61 (by decide) ?_
            obtain ⟨rfl, rfl, rfl⟩ := some3_s hf
            exact kRi hx hb hr hlocks hP hK hD hS rfl dX10_determinant_65
        · replace hf := kt_n hf c_5
          refine lv_iload_n hx hb dX10_determinant_31 rfl (lv_at hl 1 rfl) ?_
          refine lv_iload_n hx hb dX10_determinant_32 rfl (lv_at hl 2 rfl) ?_
          refine lv_aload_n hx hb dX10_determinant_33 rfl (lv_at hl 0 rfl) ?_
          refine va_get (D := D) (ci := 7) (v := .ref a_bracket) (C := RX10) (T := TX10) (N := 17) hx hb hts qX10_determinant_X10 hown hK hP 0 rfl rfl 15 (Nat.le_of_ble_eq_true rfl) (hts (.fieldLink RX10 47 "KnotDiagramModel" "bracket" "[I") qX10_determinant_1) (fun _ h9 => h9) rfl dX10_determinant_34 ?_
          refine lv_bipush (v := 60) hx hb dX10_determinant_37 (by decide) ?_
          refine lv_iload hx hb dX10_determinant_39 (lv_at hl 3 rfl) ?_
          refine lv_iadd hx hb dX10_determinant_41 ?_
          obtain ⟨hi_4, hf⟩ := ck_s hf
          refine va_iald hx hb hK hP 3 0 rfl rfl hi_4 dX10_determinant_42 ?_
          refine lv_imul hx hb dX10_determinant_43 ?_
          refine lv_iadd hx hb dX10_determinant_44 ?_
          refine lv_istore_n (lv' := [(2, .int (v2_1 + (v3_1 * (o_bracket_1 (60 + v4_1).toNatClampNeg)))), (0, .ref a_this), (3, .int v3_1), (4, .int v4_1)]) hx hb dX10_determinant_45 rfl hl (by decide) rfl (fun ls hl => ?_)
          refine lv_iload_n hx hb dX10_determinant_46 rfl (lv_at hl 2 rfl) ?_
          refine lv_ineg hx hb dX10_determinant_47 ?_
          refine lv_istore_n (lv' := [(3, .int (-v3_1)), (2, .int (v2_1 + (v3_1 * (o_bracket_1 (60 + v4_1).toNatClampNeg)))), (0, .ref a_this), (4, .int v4_1)]) hx hb dX10_determinant_48 rfl hl (by decide) rfl (fun ls hl => ?_)
          refine lv_iinc (v := (v4_1 + 4)) (lv' := [(4, .int (v4_1 + 4)), (3, .int (-v3_1)), (2, .int (v2_1 + (v3_1 * (o_bracket_1 (60 + v4_1).toNatClampNeg)))), (0, .ref a_this)]) hx hb dX10_determinant_49 hl (k := 3) rfl rfl (by decide) rfl (fun ls hl => ?_)
          refine lv_goto (tgt := 24) hx hb dX10_determinant_52 (by decide) ?_
          exact ih_1 (v2_1 + (v3_1 * (o_bracket_1 (60 + v4_1).toNatClampNeg))) (-v3_1) (v4_1 + 4) H locs ls hf hP hD hS (lv_sub hl [3, 2, 1, 0] rfl)
    exact hL_1 400 0 1 r_2 H locs ls hf hP hD hS (lv_sub hl [4, 2, 1, 0] rfl)
  · replace hf := kt_p hf c_6
    refine lv_iconst (v := 0) hx hb dX10_determinant_15 (by decide) ?_
    obtain ⟨rfl, rfl, rfl⟩ := some3_s hf
    exact kRi hx hb hr hlocks hP hK hD hS rfl dX10_determinant_16
def kX10_inverse_L1 (v1 : Int32) (v0 : Int32) (K_1 : Int32 → Int32 → Option (Int32)) (v2_1 : Int32) (v3_1 : Int32) : Option (Int32) :=
  if v1 ≤ v3_1 then some v2_1 else cz v1 (if (irem (v0 * v3_1) v1) = 1 then K_1 v3_1 (v3_1 + 1) else K_1 v2_1 (v3_1 + 1))
def kX10_inverse (v0 : Int32) (v1 : Int32) : Option (Int32) :=
  it2 (kX10_inverse_L1 v1 v0) 400 1 1
def rmX10_inverse : Room := { frames := 0, cells := 0, slots := 0, locals := 0 }
set_option maxHeartbeats 4000000 in
set_option maxRecDepth 100000 in
theorem mX10_inverse (l : Launch) (D : va_G) (cyI cyZ : ClassId) (sz : Nat) (v0 : Int32) (v1 : Int32) (r : Int32) (hf : kX10_inverse v0 v1 = some r) : Met l yX10_inverse wsX10_inverse rmX10_inverse (kPre D cyI cyZ [.int v0, .int v1] [] sz) (kQi D cyI cyZ (va_A [] sz) [] r) 0 0 (va_A [] sz) := by
  refine Met.ofW (cc := cX10_inverse) (maxL := 4) (ret := (some .int)) (by decide) rfl ?_
  intro p e s m args below meth c s₁ B hml hv
  obtain ⟨rfl, hsz, hP, hK, hD0, hN⟩ := hv
  have hx := B.exec
  have hb := B.bytes
  have hr := B.returns
  have hts := atoms_spec (ws := wsX10_inverse) B.pre
  have hown : s.vm.findClass RX10 = some m.cls := findClass_of_methodNamed B.named
  have hlocks := B.notSynchronized
  subst hsz
  have hD := hD0.self (sz := s.heap.size)
  generalize hAe : va_A [] s.heap.size = A at hD ⊢
  have hA : ∀ q : Nat, s.heap.size ≤ q → A q := fun q h => by rw [← hAe]; exact Or.inr h
  clear hAe hD0
  have hS : va_S A s.heap s.heap [] := va_S.rf
  have S : CallFix p m c cX10_inverse 4 s (([.int v0, .int v1] : List Value).toArray) wsX10_inverse RX10 := ⟨hx, hb, hml, hown, hts⟩
  have hl := lv_entry ([.int v0, .int v1]) (n := 4) (Nat.le_of_ble_eq_true rfl)
  rw [lg_entry_eq]
  generalize (lg_sl ([.int v0, .int v1]) ++ List.replicate (4 - (lg_sl ([.int v0, .int v1])).length) Slot.unset).toArray = ls at hl ⊢
  replace hl : lv_has ls 4 [(0, .int v0), (1, .int v1)] := hl
  generalize ([] : List Loc) = locs at hS ⊢
  delta kX10_inverse at hf
  obtain ⟨H, hH⟩ : ∃ H, H = s.heap := ⟨_, rfl⟩
  have hS : va_S A s.heap H locs := by rw [hH]; exact hS
  have hP : va_P D vwCl [] H := by rw [hH]; exact hP
  suffices hgo : W p l e (headSpec wsX10_inverse rmX10_inverse).room s m (([.int v0, .int v1] : List Value).toArray) below meth c H locs 0 0 (MQ below (kQi D cyI cyZ A [] r) (([.int v0, .int v1] : List Value).toArray) s 0 0 A) (F0 m 0 ls []) by rw [hH] at hgo; exact hgo
  clear hH
  refine lv_iconst (v := 1) hx hb dX10_inverse_0 (by decide) ?_
  refine lv_istore_n (lv' := [(2, .int 1), (0, .int v0), (1, .int v1)]) hx hb dX10_inverse_1 rfl hl (by decide) rfl (fun ls hl => ?_)
  refine lv_iconst (v := 1) hx hb dX10_inverse_2 (by decide) ?_
  refine lv_istore_n (lv' := [(3, .int 1), (2, .int 1), (0, .int v0), (1, .int v1)]) hx hb dX10_inverse_3 rfl hl (by decide) rfl (fun ls hl => ?_)
  have hL_1 : ∀ (n : Nat) (v2_1 : Int32) (v3_1 : Int32) (H : Heap) (locs : List Loc) (ls : Array Slot), it2 (kX10_inverse_L1 v1 v0) n v2_1 v3_1 = some r → va_P D vwCl [] H → va_D A [] → va_S A s.heap H locs → lv_has ls 4 [(0, .int v0), (1, .int v1), (2, .int v2_1), (3, .int v3_1)] → W p l e (headSpec wsX10_inverse rmX10_inverse).room s m (([.int v0, .int v1] : List Value).toArray) below meth c H locs 0 0 (MQ below (kQi D cyI cyZ A [] r) (([.int v0, .int v1] : List Value).toArray) s 0 0 A) (F0 m 4 ls []) := by
    intro n_1
    induction n_1 with
    | zero =>
      intro _ _ _ _ _ hf
      exact (it2_z hf).elim
    | succ n_1 ih_1 =>
      intro v2_1 v3_1 H locs ls hf hP hD hS hl
      replace hf := it2_s hf
      rw [kX10_inverse_L1] at hf
      refine lv_iload_n hx hb dX10_inverse_4 rfl (lv_at hl 3 rfl) ?_
      refine lv_iload_n hx hb dX10_inverse_5 rfl (lv_at hl 1 rfl) ?_
      refine lv_icmp_ge (tgt := 30) hx hb dX10_inverse_6 (by decide) (fun c_3 => ?_) (fun c_3 => ?_)
      · replace hf := kt_p hf c_3
        refine lv_iload_n hx hb dX10_inverse_30 rfl (lv_at hl 2 rfl) ?_
        obtain rfl := some1_s hf
        exact kRi hx hb hr hlocks hP hK hD hS rfl dX10_inverse_31
      · replace hf := kt_n hf c_3
        refine lv_iload_n hx hb dX10_inverse_9 rfl (lv_at hl 0 rfl) ?_
        refine lv_iload_n hx hb dX10_inverse_10 rfl (lv_at hl 3 rfl) ?_
        refine lv_imul hx hb dX10_inverse_11 ?_
        refine lv_iload_n hx hb dX10_inverse_12 rfl (lv_at hl 1 rfl) ?_
        obtain ⟨hz_1, hf⟩ := cz_s hf
        refine k_irem hx hb dX10_inverse_13 hz_1 ?_
        refine lv_iconst (v := 1) hx hb dX10_inverse_14 (by decide) ?_
        refine lv_icmp_ne (tgt := 22) hx hb dX10_inverse_15 (by decide) (fun c_2 => ?_) (fun c_2 => ?_)
        · replace hf := kt_n hf c_2
          refine lv_iload_n hx hb dX10_inverse_22 rfl (lv_at hl 2 rfl) ?_
          refine lv_istore_n (lv' := [(2, .int v2_1), (0, .int v0), (1, .int v1), (3, .int v3_1)]) hx hb dX10_inverse_23 rfl hl (by decide) rfl (fun ls hl => ?_)
          refine lv_iinc (v := (v3_1 + 1)) (lv' := [(3, .int (v3_1 + 1)), (2, .int v2_1), (0, .int v0), (1, .int v1)]) hx hb dX10_inverse_24 hl (k := 3) rfl rfl (by decide) rfl (fun ls hl => ?_)
          refine lv_goto (tgt := 4) hx hb dX10_inverse_27 (by decide) ?_
          exact ih_1 v2_1 (v3_1 + 1) H locs ls hf hP hD hS (lv_sub hl [2, 3, 1, 0] rfl)
        · replace hf := kt_p hf c_2
          refine lv_iload_n hx hb dX10_inverse_18 rfl (lv_at hl 3 rfl) ?_
          refine lv_goto (tgt := 23) hx hb dX10_inverse_19 (by decide) ?_
          refine lv_istore_n (lv' := [(2, .int v3_1), (0, .int v0), (1, .int v1), (3, .int v3_1)]) hx hb dX10_inverse_23 rfl hl (by decide) rfl (fun ls hl => ?_)
          refine lv_iinc (v := (v3_1 + 1)) (lv' := [(3, .int (v3_1 + 1)), (2, .int v3_1), (0, .int v0), (1, .int v1)]) hx hb dX10_inverse_24 hl (k := 3) rfl rfl (by decide) rfl (fun ls hl => ?_)
          refine lv_goto (tgt := 4) hx hb dX10_inverse_27 (by decide) ?_
          exact ih_1 v3_1 (v3_1 + 1) H locs ls hf hP hD hS (lv_sub hl [2, 3, 1, 0] rfl)
  exact hL_1 400 1 1 H locs ls hf hP hD hS (lv_sub hl [2, 3, 1, 0] rfl)
def kX10_addTo (v1 : Int32) (v2 : Int32) (v3 : Int32) (v4 : Int32) (f_now : Nat → Int32) (f_label : Nat → Int32) (f_matrix : Nat → Int32) : Option ((Nat → Int32)) :=
  bnd1 (kX10_arc v2 f_now) (fun r_1 => ck r_1 17 (ck ((17 * v1) + (f_label r_1.toNatClampNeg)) 136 (cz v4 (ck ((17 * v1) + (f_label r_1.toNatClampNeg)) 136 (some (upd f_matrix ((17 * v1) + (f_label r_1.toNatClampNeg)).toNatClampNeg (irem (((f_matrix ((17 * v1) + (f_label r_1.toNatClampNeg)).toNatClampNeg) + v3) + v4) v4)))))))
def rmX10_addTo : Room := { frames := 1, cells := 0, slots := 0, locals := 21 }
theorem qX10_addTo_0 : (.fieldLink RX10 41 "KnotDiagramModel" "label" "[I" : Cond) ∈ wsX10_addTo := by decide +kernel
theorem qX10_addTo_1 : (.fieldLink RX10 50 "KnotDiagramModel" "matrix" "[I" : Cond) ∈ wsX10_addTo := by decide +kernel
theorem qX10_addTo_X10 : ∀ w ∈ wsX100, w ∈ wsX10_addTo := by decide +kernel
set_option maxHeartbeats 4000000 in
set_option maxRecDepth 100000 in
theorem mX10_addTo (l : Launch) (D : va_G) (cyI cyZ : ClassId) (sz : Nat) (a_this a_now a_history a_kept a_isKept a_text a_read a_uses a_entry a_passed a_draft a_label a_met a_bracket a_matrix : Nat) (v1 : Int32) (v2 : Int32) (v3 : Int32) (v4 : Int32) (i_saved : Int32) (i_length : Int32) (i_next : Int32) (f_now : Nat → Int32) (f_label : Nat → Int32) (f_matrix : Nat → Int32) (o_matrix : Nat → Int32) (hf : kX10_addTo v1 v2 v3 v4 f_now f_label f_matrix = some o_matrix) : Met l yX10_addTo wsX10_addTo rmX10_addTo (kPre D cyI cyZ [.ref a_this, .int v1, .int v2, .int v3, .int v4] [(a_this, .inr (7, [.ref a_now, .ref a_history, .int i_saved, .ref a_kept, .ref a_isKept, .ref a_text, .int i_length, .int i_next, .ref a_read, .ref a_uses, .ref a_entry, .ref a_passed, .ref a_draft, .ref a_label, .ref a_met, .ref a_bracket, .ref a_matrix])), (a_now, .inl (cyI, 34, .inl f_now)), (a_label, .inl (cyI, 17, .inl f_label)), (a_matrix, .inl (cyI, 136, .inl f_matrix))] sz) (kQv D cyI cyZ (va_A [(a_this, .inr (7, [.ref a_now, .ref a_history, .int i_saved, .ref a_kept, .ref a_isKept, .ref a_text, .int i_length, .int i_next, .ref a_read, .ref a_uses, .ref a_entry, .ref a_passed, .ref a_draft, .ref a_label, .ref a_met, .ref a_bracket, .ref a_matrix])), (a_now, .inl (cyI, 34, .inl f_now)), (a_label, .inl (cyI, 17, .inl f_label)), (a_matrix, .inl (cyI, 136, .inl f_matrix))] sz) [(a_this, .inr (7, [.ref a_now, .ref a_history, .int i_saved, .ref a_kept, .ref a_isKept, .ref a_text, .int i_length, .int i_next, .ref a_read, .ref a_uses, .ref a_entry, .ref a_passed, .ref a_draft, .ref a_label, .ref a_met, .ref a_bracket, .ref a_matrix])), (a_now, .inl (cyI, 34, .inl f_now)), (a_label, .inl (cyI, 17, .inl f_label)), (a_matrix, .inl (cyI, 136, .inl o_matrix))]) 0 0 (va_A [(a_this, .inr (7, [.ref a_now, .ref a_history, .int i_saved, .ref a_kept, .ref a_isKept, .ref a_text, .int i_length, .int i_next, .ref a_read, .ref a_uses, .ref a_entry, .ref a_passed, .ref a_draft, .ref a_label, .ref a_met, .ref a_bracket, .ref a_matrix])), (a_now, .inl (cyI, 34, .inl f_now)), (a_label, .inl (cyI, 17, .inl f_label)), (a_matrix, .inl (cyI, 136, .inl f_matrix))] sz) := by
  refine Met.ofW (cc := cX10_addTo) (maxL := 6) (ret := none) (by decide) rfl ?_
  intro p e s m args below meth c s₁ B hml hv
  obtain ⟨rfl, hsz, hP, hK, hD0, hN⟩ := hv
  have hx := B.exec
  have hb := B.bytes
  have hr := B.returns
  have hts := atoms_spec (ws := wsX10_addTo) B.pre
  have hown : s.vm.findClass RX10 = some m.cls := findClass_of_methodNamed B.named
  have hlocks := B.notSynchronized
  subst hsz
  have hD := hD0.self (sz := s.heap.size)
  generalize hAe : va_A [(a_this, .inr (7, [.ref a_now, .ref a_history, .int i_saved, .ref a_kept, .ref a_isKept, .ref a_text, .int i_length, .int i_next, .ref a_read, .ref a_uses, .ref a_entry, .ref a_passed, .ref a_draft, .ref a_label, .ref a_met, .ref a_bracket, .ref a_matrix])), (a_now, .inl (cyI, 34, .inl f_now)), (a_label, .inl (cyI, 17, .inl f_label)), (a_matrix, .inl (cyI, 136, .inl f_matrix))] s.heap.size = A at hD ⊢
  have hA : ∀ q : Nat, s.heap.size ≤ q → A q := fun q h => by rw [← hAe]; exact Or.inr h
  clear hAe hD0
  have hS : va_S A s.heap s.heap [] := va_S.rf
  have S : CallFix p m c cX10_addTo 6 s (([.ref a_this, .int v1, .int v2, .int v3, .int v4] : List Value).toArray) wsX10_addTo RX10 := ⟨hx, hb, hml, hown, hts⟩
  have hl := lv_entry ([.ref a_this, .int v1, .int v2, .int v3, .int v4]) (n := 6) (Nat.le_of_ble_eq_true rfl)
  rw [lg_entry_eq]
  generalize (lg_sl ([.ref a_this, .int v1, .int v2, .int v3, .int v4]) ++ List.replicate (6 - (lg_sl ([.ref a_this, .int v1, .int v2, .int v3, .int v4])).length) Slot.unset).toArray = ls at hl ⊢
  replace hl : lv_has ls 6 [(0, .ref a_this), (1, .int v1), (2, .int v2), (3, .int v3), (4, .int v4)] := hl
  generalize ([] : List Loc) = locs at hS ⊢
  delta kX10_addTo at hf
  obtain ⟨H, hH⟩ : ∃ H, H = s.heap := ⟨_, rfl⟩
  have hS : va_S A s.heap H locs := by rw [hH]; exact hS
  have hP : va_P D vwCl [(a_this, .inr (7, [.ref a_now, .ref a_history, .int i_saved, .ref a_kept, .ref a_isKept, .ref a_text, .int i_length, .int i_next, .ref a_read, .ref a_uses, .ref a_entry, .ref a_passed, .ref a_draft, .ref a_label, .ref a_met, .ref a_bracket, .ref a_matrix])), (a_now, .inl (cyI, 34, .inl f_now)), (a_label, .inl (cyI, 17, .inl f_label)), (a_matrix, .inl (cyI, 136, .inl f_matrix))] H := by rw [hH]; exact hP
  suffices hgo : W p l e (headSpec wsX10_addTo rmX10_addTo).room s m (([.ref a_this, .int v1, .int v2, .int v3, .int v4] : List Value).toArray) below meth c H locs 0 0 (MQ below (kQv D cyI cyZ A [(a_this, .inr (7, [.ref a_now, .ref a_history, .int i_saved, .ref a_kept, .ref a_isKept, .ref a_text, .int i_length, .int i_next, .ref a_read, .ref a_uses, .ref a_entry, .ref a_passed, .ref a_draft, .ref a_label, .ref a_met, .ref a_bracket, .ref a_matrix])), (a_now, .inl (cyI, 34, .inl f_now)), (a_label, .inl (cyI, 17, .inl f_label)), (a_matrix, .inl (cyI, 136, .inl o_matrix))]) (([.ref a_this, .int v1, .int v2, .int v3, .int v4] : List Value).toArray) s 0 0 A) (F0 m 0 ls []) by rw [hH] at hgo; exact hgo
  clear hH
  refine lv_bipush (v := 17) hx hb dX10_addTo_0 (by decide) ?_
  refine lv_iload_n hx hb dX10_addTo_2 rfl (lv_at hl 1 rfl) ?_
  refine lv_imul hx hb dX10_addTo_3 ?_
  refine lv_aload_n hx hb dX10_addTo_4 rfl (lv_at hl 0 rfl) ?_
  refine va_get (D := D) (ci := 7) (v := .ref a_label) (C := RX10) (T := TX10) (N := 17) hx hb hts qX10_addTo_X10 hown hK hP 0 rfl rfl 13 (Nat.le_of_ble_eq_true rfl) (hts (.fieldLink RX10 41 "KnotDiagramModel" "label" "[I") qX10_addTo_0) (fun _ h9 => h9) rfl dX10_addTo_5 ?_
  refine lv_aload_n hx hb dX10_addTo_8 rfl (lv_at hl 0 rfl) ?_
  refine lv_iload_n hx hb dX10_addTo_9 rfl (lv_at hl 2 rfl) ?_
  obtain ⟨r_1, hc_1, hf⟩ := bnd1_s hf
  refine kcVi (As := [.int v2]) (rest := [.ref a_label, .int (17 * v1)]) (w2 := [(a_this, .inr (7, [.ref a_now, .ref a_history, .int i_saved, .ref a_kept, .ref a_isKept, .ref a_text, .int i_length, .int i_next, .ref a_read, .ref a_uses, .ref a_entry, .ref a_passed, .ref a_draft, .ref a_label, .ref a_met, .ref a_bracket, .ref a_matrix])), (a_now, .inl (cyI, 34, .inl f_now)), (a_label, .inl (cyI, 17, .inl f_label)), (a_matrix, .inl (cyI, 136, .inl f_matrix))]) S hK hP hD hS hA hN (mX10_arc l D cyI cyZ H.size a_this a_now a_history a_kept a_isKept a_text a_read a_uses a_entry a_passed a_draft a_label a_met a_bracket a_matrix v2 i_saved i_length i_next f_now r_1 hc_1) (cwV 1 hts gX10_addTo_X10_arc rfl rfl rfl (by decide +kernel) ⟨Nat.le_of_ble_eq_true rfl, Nat.le_of_ble_eq_true rfl⟩) 7 0 rfl rfl [0, 1] [2, 3] [2, 3, 0, 1] rfl rfl rfl rfl (by decide) rfl rfl hl.1 (Nat.le_of_ble_eq_true rfl) dX10_addTo_10 ⟨Nat.le_of_ble_eq_true rfl, Nat.le_of_ble_eq_true rfl⟩ (fun H locs hP hD hS => ?_)
  obtain ⟨hi_2, hf⟩ := ck_s hf
  refine va_iald hx hb hK hP 2 0 rfl rfl hi_2 dX10_addTo_13 ?_
  refine lv_iadd hx hb dX10_addTo_14 ?_
  refine lv_istore (lv' := [(5, .int ((17 * v1) + (f_label r_1.toNatClampNeg))), (0, .ref a_this), (1, .int v1), (2, .int v2), (3, .int v3), (4, .int v4)]) hx hb dX10_addTo_15 hl (by decide) rfl (fun ls hl => ?_)
  refine lv_aload_n hx hb dX10_addTo_17 rfl (lv_at hl 1 rfl) ?_
  refine va_get (D := D) (ci := 7) (v := .ref a_matrix) (C := RX10) (T := TX10) (N := 17) hx hb hts qX10_addTo_X10 hown hK hP 0 rfl rfl 16 (Nat.le_of_ble_eq_true rfl) (hts (.fieldLink RX10 50 "KnotDiagramModel" "matrix" "[I") qX10_addTo_1) (fun _ h9 => h9) rfl dX10_addTo_18 ?_
  refine lv_iload hx hb dX10_addTo_21 (lv_at hl 0 rfl) ?_
  refine lv_aload_n hx hb dX10_addTo_23 rfl (lv_at hl 1 rfl) ?_
  refine va_get (D := D) (ci := 7) (v := .ref a_matrix) (C := RX10) (T := TX10) (N := 17) hx hb hts qX10_addTo_X10 hown hK hP 0 rfl rfl 16 (Nat.le_of_ble_eq_true rfl) (hts (.fieldLink RX10 50 "KnotDiagramModel" "matrix" "[I") qX10_addTo_1) (fun _ h9 => h9) rfl dX10_addTo_24 ?_
  refine lv_iload hx hb dX10_addTo_27 (lv_at hl 0 rfl) ?_
  obtain ⟨hi_3, hf⟩ := ck_s hf
  refine va_iald hx hb hK hP 3 0 rfl rfl hi_3 dX10_addTo_29 ?_
  refine lv_iload_n hx hb dX10_addTo_30 rfl (lv_at hl 4 rfl) ?_
  refine lv_iadd hx hb dX10_addTo_31 ?_
  refine lv_iload hx hb dX10_addTo_32 (lv_at hl 5 rfl) ?_
  refine lv_iadd hx hb dX10_addTo_34 ?_
  refine lv_iload hx hb dX10_addTo_35 (lv_at hl 5 rfl) ?_
  obtain ⟨hz_4, hf⟩ := cz_s hf
  refine k_irem hx hb dX10_addTo_37 hz_4 ?_
  obtain ⟨hi_5, hf⟩ := ck_s hf
  refine va_iast hx hb hK hP hD hS 3 0 rfl rfl hi_5 dX10_addTo_38 (fun H locs hP hD hS => ?_)
  replace hP : va_P D vwCl [(a_this, .inr (7, [.ref a_now, .ref a_history, .int i_saved, .ref a_kept, .ref a_isKept, .ref a_text, .int i_length, .int i_next, .ref a_read, .ref a_uses, .ref a_entry, .ref a_passed, .ref a_draft, .ref a_label, .ref a_met, .ref a_bracket, .ref a_matrix])), (a_now, .inl (cyI, 34, .inl f_now)), (a_label, .inl (cyI, 17, .inl f_label)), (a_matrix, .inl (cyI, 136, .inl (upd f_matrix ((17 * v1) + (f_label r_1.toNatClampNeg)).toNatClampNeg (irem (((f_matrix ((17 * v1) + (f_label r_1.toNatClampNeg)).toNatClampNeg) + v3) + v4) v4))))] H := hP
  replace hD : va_D A [(a_this, .inr (7, [.ref a_now, .ref a_history, .int i_saved, .ref a_kept, .ref a_isKept, .ref a_text, .int i_length, .int i_next, .ref a_read, .ref a_uses, .ref a_entry, .ref a_passed, .ref a_draft, .ref a_label, .ref a_met, .ref a_bracket, .ref a_matrix])), (a_now, .inl (cyI, 34, .inl f_now)), (a_label, .inl (cyI, 17, .inl f_label)), (a_matrix, .inl (cyI, 136, .inl (upd f_matrix ((17 * v1) + (f_label r_1.toNatClampNeg)).toNatClampNeg (irem (((f_matrix ((17 * v1) + (f_label r_1.toNatClampNeg)).toNatClampNeg) + v3) + v4) v4))))] := hD
  obtain rfl := some1_s hf
  exact kRv hx hb hr hlocks hP hK hD hS dX10_addTo_39
def kX10_layEquations_L2 (f_now : Nat → Int32) (v1 : Int32) (f_label : Nat → Int32) (K_2 : Int32 → (Nat → Int32) → Option ((Nat → Int32))) (v2_2 : Int32) (f_matrix_2 : Nat → Int32) : Option ((Nat → Int32)) :=
  bnd1 (kX10_crossings f_now) (fun r_1 => if r_1 ≤ v2_2 then some f_matrix_2 else bnd1 (kX10_addTo v2_2 (4 * v2_2) 1 v1 f_now f_label f_matrix_2) (fun o_matrix_2 => bnd1 (kX10_addTo v2_2 ((4 * v2_2) + 2) 1 v1 f_now f_label o_matrix_2) (fun o_matrix_3 => bnd1 (kX10_addTo v2_2 ((4 * v2_2) + 1) (-2) v1 f_now f_label o_matrix_3) (fun o_matrix_4 => K_2 (v2_2 + 1) o_matrix_4))))
def kX10_layEquations_L1 (f_now : Nat → Int32) (v1 : Int32) (f_label : Nat → Int32) (K_1 : Int32 → (Nat → Int32) → Option ((Nat → Int32))) (v2_1 : Int32) (f_matrix_1 : Nat → Int32) : Option ((Nat → Int32)) :=
  if 136 ≤ v2_1 then it2 (kX10_layEquations_L2 f_now v1 f_label) 400 0 f_matrix_1 else ck v2_1 136 (K_1 (v2_1 + 1) (upd f_matrix_1 v2_1.toNatClampNeg 0))
def kX10_layEquations (v1 : Int32) (f_now : Nat → Int32) (f_label : Nat → Int32) (f_matrix : Nat → Int32) : Option ((Nat → Int32)) :=
  it2 (kX10_layEquations_L1 f_now v1 f_label) 400 0 f_matrix
def rmX10_layEquations : Room := { frames := 2, cells := 0, slots := 0, locals := 46 }
theorem qX10_layEquations_0 : (.fieldLink RX10 50 "KnotDiagramModel" "matrix" "[I" : Cond) ∈ wsX10_layEquations := by decide +kernel
theorem qX10_layEquations_X10 : ∀ w ∈ wsX100, w ∈ wsX10_layEquations := by decide +kernel
set_option maxHeartbeats 4000000 in
set_option maxRecDepth 100000 in
theorem mX10_layEquations (l : Launch) (D : va_G) (cyI cyZ : ClassId) (sz : Nat) (a_this a_now a_history a_kept a_isKept a_text a_read a_uses a_entry a_passed a_draft a_label a_met a_bracket a_matrix : Nat) (v1 : Int32) (i_saved : Int32) (i_length : Int32) (i_next : Int32) (f_now : Nat → Int32) (f_label : Nat → Int32) (f_matrix : Nat → Int32) (o_matrix : Nat → Int32) (hf : kX10_layEquations v1 f_now f_label f_matrix = some o_matrix) : Met l yX10_layEquations wsX10_layEquations rmX10_layEquations (kPre D cyI cyZ [.ref a_this, .int v1] [(a_this, .inr (7, [.ref a_now, .ref a_history, .int i_saved, .ref a_kept, .ref a_isKept, .ref a_text, .int i_length, .int i_next, .ref a_read, .ref a_uses, .ref a_entry, .ref a_passed, .ref a_draft, .ref a_label, .ref a_met, .ref a_bracket, .ref a_matrix])), (a_now, .inl (cyI, 34, .inl f_now)), (a_label, .inl (cyI, 17, .inl f_label)), (a_matrix, .inl (cyI, 136, .inl f_matrix))] sz) (kQv D cyI cyZ (va_A [(a_this, .inr (7, [.ref a_now, .ref a_history, .int i_saved, .ref a_kept, .ref a_isKept, .ref a_text, .int i_length, .int i_next, .ref a_read, .ref a_uses, .ref a_entry, .ref a_passed, .ref a_draft, .ref a_label, .ref a_met, .ref a_bracket, .ref a_matrix])), (a_now, .inl (cyI, 34, .inl f_now)), (a_label, .inl (cyI, 17, .inl f_label)), (a_matrix, .inl (cyI, 136, .inl f_matrix))] sz) [(a_this, .inr (7, [.ref a_now, .ref a_history, .int i_saved, .ref a_kept, .ref a_isKept, .ref a_text, .int i_length, .int i_next, .ref a_read, .ref a_uses, .ref a_entry, .ref a_passed, .ref a_draft, .ref a_label, .ref a_met, .ref a_bracket, .ref a_matrix])), (a_now, .inl (cyI, 34, .inl f_now)), (a_label, .inl (cyI, 17, .inl f_label)), (a_matrix, .inl (cyI, 136, .inl o_matrix))]) 0 0 (va_A [(a_this, .inr (7, [.ref a_now, .ref a_history, .int i_saved, .ref a_kept, .ref a_isKept, .ref a_text, .int i_length, .int i_next, .ref a_read, .ref a_uses, .ref a_entry, .ref a_passed, .ref a_draft, .ref a_label, .ref a_met, .ref a_bracket, .ref a_matrix])), (a_now, .inl (cyI, 34, .inl f_now)), (a_label, .inl (cyI, 17, .inl f_label)), (a_matrix, .inl (cyI, 136, .inl f_matrix))] sz) := by
  refine Met.ofW (cc := cX10_layEquations) (maxL := 3) (ret := none) (by decide) rfl ?_
  intro p e s m args below meth c s₁ B hml hv
  obtain ⟨rfl, hsz, hP, hK, hD0, hN⟩ := hv
  have hx := B.exec
  have hb := B.bytes
  have hr := B.returns
  have hts := atoms_spec (ws := wsX10_layEquations) B.pre
  have hown : s.vm.findClass RX10 = some m.cls := findClass_of_methodNamed B.named
  have hlocks := B.notSynchronized
  subst hsz
  have hD := hD0.self (sz := s.heap.size)
  generalize hAe : va_A [(a_this, .inr (7, [.ref a_now, .ref a_history, .int i_saved, .ref a_kept, .ref a_isKept, .ref a_text, .int i_length, .int i_next, .ref a_read, .ref a_uses, .ref a_entry, .ref a_passed, .ref a_draft, .ref a_label, .ref a_met, .ref a_bracket, .ref a_matrix])), (a_now, .inl (cyI, 34, .inl f_now)), (a_label, .inl (cyI, 17, .inl f_label)), (a_matrix, .inl (cyI, 136, .inl f_matrix))] s.heap.size = A at hD ⊢
  have hA : ∀ q : Nat, s.heap.size ≤ q → A q := fun q h => by rw [← hAe]; exact Or.inr h
  clear hAe hD0
  have hS : va_S A s.heap s.heap [] := va_S.rf
  have S : CallFix p m c cX10_layEquations 3 s (([.ref a_this, .int v1] : List Value).toArray) wsX10_layEquations RX10 := ⟨hx, hb, hml, hown, hts⟩
  have hl := lv_entry ([.ref a_this, .int v1]) (n := 3) (Nat.le_of_ble_eq_true rfl)
  rw [lg_entry_eq]
  generalize (lg_sl ([.ref a_this, .int v1]) ++ List.replicate (3 - (lg_sl ([.ref a_this, .int v1])).length) Slot.unset).toArray = ls at hl ⊢
  replace hl : lv_has ls 3 [(0, .ref a_this), (1, .int v1)] := hl
  generalize ([] : List Loc) = locs at hS ⊢
  delta kX10_layEquations at hf
  obtain ⟨H, hH⟩ : ∃ H, H = s.heap := ⟨_, rfl⟩
  have hS : va_S A s.heap H locs := by rw [hH]; exact hS
  have hP : va_P D vwCl [(a_this, .inr (7, [.ref a_now, .ref a_history, .int i_saved, .ref a_kept, .ref a_isKept, .ref a_text, .int i_length, .int i_next, .ref a_read, .ref a_uses, .ref a_entry, .ref a_passed, .ref a_draft, .ref a_label, .ref a_met, .ref a_bracket, .ref a_matrix])), (a_now, .inl (cyI, 34, .inl f_now)), (a_label, .inl (cyI, 17, .inl f_label)), (a_matrix, .inl (cyI, 136, .inl f_matrix))] H := by rw [hH]; exact hP
  suffices hgo : W p l e (headSpec wsX10_layEquations rmX10_layEquations).room s m (([.ref a_this, .int v1] : List Value).toArray) below meth c H locs 0 0 (MQ below (kQv D cyI cyZ A [(a_this, .inr (7, [.ref a_now, .ref a_history, .int i_saved, .ref a_kept, .ref a_isKept, .ref a_text, .int i_length, .int i_next, .ref a_read, .ref a_uses, .ref a_entry, .ref a_passed, .ref a_draft, .ref a_label, .ref a_met, .ref a_bracket, .ref a_matrix])), (a_now, .inl (cyI, 34, .inl f_now)), (a_label, .inl (cyI, 17, .inl f_label)), (a_matrix, .inl (cyI, 136, .inl o_matrix))]) (([.ref a_this, .int v1] : List Value).toArray) s 0 0 A) (F0 m 0 ls []) by rw [hH] at hgo; exact hgo
  clear hH
  refine lv_iconst (v := 0) hx hb dX10_layEquations_0 (by decide) ?_
  refine lv_istore_n (lv' := [(2, .int 0), (0, .ref a_this), (1, .int v1)]) hx hb dX10_layEquations_1 rfl hl (by decide) rfl (fun ls hl => ?_)
  have hL_1 : ∀ (n : Nat) (v2_1 : Int32) (f_matrix_1 : Nat → Int32) (H : Heap) (locs : List Loc) (ls : Array Slot), it2 (kX10_layEquations_L1 f_now v1 f_label) n v2_1 f_matrix_1 = some o_matrix → va_P D vwCl [(a_this, .inr (7, [.ref a_now, .ref a_history, .int i_saved, .ref a_kept, .ref a_isKept, .ref a_text, .int i_length, .int i_next, .ref a_read, .ref a_uses, .ref a_entry, .ref a_passed, .ref a_draft, .ref a_label, .ref a_met, .ref a_bracket, .ref a_matrix])), (a_now, .inl (cyI, 34, .inl f_now)), (a_label, .inl (cyI, 17, .inl f_label)), (a_matrix, .inl (cyI, 136, .inl f_matrix_1))] H → va_D A [(a_this, .inr (7, [.ref a_now, .ref a_history, .int i_saved, .ref a_kept, .ref a_isKept, .ref a_text, .int i_length, .int i_next, .ref a_read, .ref a_uses, .ref a_entry, .ref a_passed, .ref a_draft, .ref a_label, .ref a_met, .ref a_bracket, .ref a_matrix])), (a_now, .inl (cyI, 34, .inl f_now)), (a_label, .inl (cyI, 17, .inl f_label)), (a_matrix, .inl (cyI, 136, .inl f_matrix_1))] → va_S A s.heap H locs → lv_has ls 3 [(0, .ref a_this), (1, .int v1), (2, .int v2_1)] → W p l e (headSpec wsX10_layEquations rmX10_layEquations).room s m (([.ref a_this, .int v1] : List Value).toArray) below meth c H locs 0 0 (MQ below (kQv D cyI cyZ A [(a_this, .inr (7, [.ref a_now, .ref a_history, .int i_saved, .ref a_kept, .ref a_isKept, .ref a_text, .int i_length, .int i_next, .ref a_read, .ref a_uses, .ref a_entry, .ref a_passed, .ref a_draft, .ref a_label, .ref a_met, .ref a_bracket, .ref a_matrix])), (a_now, .inl (cyI, 34, .inl f_now)), (a_label, .inl (cyI, 17, .inl f_label)), (a_matrix, .inl (cyI, 136, .inl o_matrix))]) (([.ref a_this, .int v1] : List Value).toArray) s 0 0 A) (F0 m 2 ls []) := by
    intro n_1
    induction n_1 with
    | zero =>
      intro _ _ _ _ _ hf
      exact (it2_z hf).elim
    | succ n_1 ih_1 =>
      intro v2_1 f_matrix_1 H locs ls hf hP hD hS hl
      replace hf := it2_s hf
      rw [kX10_layEquations_L1] at hf
      refine lv_iload_n hx hb dX10_layEquations_2 rfl (lv_at hl 2 rfl) ?_
      refine lv_sipush (v := 136) hx hb dX10_layEquations_3 (by decide) ?_
      refine lv_icmp_ge (tgt := 22) hx hb dX10_layEquations_6 (by decide) (fun c_7 => ?_) (fun c_7 => ?_)
      · replace hf := kt_p hf c_7
        refine lv_iconst (v := 0) hx hb dX10_layEquations_22 (by decide) ?_
        refine lv_istore_n (lv' := [(2, .int 0), (0, .ref a_this), (1, .int v1)]) hx hb dX10_layEquations_23 rfl hl (by decide) rfl (fun ls hl => ?_)
        have hL_2 : ∀ (n : Nat) (v2_2 : Int32) (f_matrix_2 : Nat → Int32) (H : Heap) (locs : List Loc) (ls : Array Slot), it2 (kX10_layEquations_L2 f_now v1 f_label) n v2_2 f_matrix_2 = some o_matrix → va_P D vwCl [(a_this, .inr (7, [.ref a_now, .ref a_history, .int i_saved, .ref a_kept, .ref a_isKept, .ref a_text, .int i_length, .int i_next, .ref a_read, .ref a_uses, .ref a_entry, .ref a_passed, .ref a_draft, .ref a_label, .ref a_met, .ref a_bracket, .ref a_matrix])), (a_now, .inl (cyI, 34, .inl f_now)), (a_label, .inl (cyI, 17, .inl f_label)), (a_matrix, .inl (cyI, 136, .inl f_matrix_2))] H → va_D A [(a_this, .inr (7, [.ref a_now, .ref a_history, .int i_saved, .ref a_kept, .ref a_isKept, .ref a_text, .int i_length, .int i_next, .ref a_read, .ref a_uses, .ref a_entry, .ref a_passed, .ref a_draft, .ref a_label, .ref a_met, .ref a_bracket, .ref a_matrix])), (a_now, .inl (cyI, 34, .inl f_now)), (a_label, .inl (cyI, 17, .inl f_label)), (a_matrix, .inl (cyI, 136, .inl f_matrix_2))] → va_S A s.heap H locs → lv_has ls 3 [(0, .ref a_this), (1, .int v1), (2, .int v2_2)] → W p l e (headSpec wsX10_layEquations rmX10_layEquations).room s m (([.ref a_this, .int v1] : List Value).toArray) below meth c H locs 0 0 (MQ below (kQv D cyI cyZ A [(a_this, .inr (7, [.ref a_now, .ref a_history, .int i_saved, .ref a_kept, .ref a_isKept, .ref a_text, .int i_length, .int i_next, .ref a_read, .ref a_uses, .ref a_entry, .ref a_passed, .ref a_draft, .ref a_label, .ref a_met, .ref a_bracket, .ref a_matrix])), (a_now, .inl (cyI, 34, .inl f_now)), (a_label, .inl (cyI, 17, .inl f_label)), (a_matrix, .inl (cyI, 136, .inl o_matrix))]) (([.ref a_this, .int v1] : List Value).toArray) s 0 0 A) (F0 m 24 ls []) := by
          intro n_2
          induction n_2 with
          | zero =>
            intro _ _ _ _ _ hf
            exact (it2_z hf).elim
          | succ n_2 ih_2 =>
            intro v2_2 f_matrix_2 H locs ls hf hP hD hS hl
            replace hf := it2_s hf
            rw [kX10_layEquations_L2] at hf
            refine lv_iload_n hx hb dX10_layEquations_24 rfl (lv_at hl 2 rfl) ?_
            refine lv_aload_n hx hb dX10_layEquations_25 rfl (lv_at hl 0 rfl) ?_
            obtain ⟨r_1, hc_1, hf⟩ := bnd1_s hf
            refine kcVi (As := []) (rest := [.int v2_2]) (w2 := [(a_this, .inr (7, [.ref a_now, .ref a_history, .int i_saved, .ref a_kept, .ref a_isKept, .ref a_text, .int i_length, .int i_next, .ref a_read, .ref a_uses, .ref a_entry, .ref a_passed, .ref a_draft, .ref a_label, .ref a_met, .ref a_bracket, .ref a_matrix])), (a_now, .inl (cyI, 34, .inl f_now)), (a_label, .inl (cyI, 17, .inl f_label)), (a_matrix, .inl (cyI, 136, .inl f_matrix_2))]) S hK hP hD hS hA hN (mX10_crossings l D cyI cyZ H.size a_this a_now a_history a_kept a_isKept a_text a_read a_uses a_entry a_passed a_draft a_label a_met a_bracket a_matrix i_saved i_length i_next f_now r_1 hc_1) (cwV 0 hts gX10_layEquations_X10_crossings rfl rfl rfl (by decide +kernel) ⟨Nat.le_of_ble_eq_true rfl, Nat.le_of_ble_eq_true rfl⟩) 7 0 rfl rfl [0, 1] [2, 3] [2, 3, 0, 1] rfl rfl rfl rfl (by decide) rfl rfl hl.1 (Nat.le_of_ble_eq_true rfl) dX10_layEquations_26 ⟨Nat.le_of_ble_eq_true rfl, Nat.le_of_ble_eq_true rfl⟩ (fun H locs hP hD hS => ?_)
            refine lv_icmp_ge (tgt := 73) hx hb dX10_layEquations_29 (by decide) (fun c_5 => ?_) (fun c_5 => ?_)
            · replace hf := kt_p hf c_5
              obtain rfl := some1_s hf
              exact kRv hx hb hr hlocks hP hK hD hS dX10_layEquations_73
            · replace hf := kt_n hf c_5
              refine lv_aload_n hx hb dX10_layEquations_32 rfl (lv_at hl 0 rfl) ?_
              refine lv_iload_n hx hb dX10_layEquations_33 rfl (lv_at hl 2 rfl) ?_
              refine lv_iconst (v := 4) hx hb dX10_layEquations_34 (by decide) ?_
              refine lv_iload_n hx hb dX10_layEquations_35 rfl (lv_at hl 2 rfl) ?_
              refine lv_imul hx hb dX10_layEquations_36 ?_
              refine lv_iconst (v := 1) hx hb dX10_layEquations_37 (by decide) ?_
              refine lv_iload_n hx hb dX10_layEquations_38 rfl (lv_at hl 1 rfl) ?_
              obtain ⟨o_matrix_2, hc_2, hf⟩ := bnd1_s hf
              refine kcVv (As := [.int v2_2, .int (4 * v2_2), .int 1, .int v1]) (rest := []) (w2 := [(a_this, .inr (7, [.ref a_now, .ref a_history, .int i_saved, .ref a_kept, .ref a_isKept, .ref a_text, .int i_length, .int i_next, .ref a_read, .ref a_uses, .ref a_entry, .ref a_passed, .ref a_draft, .ref a_label, .ref a_met, .ref a_bracket, .ref a_matrix])), (a_now, .inl (cyI, 34, .inl f_now)), (a_label, .inl (cyI, 17, .inl f_label)), (a_matrix, .inl (cyI, 136, .inl o_matrix_2))]) S hK hP hD hS hA hN (mX10_addTo l D cyI cyZ H.size a_this a_now a_history a_kept a_isKept a_text a_read a_uses a_entry a_passed a_draft a_label a_met a_bracket a_matrix v2_2 (4 * v2_2) 1 v1 i_saved i_length i_next f_now f_label f_matrix_2 o_matrix_2 hc_2) (cwV 4 hts gX10_layEquations_X10_addTo rfl rfl rfl (by decide +kernel) ⟨Nat.le_of_ble_eq_true rfl, Nat.le_of_ble_eq_true rfl⟩) 7 0 rfl rfl [0, 1, 2, 3] [] [0, 1, 2, 3] rfl rfl rfl rfl (by decide) rfl rfl hl.1 (Nat.le_of_ble_eq_true rfl) dX10_layEquations_39 ⟨Nat.le_of_ble_eq_true rfl, Nat.le_of_ble_eq_true rfl⟩ (fun H locs hP hD hS => ?_)
              refine lv_aload_n hx hb dX10_layEquations_42 rfl (lv_at hl 0 rfl) ?_
              refine lv_iload_n hx hb dX10_layEquations_43 rfl (lv_at hl 2 rfl) ?_
              refine lv_iconst (v := 4) hx hb dX10_layEquations_44 (by decide) ?_
              refine lv_iload_n hx hb dX10_layEquations_45 rfl (lv_at hl 2 rfl) ?_
              refine lv_imul hx hb dX10_layEquations_46 ?_
              refine lv_iconst (v := 2) hx hb dX10_layEquations_47 (by decide) ?_
              refine lv_iadd hx hb dX10_layEquations_48 ?_
              refine lv_iconst (v := 1) hx hb dX10_layEquations_49 (by decide) ?_
              refine lv_iload_n hx hb dX10_layEquations_50 rfl (lv_at hl 1 rfl) ?_
              obtain ⟨o_matrix_3, hc_3, hf⟩ := bnd1_s hf
              refine kcVv (As := [.int v2_2, .int ((4 * v2_2) + 2), .int 1, .int v1]) (rest := []) (w2 := [(a_this, .inr (7, [.ref a_now, .ref a_history, .int i_saved, .ref a_kept, .ref a_isKept, .ref a_text, .int i_length, .int i_next, .ref a_read, .ref a_uses, .ref a_entry, .ref a_passed, .ref a_draft, .ref a_label, .ref a_met, .ref a_bracket, .ref a_matrix])), (a_now, .inl (cyI, 34, .inl f_now)), (a_label, .inl (cyI, 17, .inl f_label)), (a_matrix, .inl (cyI, 136, .inl o_matrix_3))]) S hK hP hD hS hA hN (mX10_addTo l D cyI cyZ H.size a_this a_now a_history a_kept a_isKept a_text a_read a_uses a_entry a_passed a_draft a_label a_met a_bracket a_matrix v2_2 ((4 * v2_2) + 2) 1 v1 i_saved i_length i_next f_now f_label o_matrix_2 o_matrix_3 hc_3) (cwV 4 hts gX10_layEquations_X10_addTo rfl rfl rfl (by decide +kernel) ⟨Nat.le_of_ble_eq_true rfl, Nat.le_of_ble_eq_true rfl⟩) 7 0 rfl rfl [0, 1, 2, 3] [] [0, 1, 2, 3] rfl rfl rfl rfl (by decide) rfl rfl hl.1 (Nat.le_of_ble_eq_true rfl) dX10_layEquations_51 ⟨Nat.le_of_ble_eq_true rfl, Nat.le_of_ble_eq_true rfl⟩ (fun H locs hP hD hS => ?_)
              refine lv_aload_n hx hb dX10_layEquations_54 rfl (lv_at hl 0 rfl) ?_
              refine lv_iload_n hx hb dX10_layEquations_55 rfl (lv_at hl 2 rfl) ?_
              refine lv_iconst (v := 4) hx hb dX10_layEquations_56 (by decide) ?_
              refine lv_iload_n hx hb dX10_layEquations_57 rfl (lv_at hl 2 rfl) ?_
              refine lv_imul hx hb dX10_layEquations_58 ?_
              refine lv_iconst (v := 1) hx hb dX10_layEquations_59 (by decide) ?_
              refine lv_iadd hx hb dX10_layEquations_60 ?_
              refine lv_bipush (v := (-2)) hx hb dX10_layEquations_61 (by decide) ?_
              refine lv_iload_n hx hb dX10_layEquations_63 rfl (lv_at hl 1 rfl) ?_
              obtain ⟨o_matrix_4, hc_4, hf⟩ := bnd1_s hf
              refine kcVv (As := [.int v2_2, .int ((4 * v2_2) + 1), .int (-2), .int v1]) (rest := []) (w2 := [(a_this, .inr (7, [.ref a_now, .ref a_history, .int i_saved, .ref a_kept, .ref a_isKept, .ref a_text, .int i_length, .int i_next, .ref a_read, .ref a_uses, .ref a_entry, .ref a_passed, .ref a_draft, .ref a_label, .ref a_met, .ref a_bracket, .ref a_matrix])), (a_now, .inl (cyI, 34, .inl f_now)), (a_label, .inl (cyI, 17, .inl f_label)), (a_matrix, .inl (cyI, 136, .inl o_matrix_4))]) S hK hP hD hS hA hN (mX10_addTo l D cyI cyZ H.size a_this a_now a_history a_kept a_isKept a_text a_read a_uses a_entry a_passed a_draft a_label a_met a_bracket a_matrix v2_2 ((4 * v2_2) + 1) (-2) v1 i_saved i_length i_next f_now f_label o_matrix_3 o_matrix_4 hc_4) (cwV 4 hts gX10_layEquations_X10_addTo rfl rfl rfl (by decide +kernel) ⟨Nat.le_of_ble_eq_true rfl, Nat.le_of_ble_eq_true rfl⟩) 7 0 rfl rfl [0, 1, 2, 3] [] [0, 1, 2, 3] rfl rfl rfl rfl (by decide) rfl rfl hl.1 (Nat.le_of_ble_eq_true rfl) dX10_layEquations_64 ⟨Nat.le_of_ble_eq_true rfl, Nat.le_of_ble_eq_true rfl⟩ (fun H locs hP hD hS => ?_)
              refine lv_iinc (v := (v2_2 + 1)) (lv' := [(2, .int (v2_2 + 1)), (0, .ref a_this), (1, .int v1)]) hx hb dX10_layEquations_67 hl (k := 2) rfl rfl (by decide) rfl (fun ls hl => ?_)
              refine lv_goto (tgt := 24) hx hb dX10_layEquations_70 (by decide) ?_
              exact ih_2 (v2_2 + 1) o_matrix_4 H locs ls hf hP hD hS (lv_sub hl [1, 2, 0] rfl)
        exact hL_2 400 0 f_matrix_1 H locs ls hf hP hD hS (lv_sub hl [1, 2, 0] rfl)
      · replace hf := kt_n hf c_7
        refine lv_aload_n hx hb dX10_layEquations_9 rfl (lv_at hl 0 rfl) ?_
        refine va_get (D := D) (ci := 7) (v := .ref a_matrix) (C := RX10) (T := TX10) (N := 17) hx hb hts qX10_layEquations_X10 hown hK hP 0 rfl rfl 16 (Nat.le_of_ble_eq_true rfl) (hts (.fieldLink RX10 50 "KnotDiagramModel" "matrix" "[I") qX10_layEquations_0) (fun _ h9 => h9) rfl dX10_layEquations_10 ?_
        refine lv_iload_n hx hb dX10_layEquations_13 rfl (lv_at hl 2 rfl) ?_
        refine lv_iconst (v := 0) hx hb dX10_layEquations_14 (by decide) ?_
        obtain ⟨hi_6, hf⟩ := ck_s hf
        refine va_iast hx hb hK hP hD hS 3 0 rfl rfl hi_6 dX10_layEquations_15 (fun H locs hP hD hS => ?_)
        replace hP : va_P D vwCl [(a_this, .inr (7, [.ref a_now, .ref a_history, .int i_saved, .ref a_kept, .ref a_isKept, .ref a_text, .int i_length, .int i_next, .ref a_read, .ref a_uses, .ref a_entry, .ref a_passed, .ref a_draft, .ref a_label, .ref a_met, .ref a_bracket, .ref a_matrix])), (a_now, .inl (cyI, 34, .inl f_now)), (a_label, .inl (cyI, 17, .inl f_label)), (a_matrix, .inl (cyI, 136, .inl (upd f_matrix_1 v2_1.toNatClampNeg 0)))] H := hP
        replace hD : va_D A [(a_this, .inr (7, [.ref a_now, .ref a_history, .int i_saved, .ref a_kept, .ref a_isKept, .ref a_text, .int i_length, .int i_next, .ref a_read, .ref a_uses, .ref a_entry, .ref a_passed, .ref a_draft, .ref a_label, .ref a_met, .ref a_bracket, .ref a_matrix])), (a_now, .inl (cyI, 34, .inl f_now)), (a_label, .inl (cyI, 17, .inl f_label)), (a_matrix, .inl (cyI, 136, .inl (upd f_matrix_1 v2_1.toNatClampNeg 0)))] := hD
        refine lv_iinc (v := (v2_1 + 1)) (lv' := [(2, .int (v2_1 + 1)), (0, .ref a_this), (1, .int v1)]) hx hb dX10_layEquations_16 hl (k := 2) rfl rfl (by decide) rfl (fun ls hl => ?_)
        refine lv_goto (tgt := 2) hx hb dX10_layEquations_19 (by decide) ?_
        exact ih_1 (v2_1 + 1) (upd f_matrix_1 v2_1.toNatClampNeg 0) H locs ls hf hP hD hS (lv_sub hl [1, 2, 0] rfl)
  exact hL_1 400 0 f_matrix H locs ls hf hP hD hS (lv_sub hl [1, 2, 0] rfl)
