def kX10_in_J1   : Option (Int32) :=
  some 0
def kX10_in (v0 : Int32) (v1 : Int32) (v2 : Int32) : Option (Int32) :=
  if v0 < v1 then kX10_in_J1 else if v2 < v0 then kX10_in_J1 else some 1
def rmX10_in : Room := { frames := 0, cells := 0, slots := 0, locals := 0 }
set_option maxHeartbeats 4000000 in
set_option maxRecDepth 100000 in
theorem mX10_in (l : Launch) (D : va_G) (cyI cyZ : ClassId) (sz : Nat) (v0 : Int32) (v1 : Int32) (v2 : Int32) (r : Int32) (hf : kX10_in v0 v1 v2 = some r) : Met l yX10_in wsX10_in rmX10_in (kPre D cyI cyZ [.int v0, .int v1, .int v2] [] sz) (kQi D cyI cyZ (va_A [] sz) [] r) 0 0 (va_A [] sz) := by
  refine Met.ofW (cc := cX10_in) (maxL := 3) (ret := (some .boolean)) (by decide) rfl ?_
  intro p e s m args below meth c s₁ B hml hv
  obtain ⟨rfl, hsz, hP, hK, hD0, hN⟩ := hv
  have hx := B.exec
  have hb := B.bytes
  have hr := B.returns
  have hts := atoms_spec (ws := wsX10_in) B.pre
  have hown : s.vm.findClass RX10 = some m.cls := findClass_of_methodNamed B.named
  have hlocks := B.notSynchronized
  subst hsz
  have hD := hD0.self (sz := s.heap.size)
  generalize hAe : va_A [] s.heap.size = A at hD ⊢
  have hA : ∀ q : Nat, s.heap.size ≤ q → A q := fun q h => by rw [← hAe]; exact Or.inr h
  clear hAe hD0
  have hS : va_S A s.heap s.heap [] := va_S.rf
  have S : CallFix p m c cX10_in 3 s (([.int v0, .int v1, .int v2] : List Value).toArray) wsX10_in RX10 := ⟨hx, hb, hml, hown, hts⟩
  have hl := lv_entry ([.int v0, .int v1, .int v2]) (n := 3) (Nat.le_of_ble_eq_true rfl)
  rw [lg_entry_eq]
  generalize (lg_sl ([.int v0, .int v1, .int v2]) ++ List.replicate (3 - (lg_sl ([.int v0, .int v1, .int v2])).length) Slot.unset).toArray = ls at hl ⊢
  replace hl : lv_has ls 3 [(0, .int v0), (1, .int v1), (2, .int v2)] := hl
  generalize ([] : List Loc) = locs at hS ⊢
  delta kX10_in at hf
  obtain ⟨H, hH⟩ : ∃ H, H = s.heap := ⟨_, rfl⟩
  have hS : va_S A s.heap H locs := by rw [hH]; exact hS
  have hP : va_P D vwCl [] H := by rw [hH]; exact hP
  suffices hgo : W p l e (headSpec wsX10_in rmX10_in).room s m (([.int v0, .int v1, .int v2] : List Value).toArray) below meth c H locs 0 0 (MQ below (kQi D cyI cyZ A [] r) (([.int v0, .int v1, .int v2] : List Value).toArray) s 0 0 A) (F0 m 0 ls []) by rw [hH] at hgo; exact hgo
  clear hH
  refine lv_iload_n hx hb dX10_in_0 rfl (lv_at hl 0 rfl) ?_
  refine lv_iload_n hx hb dX10_in_1 rfl (lv_at hl 1 rfl) ?_
  have hJ_1 : ∀  (H : Heap) (locs : List Loc) (ls : Array Slot), kX10_in_J1  = some r → va_P D vwCl [] H → va_D A [] → va_S A s.heap H locs → lv_has ls 3 [] → W p l e (headSpec wsX10_in rmX10_in).room s m (([.int v0, .int v1, .int v2] : List Value).toArray) below meth c H locs 0 0 (MQ below (kQi D cyI cyZ A [] r) (([.int v0, .int v1, .int v2] : List Value).toArray) s 0 0 A) (F0 m 14 ls []) := by
    intro  H locs ls hf hP hD hS hl
    delta kX10_in_J1 at hf
    refine lv_iconst (v := 0) hx hb dX10_in_14 (by decide) ?_
    obtain rfl := some1_s hf
    exact kRz hx hb hr hlocks hP hK hD hS zn0 rfl dX10_in_15
  refine lv_icmp_lt (tgt := 14) hx hb dX10_in_2 (by decide) (fun c_2 => ?_) (fun c_2 => ?_)
  · replace hf := kt_p hf c_2
    exact hJ_1 H locs ls hf hP hD hS (lv_sub hl [] rfl)
  · replace hf := kt_n hf c_2
    refine lv_iload_n hx hb dX10_in_5 rfl (lv_at hl 0 rfl) ?_
    refine lv_iload_n hx hb dX10_in_6 rfl (lv_at hl 2 rfl) ?_
    refine lv_icmp_gt (tgt := 14) hx hb dX10_in_7 (by decide) (fun c_1 => ?_) (fun c_1 => ?_)
    · replace hf := kt_p hf c_1
      exact hJ_1 H locs ls hf hP hD hS (lv_sub hl [] rfl)
    · replace hf := kt_n hf c_1
      refine lv_iconst (v := 1) hx hb dX10_in_10 (by decide) ?_
      refine lv_goto (tgt := 15) hx hb dX10_in_11 (by decide) ?_
      obtain rfl := some1_s hf
      exact kRz hx hb hr hlocks hP hK hD hS zn1 rfl dX10_in_15
def kX10_crossings (f_now : Nat → Int32) : Option (Int32) :=
  ck 0 34 (some (f_now (0 : Int32).toNatClampNeg))
def rmX10_crossings : Room := { frames := 0, cells := 0, slots := 0, locals := 0 }
theorem qX10_crossings_0 : (.fieldLink RX10 7 "KnotDiagramModel" "now" "[I" : Cond) ∈ wsX10_crossings := by decide +kernel
theorem qX10_crossings_X10 : ∀ w ∈ wsX100, w ∈ wsX10_crossings := by decide +kernel
set_option maxHeartbeats 4000000 in
set_option maxRecDepth 100000 in
theorem mX10_crossings (l : Launch) (D : va_G) (cyI cyZ : ClassId) (sz : Nat) (a_this a_now a_history a_kept a_isKept a_text a_read a_uses a_entry a_passed a_draft a_label a_met a_bracket a_matrix : Nat) (i_saved : Int32) (i_length : Int32) (i_next : Int32) (f_now : Nat → Int32) (r : Int32) (hf : kX10_crossings f_now = some r) : Met l yX10_crossings wsX10_crossings rmX10_crossings (kPre D cyI cyZ [.ref a_this] [(a_this, .inr (7, [.ref a_now, .ref a_history, .int i_saved, .ref a_kept, .ref a_isKept, .ref a_text, .int i_length, .int i_next, .ref a_read, .ref a_uses, .ref a_entry, .ref a_passed, .ref a_draft, .ref a_label, .ref a_met, .ref a_bracket, .ref a_matrix])), (a_now, .inl (cyI, 34, .inl f_now))] sz) (kQi D cyI cyZ (va_A [(a_this, .inr (7, [.ref a_now, .ref a_history, .int i_saved, .ref a_kept, .ref a_isKept, .ref a_text, .int i_length, .int i_next, .ref a_read, .ref a_uses, .ref a_entry, .ref a_passed, .ref a_draft, .ref a_label, .ref a_met, .ref a_bracket, .ref a_matrix])), (a_now, .inl (cyI, 34, .inl f_now))] sz) [(a_this, .inr (7, [.ref a_now, .ref a_history, .int i_saved, .ref a_kept, .ref a_isKept, .ref a_text, .int i_length, .int i_next, .ref a_read, .ref a_uses, .ref a_entry, .ref a_passed, .ref a_draft, .ref a_label, .ref a_met, .ref a_bracket, .ref a_matrix])), (a_now, .inl (cyI, 34, .inl f_now))] r) 0 0 (va_A [(a_this, .inr (7, [.ref a_now, .ref a_history, .int i_saved, .ref a_kept, .ref a_isKept, .ref a_text, .int i_length, .int i_next, .ref a_read, .ref a_uses, .ref a_entry, .ref a_passed, .ref a_draft, .ref a_label, .ref a_met, .ref a_bracket, .ref a_matrix])), (a_now, .inl (cyI, 34, .inl f_now))] sz) := by
  refine Met.ofW (cc := cX10_crossings) (maxL := 1) (ret := (some .int)) (by decide) rfl ?_
  intro p e s m args below meth c s₁ B hml hv
  obtain ⟨rfl, hsz, hP, hK, hD0, hN⟩ := hv
  have hx := B.exec
  have hb := B.bytes
  have hr := B.returns
  have hts := atoms_spec (ws := wsX10_crossings) B.pre
  have hown : s.vm.findClass RX10 = some m.cls := findClass_of_methodNamed B.named
  have hlocks := B.notSynchronized
  subst hsz
  have hD := hD0.self (sz := s.heap.size)
  generalize hAe : va_A [(a_this, .inr (7, [.ref a_now, .ref a_history, .int i_saved, .ref a_kept, .ref a_isKept, .ref a_text, .int i_length, .int i_next, .ref a_read, .ref a_uses, .ref a_entry, .ref a_passed, .ref a_draft, .ref a_label, .ref a_met, .ref a_bracket, .ref a_matrix])), (a_now, .inl (cyI, 34, .inl f_now))] s.heap.size = A at hD ⊢
  have hA : ∀ q : Nat, s.heap.size ≤ q → A q := fun q h => by rw [← hAe]; exact Or.inr h
  clear hAe hD0
  have hS : va_S A s.heap s.heap [] := va_S.rf
  have S : CallFix p m c cX10_crossings 1 s (([.ref a_this] : List Value).toArray) wsX10_crossings RX10 := ⟨hx, hb, hml, hown, hts⟩
  have hl := lv_entry ([.ref a_this]) (n := 1) (Nat.le_of_ble_eq_true rfl)
  rw [lg_entry_eq]
  generalize (lg_sl ([.ref a_this]) ++ List.replicate (1 - (lg_sl ([.ref a_this])).length) Slot.unset).toArray = ls at hl ⊢
  replace hl : lv_has ls 1 [(0, .ref a_this)] := hl
  generalize ([] : List Loc) = locs at hS ⊢
  delta kX10_crossings at hf
  obtain ⟨H, hH⟩ : ∃ H, H = s.heap := ⟨_, rfl⟩
  have hS : va_S A s.heap H locs := by rw [hH]; exact hS
  have hP : va_P D vwCl [(a_this, .inr (7, [.ref a_now, .ref a_history, .int i_saved, .ref a_kept, .ref a_isKept, .ref a_text, .int i_length, .int i_next, .ref a_read, .ref a_uses, .ref a_entry, .ref a_passed, .ref a_draft, .ref a_label, .ref a_met, .ref a_bracket, .ref a_matrix])), (a_now, .inl (cyI, 34, .inl f_now))] H := by rw [hH]; exact hP
  suffices hgo : W p l e (headSpec wsX10_crossings rmX10_crossings).room s m (([.ref a_this] : List Value).toArray) below meth c H locs 0 0 (MQ below (kQi D cyI cyZ A [(a_this, .inr (7, [.ref a_now, .ref a_history, .int i_saved, .ref a_kept, .ref a_isKept, .ref a_text, .int i_length, .int i_next, .ref a_read, .ref a_uses, .ref a_entry, .ref a_passed, .ref a_draft, .ref a_label, .ref a_met, .ref a_bracket, .ref a_matrix])), (a_now, .inl (cyI, 34, .inl f_now))] r) (([.ref a_this] : List Value).toArray) s 0 0 A) (F0 m 0 ls []) by rw [hH] at hgo; exact hgo
  clear hH
  refine lv_aload_n hx hb dX10_crossings_0 rfl (lv_at hl 0 rfl) ?_
  refine va_get (D := D) (ci := 7) (v := .ref a_now) (C := RX10) (T := TX10) (N := 17) hx hb hts qX10_crossings_X10 hown hK hP 0 rfl rfl 0 (Nat.le_of_ble_eq_true rfl) (hts (.fieldLink RX10 7 "KnotDiagramModel" "now" "[I") qX10_crossings_0) (fun _ h9 => h9) rfl dX10_crossings_1 ?_
  refine lv_iconst (v := 0) hx hb dX10_crossings_4 (by decide) ?_
  obtain ⟨hi_1, hf⟩ := ck_s hf
  refine va_iald hx hb hK hP 1 0 rfl rfl hi_1 dX10_crossings_5 ?_
  obtain rfl := some1_s hf
  exact kRi hx hb hr hlocks hP hK hD hS rfl dX10_crossings_6
def kX10_ends (f_now : Nat → Int32) : Option (Int32) :=
  ck 0 34 (some (4 * (f_now (0 : Int32).toNatClampNeg)))
def rmX10_ends : Room := { frames := 0, cells := 0, slots := 0, locals := 0 }
theorem qX10_ends_0 : (.fieldLink RX10 7 "KnotDiagramModel" "now" "[I" : Cond) ∈ wsX10_ends := by decide +kernel
theorem qX10_ends_X10 : ∀ w ∈ wsX100, w ∈ wsX10_ends := by decide +kernel
set_option maxHeartbeats 4000000 in
set_option maxRecDepth 100000 in
theorem mX10_ends (l : Launch) (D : va_G) (cyI cyZ : ClassId) (sz : Nat) (a_this a_now a_history a_kept a_isKept a_text a_read a_uses a_entry a_passed a_draft a_label a_met a_bracket a_matrix : Nat) (i_saved : Int32) (i_length : Int32) (i_next : Int32) (f_now : Nat → Int32) (r : Int32) (hf : kX10_ends f_now = some r) : Met l yX10_ends wsX10_ends rmX10_ends (kPre D cyI cyZ [.ref a_this] [(a_this, .inr (7, [.ref a_now, .ref a_history, .int i_saved, .ref a_kept, .ref a_isKept, .ref a_text, .int i_length, .int i_next, .ref a_read, .ref a_uses, .ref a_entry, .ref a_passed, .ref a_draft, .ref a_label, .ref a_met, .ref a_bracket, .ref a_matrix])), (a_now, .inl (cyI, 34, .inl f_now))] sz) (kQi D cyI cyZ (va_A [(a_this, .inr (7, [.ref a_now, .ref a_history, .int i_saved, .ref a_kept, .ref a_isKept, .ref a_text, .int i_length, .int i_next, .ref a_read, .ref a_uses, .ref a_entry, .ref a_passed, .ref a_draft, .ref a_label, .ref a_met, .ref a_bracket, .ref a_matrix])), (a_now, .inl (cyI, 34, .inl f_now))] sz) [(a_this, .inr (7, [.ref a_now, .ref a_history, .int i_saved, .ref a_kept, .ref a_isKept, .ref a_text, .int i_length, .int i_next, .ref a_read, .ref a_uses, .ref a_entry, .ref a_passed, .ref a_draft, .ref a_label, .ref a_met, .ref a_bracket, .ref a_matrix])), (a_now, .inl (cyI, 34, .inl f_now))] r) 0 0 (va_A [(a_this, .inr (7, [.ref a_now, .ref a_history, .int i_saved, .ref a_kept, .ref a_isKept, .ref a_text, .int i_length, .int i_next, .ref a_read, .ref a_uses, .ref a_entry, .ref a_passed, .ref a_draft, .ref a_label, .ref a_met, .ref a_bracket, .ref a_matrix])), (a_now, .inl (cyI, 34, .inl f_now))] sz) := by
  refine Met.ofW (cc := cX10_ends) (maxL := 1) (ret := (some .int)) (by decide) rfl ?_
  intro p e s m args below meth c s₁ B hml hv
  obtain ⟨rfl, hsz, hP, hK, hD0, hN⟩ := hv
  have hx := B.exec
  have hb := B.bytes
  have hr := B.returns
  have hts := atoms_spec (ws := wsX10_ends) B.pre
  have hown : s.vm.findClass RX10 = some m.cls := findClass_of_methodNamed B.named
  have hlocks := B.notSynchronized
  subst hsz
  have hD := hD0.self (sz := s.heap.size)
  generalize hAe : va_A [(a_this, .inr (7, [.ref a_now, .ref a_history, .int i_saved, .ref a_kept, .ref a_isKept, .ref a_text, .int i_length, .int i_next, .ref a_read, .ref a_uses, .ref a_entry, .ref a_passed, .ref a_draft, .ref a_label, .ref a_met, .ref a_bracket, .ref a_matrix])), (a_now, .inl (cyI, 34, .inl f_now))] s.heap.size = A at hD ⊢
  have hA : ∀ q : Nat, s.heap.size ≤ q → A q := fun q h => by rw [← hAe]; exact Or.inr h
  clear hAe hD0
  have hS : va_S A s.heap s.heap [] := va_S.rf
  have S : CallFix p m c cX10_ends 1 s (([.ref a_this] : List Value).toArray) wsX10_ends RX10 := ⟨hx, hb, hml, hown, hts⟩
  have hl := lv_entry ([.ref a_this]) (n := 1) (Nat.le_of_ble_eq_true rfl)
  rw [lg_entry_eq]
  generalize (lg_sl ([.ref a_this]) ++ List.replicate (1 - (lg_sl ([.ref a_this])).length) Slot.unset).toArray = ls at hl ⊢
  replace hl : lv_has ls 1 [(0, .ref a_this)] := hl
  generalize ([] : List Loc) = locs at hS ⊢
  delta kX10_ends at hf
  obtain ⟨H, hH⟩ : ∃ H, H = s.heap := ⟨_, rfl⟩
  have hS : va_S A s.heap H locs := by rw [hH]; exact hS
  have hP : va_P D vwCl [(a_this, .inr (7, [.ref a_now, .ref a_history, .int i_saved, .ref a_kept, .ref a_isKept, .ref a_text, .int i_length, .int i_next, .ref a_read, .ref a_uses, .ref a_entry, .ref a_passed, .ref a_draft, .ref a_label, .ref a_met, .ref a_bracket, .ref a_matrix])), (a_now, .inl (cyI, 34, .inl f_now))] H := by rw [hH]; exact hP
  suffices hgo : W p l e (headSpec wsX10_ends rmX10_ends).room s m (([.ref a_this] : List Value).toArray) below meth c H locs 0 0 (MQ below (kQi D cyI cyZ A [(a_this, .inr (7, [.ref a_now, .ref a_history, .int i_saved, .ref a_kept, .ref a_isKept, .ref a_text, .int i_length, .int i_next, .ref a_read, .ref a_uses, .ref a_entry, .ref a_passed, .ref a_draft, .ref a_label, .ref a_met, .ref a_bracket, .ref a_matrix])), (a_now, .inl (cyI, 34, .inl f_now))] r) (([.ref a_this] : List Value).toArray) s 0 0 A) (F0 m 0 ls []) by rw [hH] at hgo; exact hgo
  clear hH
  refine lv_iconst (v := 4) hx hb dX10_ends_0 (by decide) ?_
  refine lv_aload_n hx hb dX10_ends_1 rfl (lv_at hl 0 rfl) ?_
  refine va_get (D := D) (ci := 7) (v := .ref a_now) (C := RX10) (T := TX10) (N := 17) hx hb hts qX10_ends_X10 hown hK hP 0 rfl rfl 0 (Nat.le_of_ble_eq_true rfl) (hts (.fieldLink RX10 7 "KnotDiagramModel" "now" "[I") qX10_ends_0) (fun _ h9 => h9) rfl dX10_ends_2 ?_
  refine lv_iconst (v := 0) hx hb dX10_ends_5 (by decide) ?_
  obtain ⟨hi_1, hf⟩ := ck_s hf
  refine va_iald hx hb hK hP 1 0 rfl rfl hi_1 dX10_ends_6 ?_
  refine lv_imul hx hb dX10_ends_7 ?_
  obtain rfl := some1_s hf
  exact kRi hx hb hr hlocks hP hK hD hS rfl dX10_ends_8
def kX10_arc (v1 : Int32) (f_now : Nat → Int32) : Option (Int32) :=
  ck (2 + v1) 34 (some (f_now (2 + v1).toNatClampNeg))
def rmX10_arc : Room := { frames := 0, cells := 0, slots := 0, locals := 0 }
theorem qX10_arc_0 : (.fieldLink RX10 7 "KnotDiagramModel" "now" "[I" : Cond) ∈ wsX10_arc := by decide +kernel
theorem qX10_arc_X10 : ∀ w ∈ wsX100, w ∈ wsX10_arc := by decide +kernel
set_option maxHeartbeats 4000000 in
set_option maxRecDepth 100000 in
theorem mX10_arc (l : Launch) (D : va_G) (cyI cyZ : ClassId) (sz : Nat) (a_this a_now a_history a_kept a_isKept a_text a_read a_uses a_entry a_passed a_draft a_label a_met a_bracket a_matrix : Nat) (v1 : Int32) (i_saved : Int32) (i_length : Int32) (i_next : Int32) (f_now : Nat → Int32) (r : Int32) (hf : kX10_arc v1 f_now = some r) : Met l yX10_arc wsX10_arc rmX10_arc (kPre D cyI cyZ [.ref a_this, .int v1] [(a_this, .inr (7, [.ref a_now, .ref a_history, .int i_saved, .ref a_kept, .ref a_isKept, .ref a_text, .int i_length, .int i_next, .ref a_read, .ref a_uses, .ref a_entry, .ref a_passed, .ref a_draft, .ref a_label, .ref a_met, .ref a_bracket, .ref a_matrix])), (a_now, .inl (cyI, 34, .inl f_now))] sz) (kQi D cyI cyZ (va_A [(a_this, .inr (7, [.ref a_now, .ref a_history, .int i_saved, .ref a_kept, .ref a_isKept, .ref a_text, .int i_length, .int i_next, .ref a_read, .ref a_uses, .ref a_entry, .ref a_passed, .ref a_draft, .ref a_label, .ref a_met, .ref a_bracket, .ref a_matrix])), (a_now, .inl (cyI, 34, .inl f_now))] sz) [(a_this, .inr (7, [.ref a_now, .ref a_history, .int i_saved, .ref a_kept, .ref a_isKept, .ref a_text, .int i_length, .int i_next, .ref a_read, .ref a_uses, .ref a_entry, .ref a_passed, .ref a_draft, .ref a_label, .ref a_met, .ref a_bracket, .ref a_matrix])), (a_now, .inl (cyI, 34, .inl f_now))] r) 0 0 (va_A [(a_this, .inr (7, [.ref a_now, .ref a_history, .int i_saved, .ref a_kept, .ref a_isKept, .ref a_text, .int i_length, .int i_next, .ref a_read, .ref a_uses, .ref a_entry, .ref a_passed, .ref a_draft, .ref a_label, .ref a_met, .ref a_bracket, .ref a_matrix])), (a_now, .inl (cyI, 34, .inl f_now))] sz) := by
  refine Met.ofW (cc := cX10_arc) (maxL := 2) (ret := (some .int)) (by decide) rfl ?_
  intro p e s m args below meth c s₁ B hml hv
  obtain ⟨rfl, hsz, hP, hK, hD0, hN⟩ := hv
  have hx := B.exec
  have hb := B.bytes
  have hr := B.returns
  have hts := atoms_spec (ws := wsX10_arc) B.pre
  have hown : s.vm.findClass RX10 = some m.cls := findClass_of_methodNamed B.named
  have hlocks := B.notSynchronized
  subst hsz
  have hD := hD0.self (sz := s.heap.size)
  generalize hAe : va_A [(a_this, .inr (7, [.ref a_now, .ref a_history, .int i_saved, .ref a_kept, .ref a_isKept, .ref a_text, .int i_length, .int i_next, .ref a_read, .ref a_uses, .ref a_entry, .ref a_passed, .ref a_draft, .ref a_label, .ref a_met, .ref a_bracket, .ref a_matrix])), (a_now, .inl (cyI, 34, .inl f_now))] s.heap.size = A at hD ⊢
  have hA : ∀ q : Nat, s.heap.size ≤ q → A q := fun q h => by rw [← hAe]; exact Or.inr h
  clear hAe hD0
  have hS : va_S A s.heap s.heap [] := va_S.rf
  have S : CallFix p m c cX10_arc 2 s (([.ref a_this, .int v1] : List Value).toArray) wsX10_arc RX10 := ⟨hx, hb, hml, hown, hts⟩
  have hl := lv_entry ([.ref a_this, .int v1]) (n := 2) (Nat.le_of_ble_eq_true rfl)
  rw [lg_entry_eq]
  generalize (lg_sl ([.ref a_this, .int v1]) ++ List.replicate (2 - (lg_sl ([.ref a_this, .int v1])).length) Slot.unset).toArray = ls at hl ⊢
  replace hl : lv_has ls 2 [(0, .ref a_this), (1, .int v1)] := hl
  generalize ([] : List Loc) = locs at hS ⊢
  delta kX10_arc at hf
  obtain ⟨H, hH⟩ : ∃ H, H = s.heap := ⟨_, rfl⟩
  have hS : va_S A s.heap H locs := by rw [hH]; exact hS
  have hP : va_P D vwCl [(a_this, .inr (7, [.ref a_now, .ref a_history, .int i_saved, .ref a_kept, .ref a_isKept, .ref a_text, .int i_length, .int i_next, .ref a_read, .ref a_uses, .ref a_entry, .ref a_passed, .ref a_draft, .ref a_label, .ref a_met, .ref a_bracket, .ref a_matrix])), (a_now, .inl (cyI, 34, .inl f_now))] H := by rw [hH]; exact hP
  suffices hgo : W p l e (headSpec wsX10_arc rmX10_arc).room s m (([.ref a_this, .int v1] : List Value).toArray) below meth c H locs 0 0 (MQ below (kQi D cyI cyZ A [(a_this, .inr (7, [.ref a_now, .ref a_history, .int i_saved, .ref a_kept, .ref a_isKept, .ref a_text, .int i_length, .int i_next, .ref a_read, .ref a_uses, .ref a_entry, .ref a_passed, .ref a_draft, .ref a_label, .ref a_met, .ref a_bracket, .ref a_matrix])), (a_now, .inl (cyI, 34, .inl f_now))] r) (([.ref a_this, .int v1] : List Value).toArray) s 0 0 A) (F0 m 0 ls []) by rw [hH] at hgo; exact hgo
  clear hH
  refine lv_aload_n hx hb dX10_arc_0 rfl (lv_at hl 0 rfl) ?_
  refine va_get (D := D) (ci := 7) (v := .ref a_now) (C := RX10) (T := TX10) (N := 17) hx hb hts qX10_arc_X10 hown hK hP 0 rfl rfl 0 (Nat.le_of_ble_eq_true rfl) (hts (.fieldLink RX10 7 "KnotDiagramModel" "now" "[I") qX10_arc_0) (fun _ h9 => h9) rfl dX10_arc_1 ?_
  refine lv_iconst (v := 2) hx hb dX10_arc_4 (by decide) ?_
  refine lv_iload_n hx hb dX10_arc_5 rfl (lv_at hl 1 rfl) ?_
  refine lv_iadd hx hb dX10_arc_6 ?_
  obtain ⟨hi_1, hf⟩ := ck_s hf
  refine va_iald hx hb hK hP 1 0 rfl rfl hi_1 dX10_arc_7 ?_
  obtain rfl := some1_s hf
  exact kRi hx hb hr hlocks hP hK hD hS rfl dX10_arc_8
def kX10_turn (v0 : Int32) (v1 : Int32) : Option (Int32) :=
  some (((v0 / 4) * 4) + (irem (v0 + v1) 4))
def rmX10_turn : Room := { frames := 0, cells := 0, slots := 0, locals := 0 }
set_option maxHeartbeats 4000000 in
set_option maxRecDepth 100000 in
theorem mX10_turn (l : Launch) (D : va_G) (cyI cyZ : ClassId) (sz : Nat) (v0 : Int32) (v1 : Int32) (r : Int32) (hf : kX10_turn v0 v1 = some r) : Met l yX10_turn wsX10_turn rmX10_turn (kPre D cyI cyZ [.int v0, .int v1] [] sz) (kQi D cyI cyZ (va_A [] sz) [] r) 0 0 (va_A [] sz) := by
  refine Met.ofW (cc := cX10_turn) (maxL := 2) (ret := (some .int)) (by decide) rfl ?_
  intro p e s m args below meth c s₁ B hml hv
  obtain ⟨rfl, hsz, hP, hK, hD0, hN⟩ := hv
  have hx := B.exec
  have hb := B.bytes
  have hr := B.returns
  have hts := atoms_spec (ws := wsX10_turn) B.pre
  have hown : s.vm.findClass RX10 = some m.cls := findClass_of_methodNamed B.named
  have hlocks := B.notSynchronized
  subst hsz
  have hD := hD0.self (sz := s.heap.size)
  generalize hAe : va_A [] s.heap.size = A at hD ⊢
  have hA : ∀ q : Nat, s.heap.size ≤ q → A q := fun q h => by rw [← hAe]; exact Or.inr h
  clear hAe hD0
  have hS : va_S A s.heap s.heap [] := va_S.rf
  have S : CallFix p m c cX10_turn 2 s (([.int v0, .int v1] : List Value).toArray) wsX10_turn RX10 := ⟨hx, hb, hml, hown, hts⟩
  have hl := lv_entry ([.int v0, .int v1]) (n := 2) (Nat.le_of_ble_eq_true rfl)
  rw [lg_entry_eq]
  generalize (lg_sl ([.int v0, .int v1]) ++ List.replicate (2 - (lg_sl ([.int v0, .int v1])).length) Slot.unset).toArray = ls at hl ⊢
  replace hl : lv_has ls 2 [(0, .int v0), (1, .int v1)] := hl
  generalize ([] : List Loc) = locs at hS ⊢
  delta kX10_turn at hf
  obtain ⟨H, hH⟩ : ∃ H, H = s.heap := ⟨_, rfl⟩
  have hS : va_S A s.heap H locs := by rw [hH]; exact hS
  have hP : va_P D vwCl [] H := by rw [hH]; exact hP
  suffices hgo : W p l e (headSpec wsX10_turn rmX10_turn).room s m (([.int v0, .int v1] : List Value).toArray) below meth c H locs 0 0 (MQ below (kQi D cyI cyZ A [] r) (([.int v0, .int v1] : List Value).toArray) s 0 0 A) (F0 m 0 ls []) by rw [hH] at hgo; exact hgo
  clear hH
  refine lv_iload_n hx hb dX10_turn_0 rfl (lv_at hl 0 rfl) ?_
  refine lv_iconst (v := 4) hx hb dX10_turn_1 (by decide) ?_
  refine lv_idiv hx hb dX10_turn_2 (by decide) ?_
  refine lv_iconst (v := 4) hx hb dX10_turn_3 (by decide) ?_
  refine lv_imul hx hb dX10_turn_4 ?_
  refine lv_iload_n hx hb dX10_turn_5 rfl (lv_at hl 0 rfl) ?_
  refine lv_iload_n hx hb dX10_turn_6 rfl (lv_at hl 1 rfl) ?_
  refine lv_iadd hx hb dX10_turn_7 ?_
  refine lv_iconst (v := 4) hx hb dX10_turn_8 (by decide) ?_
  refine k_irem hx hb dX10_turn_9 (by decide) ?_
  refine lv_iadd hx hb dX10_turn_10 ?_
  obtain rfl := some1_s hf
  exact kRi hx hb hr hlocks hP hK hD hS rfl dX10_turn_11
def kX10_other_J2 (K_1 : Int32 → Int32 → Option (Int32)) (v2_1 : Int32) (v3_1 : Int32)  : Option (Int32) :=
  K_1 v2_1 (v3_1 + 1)
def kX10_other_L1 (f_now : Nat → Int32) (v1 : Int32) (K_1 : Int32 → Int32 → Option (Int32)) (v2_1 : Int32) (v3_1 : Int32) : Option (Int32) :=
  bnd1 (kX10_ends f_now) (fun r_1 => if r_1 ≤ v3_1 then some v2_1 else if v3_1 = v1 then kX10_other_J2 K_1 v2_1 v3_1 else bnd1 (kX10_arc v3_1 f_now) (fun r_2 => bnd1 (kX10_arc v1 f_now) (fun r_3 => if r_2 = r_3 then K_1 v3_1 (v3_1 + 1) else kX10_other_J2 K_1 v2_1 v3_1)))
def kX10_other (v1 : Int32) (f_now : Nat → Int32) : Option (Int32) :=
  it2 (kX10_other_L1 f_now v1) 400 v1 0
def rmX10_other : Room := { frames := 1, cells := 0, slots := 0, locals := 21 }
set_option maxHeartbeats 4000000 in
set_option maxRecDepth 100000 in
theorem mX10_other (l : Launch) (D : va_G) (cyI cyZ : ClassId) (sz : Nat) (a_this a_now a_history a_kept a_isKept a_text a_read a_uses a_entry a_passed a_draft a_label a_met a_bracket a_matrix : Nat) (v1 : Int32) (i_saved : Int32) (i_length : Int32) (i_next : Int32) (f_now : Nat → Int32) (r : Int32) (hf : kX10_other v1 f_now = some r) : Met l yX10_other wsX10_other rmX10_other (kPre D cyI cyZ [.ref a_this, .int v1] [(a_this, .inr (7, [.ref a_now, .ref a_history, .int i_saved, .ref a_kept, .ref a_isKept, .ref a_text, .int i_length, .int i_next, .ref a_read, .ref a_uses, .ref a_entry, .ref a_passed, .ref a_draft, .ref a_label, .ref a_met, .ref a_bracket, .ref a_matrix])), (a_now, .inl (cyI, 34, .inl f_now))] sz) (kQi D cyI cyZ (va_A [(a_this, .inr (7, [.ref a_now, .ref a_history, .int i_saved, .ref a_kept, .ref a_isKept, .ref a_text, .int i_length, .int i_next, .ref a_read, .ref a_uses, .ref a_entry, .ref a_passed, .ref a_draft, .ref a_label, .ref a_met, .ref a_bracket, .ref a_matrix])), (a_now, .inl (cyI, 34, .inl f_now))] sz) [(a_this, .inr (7, [.ref a_now, .ref a_history, .int i_saved, .ref a_kept, .ref a_isKept, .ref a_text, .int i_length, .int i_next, .ref a_read, .ref a_uses, .ref a_entry, .ref a_passed, .ref a_draft, .ref a_label, .ref a_met, .ref a_bracket, .ref a_matrix])), (a_now, .inl (cyI, 34, .inl f_now))] r) 0 0 (va_A [(a_this, .inr (7, [.ref a_now, .ref a_history, .int i_saved, .ref a_kept, .ref a_isKept, .ref a_text, .int i_length, .int i_next, .ref a_read, .ref a_uses, .ref a_entry, .ref a_passed, .ref a_draft, .ref a_label, .ref a_met, .ref a_bracket, .ref a_matrix])), (a_now, .inl (cyI, 34, .inl f_now))] sz) := by
  refine Met.ofW (cc := cX10_other) (maxL := 4) (ret := (some .int)) (by decide) rfl ?_
  intro p e s m args below meth c s₁ B hml hv
  obtain ⟨rfl, hsz, hP, hK, hD0, hN⟩ := hv
  have hx := B.exec
  have hb := B.bytes
  have hr := B.returns
  have hts := atoms_spec (ws := wsX10_other) B.pre
  have hown : s.vm.findClass RX10 = some m.cls := findClass_of_methodNamed B.named
  have hlocks := B.notSynchronized
  subst hsz
  have hD := hD0.self (sz := s.heap.size)
  generalize hAe : va_A [(a_this, .inr (7, [.ref a_now, .ref a_history, .int i_saved, .ref a_kept, .ref a_isKept, .ref a_text, .int i_length, .int i_next, .ref a_read, .ref a_uses, .ref a_entry, .ref a_passed, .ref a_draft, .ref a_label, .ref a_met, .ref a_bracket, .ref a_matrix])), (a_now, .inl (cyI, 34, .inl f_now))] s.heap.size = A at hD ⊢
  have hA : ∀ q : Nat, s.heap.size ≤ q → A q := fun q h => by rw [← hAe]; exact Or.inr h
  clear hAe hD0
  have hS : va_S A s.heap s.heap [] := va_S.rf
  have S : CallFix p m c cX10_other 4 s (([.ref a_this, .int v1] : List Value).toArray) wsX10_other RX10 := ⟨hx, hb, hml, hown, hts⟩
  have hl := lv_entry ([.ref a_this, .int v1]) (n := 4) (Nat.le_of_ble_eq_true rfl)
  rw [lg_entry_eq]
  generalize (lg_sl ([.ref a_this, .int v1]) ++ List.replicate (4 - (lg_sl ([.ref a_this, .int v1])).length) Slot.unset).toArray = ls at hl ⊢
  replace hl : lv_has ls 4 [(0, .ref a_this), (1, .int v1)] := hl
  generalize ([] : List Loc) = locs at hS ⊢
  delta kX10_other at hf
  obtain ⟨H, hH⟩ : ∃ H, H = s.heap := ⟨_, rfl⟩
  have hS : va_S A s.heap H locs := by rw [hH]; exact hS
  have hP : va_P D vwCl [(a_this, .inr (7, [.ref a_now, .ref a_history, .int i_saved, .ref a_kept, .ref a_isKept, .ref a_text, .int i_length, .int i_next, .ref a_read, .ref a_uses, .ref a_entry, .ref a_passed, .ref a_draft, .ref a_label, .ref a_met, .ref a_bracket, .ref a_matrix])), (a_now, .inl (cyI, 34, .inl f_now))] H := by rw [hH]; exact hP
  suffices hgo : W p l e (headSpec wsX10_other rmX10_other).room s m (([.ref a_this, .int v1] : List Value).toArray) below meth c H locs 0 0 (MQ below (kQi D cyI cyZ A [(a_this, .inr (7, [.ref a_now, .ref a_history, .int i_saved, .ref a_kept, .ref a_isKept, .ref a_text, .int i_length, .int i_next, .ref a_read, .ref a_uses, .ref a_entry, .ref a_passed, .ref a_draft, .ref a_label, .ref a_met, .ref a_bracket, .ref a_matrix])), (a_now, .inl (cyI, 34, .inl f_now))] r) (([.ref a_this, .int v1] : List Value).toArray) s 0 0 A) (F0 m 0 ls []) by rw [hH] at hgo; exact hgo
  clear hH
  refine lv_iload_n hx hb dX10_other_0 rfl (lv_at hl 1 rfl) ?_
  refine lv_istore_n (lv' := [(2, .int v1), (0, .ref a_this), (1, .int v1)]) hx hb dX10_other_1 rfl hl (by decide) rfl (fun ls hl => ?_)
  refine lv_iconst (v := 0) hx hb dX10_other_2 (by decide) ?_
  refine lv_istore_n (lv' := [(3, .int 0), (2, .int v1), (0, .ref a_this), (1, .int v1)]) hx hb dX10_other_3 rfl hl (by decide) rfl (fun ls hl => ?_)
  have hL_1 : ∀ (n : Nat) (v2_1 : Int32) (v3_1 : Int32) (H : Heap) (locs : List Loc) (ls : Array Slot), it2 (kX10_other_L1 f_now v1) n v2_1 v3_1 = some r → va_P D vwCl [(a_this, .inr (7, [.ref a_now, .ref a_history, .int i_saved, .ref a_kept, .ref a_isKept, .ref a_text, .int i_length, .int i_next, .ref a_read, .ref a_uses, .ref a_entry, .ref a_passed, .ref a_draft, .ref a_label, .ref a_met, .ref a_bracket, .ref a_matrix])), (a_now, .inl (cyI, 34, .inl f_now))] H → va_D A [(a_this, .inr (7, [.ref a_now, .ref a_history, .int i_saved, .ref a_kept, .ref a_isKept, .ref a_text, .int i_length, .int i_next, .ref a_read, .ref a_uses, .ref a_entry, .ref a_passed, .ref a_draft, .ref a_label, .ref a_met, .ref a_bracket, .ref a_matrix])), (a_now, .inl (cyI, 34, .inl f_now))] → va_S A s.heap H locs → lv_has ls 4 [(0, .ref a_this), (1, .int v1), (2, .int v2_1), (3, .int v3_1)] → W p l e (headSpec wsX10_other rmX10_other).room s m (([.ref a_this, .int v1] : List Value).toArray) below meth c H locs 0 0 (MQ below (kQi D cyI cyZ A [(a_this, .inr (7, [.ref a_now, .ref a_history, .int i_saved, .ref a_kept, .ref a_isKept, .ref a_text, .int i_length, .int i_next, .ref a_read, .ref a_uses, .ref a_entry, .ref a_passed, .ref a_draft, .ref a_label, .ref a_met, .ref a_bracket, .ref a_matrix])), (a_now, .inl (cyI, 34, .inl f_now))] r) (([.ref a_this, .int v1] : List Value).toArray) s 0 0 A) (F0 m 4 ls []) := by
    intro n_1
    induction n_1 with
    | zero =>
      intro _ _ _ _ _ hf
      exact (it2_z hf).elim
    | succ n_1 ih_1 =>
      intro v2_1 v3_1 H locs ls hf hP hD hS hl
      replace hf := it2_s hf
      rw [kX10_other_L1] at hf
      refine lv_iload_n hx hb dX10_other_4 rfl (lv_at hl 3 rfl) ?_
      refine lv_aload_n hx hb dX10_other_5 rfl (lv_at hl 0 rfl) ?_
      obtain ⟨r_1, hc_1, hf⟩ := bnd1_s hf
      refine kcVi (As := []) (rest := [.int v3_1]) (w2 := [(a_this, .inr (7, [.ref a_now, .ref a_history, .int i_saved, .ref a_kept, .ref a_isKept, .ref a_text, .int i_length, .int i_next, .ref a_read, .ref a_uses, .ref a_entry, .ref a_passed, .ref a_draft, .ref a_label, .ref a_met, .ref a_bracket, .ref a_matrix])), (a_now, .inl (cyI, 34, .inl f_now))]) S hK hP hD hS hA hN (mX10_ends l D cyI cyZ H.size a_this a_now a_history a_kept a_isKept a_text a_read a_uses a_entry a_passed a_draft a_label a_met a_bracket a_matrix i_saved i_length i_next f_now r_1 hc_1) (cwV 0 hts gX10_other_X10_ends rfl rfl rfl (by decide +kernel) ⟨Nat.le_of_ble_eq_true rfl, Nat.le_of_ble_eq_true rfl⟩) 7 0 rfl rfl [0, 1] [] [0, 1] rfl rfl rfl rfl (by decide) rfl rfl hl.1 (Nat.le_of_ble_eq_true rfl) dX10_other_6 ⟨Nat.le_of_ble_eq_true rfl, Nat.le_of_ble_eq_true rfl⟩ (fun H locs hP hD hS => ?_)
      refine lv_icmp_ge (tgt := 42) hx hb dX10_other_9 (by decide) (fun c_6 => ?_) (fun c_6 => ?_)
      · replace hf := kt_p hf c_6
        refine lv_iload_n hx hb dX10_other_42 rfl (lv_at hl 2 rfl) ?_
        obtain rfl := some1_s hf
        exact kRi hx hb hr hlocks hP hK hD hS rfl dX10_other_43
      · replace hf := kt_n hf c_6
        refine lv_iload_n hx hb dX10_other_12 rfl (lv_at hl 3 rfl) ?_
        refine lv_iload_n hx hb dX10_other_13 rfl (lv_at hl 1 rfl) ?_
        have hJ_2 : ∀  (H : Heap) (locs : List Loc) (ls : Array Slot), kX10_other_J2 (it2 (kX10_other_L1 f_now v1) n_1) v2_1 v3_1  = some r → va_P D vwCl [(a_this, .inr (7, [.ref a_now, .ref a_history, .int i_saved, .ref a_kept, .ref a_isKept, .ref a_text, .int i_length, .int i_next, .ref a_read, .ref a_uses, .ref a_entry, .ref a_passed, .ref a_draft, .ref a_label, .ref a_met, .ref a_bracket, .ref a_matrix])), (a_now, .inl (cyI, 34, .inl f_now))] H → va_D A [(a_this, .inr (7, [.ref a_now, .ref a_history, .int i_saved, .ref a_kept, .ref a_isKept, .ref a_text, .int i_length, .int i_next, .ref a_read, .ref a_uses, .ref a_entry, .ref a_passed, .ref a_draft, .ref a_label, .ref a_met, .ref a_bracket, .ref a_matrix])), (a_now, .inl (cyI, 34, .inl f_now))] → va_S A s.heap H locs → lv_has ls 4 [(0, .ref a_this), (1, .int v1), (2, .int v2_1), (3, .int v3_1)] → W p l e (headSpec wsX10_other rmX10_other).room s m (([.ref a_this, .int v1] : List Value).toArray) below meth c H locs 0 0 (MQ below (kQi D cyI cyZ A [(a_this, .inr (7, [.ref a_now, .ref a_history, .int i_saved, .ref a_kept, .ref a_isKept, .ref a_text, .int i_length, .int i_next, .ref a_read, .ref a_uses, .ref a_entry, .ref a_passed, .ref a_draft, .ref a_label, .ref a_met, .ref a_bracket, .ref a_matrix])), (a_now, .inl (cyI, 34, .inl f_now))] r) (([.ref a_this, .int v1] : List Value).toArray) s 0 0 A) (F0 m 34 ls []) := by
          intro  H locs ls hf hP hD hS hl
          delta kX10_other_J2 at hf
          refine lv_iload_n hx hb dX10_other_34 rfl (lv_at hl 2 rfl) ?_
          refine lv_istore_n (lv' := [(2, .int v2_1), (0, .ref a_this), (1, .int v1), (3, .int v3_1)]) hx hb dX10_other_35 rfl hl (by decide) rfl (fun ls hl => ?_)
          refine lv_iinc (v := (v3_1 + 1)) (lv' := [(3, .int (v3_1 + 1)), (2, .int v2_1), (0, .ref a_this), (1, .int v1)]) hx hb dX10_other_36 hl (k := 3) rfl rfl (by decide) rfl (fun ls hl => ?_)
          refine lv_goto (tgt := 4) hx hb dX10_other_39 (by decide) ?_
          exact ih_1 v2_1 (v3_1 + 1) H locs ls hf hP hD hS (lv_sub hl [2, 3, 1, 0] rfl)
        refine lv_icmp_eq (tgt := 34) hx hb dX10_other_14 (by decide) (fun c_5 => ?_) (fun c_5 => ?_)
        · replace hf := kt_p hf c_5
          exact hJ_2 H locs ls hf hP hD hS (lv_sub hl [0, 1, 2, 3] rfl)
        · replace hf := kt_n hf c_5
          refine lv_aload_n hx hb dX10_other_17 rfl (lv_at hl 0 rfl) ?_
          refine lv_iload_n hx hb dX10_other_18 rfl (lv_at hl 3 rfl) ?_
          obtain ⟨r_2, hc_2, hf⟩ := bnd1_s hf
          refine kcVi (As := [.int v3_1]) (rest := []) (w2 := [(a_this, .inr (7, [.ref a_now, .ref a_history, .int i_saved, .ref a_kept, .ref a_isKept, .ref a_text, .int i_length, .int i_next, .ref a_read, .ref a_uses, .ref a_entry, .ref a_passed, .ref a_draft, .ref a_label, .ref a_met, .ref a_bracket, .ref a_matrix])), (a_now, .inl (cyI, 34, .inl f_now))]) S hK hP hD hS hA hN (mX10_arc l D cyI cyZ H.size a_this a_now a_history a_kept a_isKept a_text a_read a_uses a_entry a_passed a_draft a_label a_met a_bracket a_matrix v3_1 i_saved i_length i_next f_now r_2 hc_2) (cwV 1 hts gX10_other_X10_arc rfl rfl rfl (by decide +kernel) ⟨Nat.le_of_ble_eq_true rfl, Nat.le_of_ble_eq_true rfl⟩) 7 0 rfl rfl [0, 1] [] [0, 1] rfl rfl rfl rfl (by decide) rfl rfl hl.1 (Nat.le_of_ble_eq_true rfl) dX10_other_19 ⟨Nat.le_of_ble_eq_true rfl, Nat.le_of_ble_eq_true rfl⟩ (fun H locs hP hD hS => ?_)
          refine lv_aload_n hx hb dX10_other_22 rfl (lv_at hl 0 rfl) ?_
          refine lv_iload_n hx hb dX10_other_23 rfl (lv_at hl 1 rfl) ?_
          obtain ⟨r_3, hc_3, hf⟩ := bnd1_s hf
          refine kcVi (As := [.int v1]) (rest := [.int r_2]) (w2 := [(a_this, .inr (7, [.ref a_now, .ref a_history, .int i_saved, .ref a_kept, .ref a_isKept, .ref a_text, .int i_length, .int i_next, .ref a_read, .ref a_uses, .ref a_entry, .ref a_passed, .ref a_draft, .ref a_label, .ref a_met, .ref a_bracket, .ref a_matrix])), (a_now, .inl (cyI, 34, .inl f_now))]) S hK hP hD hS hA hN (mX10_arc l D cyI cyZ H.size a_this a_now a_history a_kept a_isKept a_text a_read a_uses a_entry a_passed a_draft a_label a_met a_bracket a_matrix v1 i_saved i_length i_next f_now r_3 hc_3) (cwV 1 hts gX10_other_X10_arc rfl rfl rfl (by decide +kernel) ⟨Nat.le_of_ble_eq_true rfl, Nat.le_of_ble_eq_true rfl⟩) 7 0 rfl rfl [0, 1] [] [0, 1] rfl rfl rfl rfl (by decide) rfl rfl hl.1 (Nat.le_of_ble_eq_true rfl) dX10_other_24 ⟨Nat.le_of_ble_eq_true rfl, Nat.le_of_ble_eq_true rfl⟩ (fun H locs hP hD hS => ?_)
          refine lv_icmp_ne (tgt := 34) hx hb dX10_other_27 (by decide) (fun c_4 => ?_) (fun c_4 => ?_)
          · replace hf := kt_n hf c_4
            exact hJ_2 H locs ls hf hP hD hS (lv_sub hl [0, 1, 2, 3] rfl)
          · replace hf := kt_p hf c_4
            refine lv_iload_n hx hb dX10_other_30 rfl (lv_at hl 3 rfl) ?_
            refine lv_goto (tgt := 35) hx hb dX10_other_31 (by decide) ?_
            refine lv_istore_n (lv' := [(2, .int v3_1), (0, .ref a_this), (1, .int v1), (3, .int v3_1)]) hx hb dX10_other_35 rfl hl (by decide) rfl (fun ls hl => ?_)
            refine lv_iinc (v := (v3_1 + 1)) (lv' := [(3, .int (v3_1 + 1)), (2, .int v3_1), (0, .ref a_this), (1, .int v1)]) hx hb dX10_other_36 hl (k := 3) rfl rfl (by decide) rfl (fun ls hl => ?_)
            refine lv_goto (tgt := 4) hx hb dX10_other_39 (by decide) ?_
            exact ih_1 v3_1 (v3_1 + 1) H locs ls hf hP hD hS (lv_sub hl [2, 3, 1, 0] rfl)
  exact hL_1 400 v1 0 H locs ls hf hP hD hS (lv_sub hl [2, 3, 1, 0] rfl)
def kX10_isCrossing (v1 : Int32) (f_now : Nat → Int32) : Option (Int32) :=
  bnd1 (kX10_crossings f_now) (fun r_1 => bnd1 (kX10_in v1 0 (r_1 - 1)) (fun r_2 => zr r_2 (some r_2)))
def rmX10_isCrossing : Room := { frames := 1, cells := 0, slots := 0, locals := 22 }
set_option maxHeartbeats 4000000 in
set_option maxRecDepth 100000 in
theorem mX10_isCrossing (l : Launch) (D : va_G) (cyI cyZ : ClassId) (sz : Nat) (a_this a_now a_history a_kept a_isKept a_text a_read a_uses a_entry a_passed a_draft a_label a_met a_bracket a_matrix : Nat) (v1 : Int32) (i_saved : Int32) (i_length : Int32) (i_next : Int32) (f_now : Nat → Int32) (r : Int32) (hf : kX10_isCrossing v1 f_now = some r) : Met l yX10_isCrossing wsX10_isCrossing rmX10_isCrossing (kPre D cyI cyZ [.ref a_this, .int v1] [(a_this, .inr (7, [.ref a_now, .ref a_history, .int i_saved, .ref a_kept, .ref a_isKept, .ref a_text, .int i_length, .int i_next, .ref a_read, .ref a_uses, .ref a_entry, .ref a_passed, .ref a_draft, .ref a_label, .ref a_met, .ref a_bracket, .ref a_matrix])), (a_now, .inl (cyI, 34, .inl f_now))] sz) (kQi D cyI cyZ (va_A [(a_this, .inr (7, [.ref a_now, .ref a_history, .int i_saved, .ref a_kept, .ref a_isKept, .ref a_text, .int i_length, .int i_next, .ref a_read, .ref a_uses, .ref a_entry, .ref a_passed, .ref a_draft, .ref a_label, .ref a_met, .ref a_bracket, .ref a_matrix])), (a_now, .inl (cyI, 34, .inl f_now))] sz) [(a_this, .inr (7, [.ref a_now, .ref a_history, .int i_saved, .ref a_kept, .ref a_isKept, .ref a_text, .int i_length, .int i_next, .ref a_read, .ref a_uses, .ref a_entry, .ref a_passed, .ref a_draft, .ref a_label, .ref a_met, .ref a_bracket, .ref a_matrix])), (a_now, .inl (cyI, 34, .inl f_now))] r) 0 0 (va_A [(a_this, .inr (7, [.ref a_now, .ref a_history, .int i_saved, .ref a_kept, .ref a_isKept, .ref a_text, .int i_length, .int i_next, .ref a_read, .ref a_uses, .ref a_entry, .ref a_passed, .ref a_draft, .ref a_label, .ref a_met, .ref a_bracket, .ref a_matrix])), (a_now, .inl (cyI, 34, .inl f_now))] sz) := by
  refine Met.ofW (cc := cX10_isCrossing) (maxL := 2) (ret := (some .boolean)) (by decide) rfl ?_
  intro p e s m args below meth c s₁ B hml hv
  obtain ⟨rfl, hsz, hP, hK, hD0, hN⟩ := hv
  have hx := B.exec
  have hb := B.bytes
  have hr := B.returns
  have hts := atoms_spec (ws := wsX10_isCrossing) B.pre
  have hown : s.vm.findClass RX10 = some m.cls := findClass_of_methodNamed B.named
  have hlocks := B.notSynchronized
  subst hsz
  have hD := hD0.self (sz := s.heap.size)
  generalize hAe : va_A [(a_this, .inr (7, [.ref a_now, .ref a_history, .int i_saved, .ref a_kept, .ref a_isKept, .ref a_text, .int i_length, .int i_next, .ref a_read, .ref a_uses, .ref a_entry, .ref a_passed, .ref a_draft, .ref a_label, .ref a_met, .ref a_bracket, .ref a_matrix])), (a_now, .inl (cyI, 34, .inl f_now))] s.heap.size = A at hD ⊢
  have hA : ∀ q : Nat, s.heap.size ≤ q → A q := fun q h => by rw [← hAe]; exact Or.inr h
  clear hAe hD0
  have hS : va_S A s.heap s.heap [] := va_S.rf
  have S : CallFix p m c cX10_isCrossing 2 s (([.ref a_this, .int v1] : List Value).toArray) wsX10_isCrossing RX10 := ⟨hx, hb, hml, hown, hts⟩
  have hl := lv_entry ([.ref a_this, .int v1]) (n := 2) (Nat.le_of_ble_eq_true rfl)
  rw [lg_entry_eq]
  generalize (lg_sl ([.ref a_this, .int v1]) ++ List.replicate (2 - (lg_sl ([.ref a_this, .int v1])).length) Slot.unset).toArray = ls at hl ⊢
  replace hl : lv_has ls 2 [(0, .ref a_this), (1, .int v1)] := hl
  generalize ([] : List Loc) = locs at hS ⊢
  delta kX10_isCrossing at hf
  obtain ⟨H, hH⟩ : ∃ H, H = s.heap := ⟨_, rfl⟩
  have hS : va_S A s.heap H locs := by rw [hH]; exact hS
  have hP : va_P D vwCl [(a_this, .inr (7, [.ref a_now, .ref a_history, .int i_saved, .ref a_kept, .ref a_isKept, .ref a_text, .int i_length, .int i_next, .ref a_read, .ref a_uses, .ref a_entry, .ref a_passed, .ref a_draft, .ref a_label, .ref a_met, .ref a_bracket, .ref a_matrix])), (a_now, .inl (cyI, 34, .inl f_now))] H := by rw [hH]; exact hP
  suffices hgo : W p l e (headSpec wsX10_isCrossing rmX10_isCrossing).room s m (([.ref a_this, .int v1] : List Value).toArray) below meth c H locs 0 0 (MQ below (kQi D cyI cyZ A [(a_this, .inr (7, [.ref a_now, .ref a_history, .int i_saved, .ref a_kept, .ref a_isKept, .ref a_text, .int i_length, .int i_next, .ref a_read, .ref a_uses, .ref a_entry, .ref a_passed, .ref a_draft, .ref a_label, .ref a_met, .ref a_bracket, .ref a_matrix])), (a_now, .inl (cyI, 34, .inl f_now))] r) (([.ref a_this, .int v1] : List Value).toArray) s 0 0 A) (F0 m 0 ls []) by rw [hH] at hgo; exact hgo
  clear hH
  refine lv_iload_n hx hb dX10_isCrossing_0 rfl (lv_at hl 1 rfl) ?_
  refine lv_iconst (v := 0) hx hb dX10_isCrossing_1 (by decide) ?_
  refine lv_aload_n hx hb dX10_isCrossing_2 rfl (lv_at hl 0 rfl) ?_
  obtain ⟨r_1, hc_1, hf⟩ := bnd1_s hf
  refine kcVi (As := []) (rest := [.int 0, .int v1]) (w2 := [(a_this, .inr (7, [.ref a_now, .ref a_history, .int i_saved, .ref a_kept, .ref a_isKept, .ref a_text, .int i_length, .int i_next, .ref a_read, .ref a_uses, .ref a_entry, .ref a_passed, .ref a_draft, .ref a_label, .ref a_met, .ref a_bracket, .ref a_matrix])), (a_now, .inl (cyI, 34, .inl f_now))]) S hK hP hD hS hA hN (mX10_crossings l D cyI cyZ H.size a_this a_now a_history a_kept a_isKept a_text a_read a_uses a_entry a_passed a_draft a_label a_met a_bracket a_matrix i_saved i_length i_next f_now r_1 hc_1) (cwV 0 hts gX10_isCrossing_X10_crossings rfl rfl rfl (by decide +kernel) ⟨Nat.le_of_ble_eq_true rfl, Nat.le_of_ble_eq_true rfl⟩) 7 0 rfl rfl [0, 1] [] [0, 1] rfl rfl rfl rfl (by decide) rfl rfl hl.1 (Nat.le_of_ble_eq_true rfl) dX10_isCrossing_3 ⟨Nat.le_of_ble_eq_true rfl, Nat.le_of_ble_eq_true rfl⟩ (fun H locs hP hD hS => ?_)
  refine lv_iconst (v := 1) hx hb dX10_isCrossing_6 (by decide) ?_
  refine lv_isub hx hb dX10_isCrossing_7 ?_
  obtain ⟨r_2, hc_2, hf⟩ := bnd1_s hf
  refine kcSi (As := [.int v1, .int 0, .int (r_1 - 1)]) (rest := []) (w2 := [(a_this, .inr (7, [.ref a_now, .ref a_history, .int i_saved, .ref a_kept, .ref a_isKept, .ref a_text, .int i_length, .int i_next, .ref a_read, .ref a_uses, .ref a_entry, .ref a_passed, .ref a_draft, .ref a_label, .ref a_met, .ref a_bracket, .ref a_matrix])), (a_now, .inl (cyI, 34, .inl f_now))]) S hK hP hD hS hA hN (mX10_in l D cyI cyZ H.size v1 0 (r_1 - 1) r_2 hc_2) (va_cwS 3 hts gX10_isCrossing_X10_in rfl rfl rfl (by decide +kernel) ⟨Nat.le_of_ble_eq_true rfl, Nat.le_of_ble_eq_true rfl⟩) [] [0, 1] [0, 1] rfl rfl rfl rfl (by decide) rfl rfl hl.1 (Nat.le_of_ble_eq_true rfl) dX10_isCrossing_8 ⟨Nat.le_of_ble_eq_true rfl, Nat.le_of_ble_eq_true rfl⟩ (fun H locs hP hD hS => ?_)
  obtain ⟨hz, hf⟩ := zr_s hf
  obtain rfl := some1_s hf
  exact kRz hx hb hr hlocks hP hK hD hS hz rfl dX10_isCrossing_11
def kX10_append (v1 : Int32) (i_length : Int32) (f_text : Nat → Int32) : Option (Int32 × Int32 × (Nat → Int32)) :=
  bnd1 (kX10_in v1 0 255) (fun r_1 => if r_1 = 0 then some ((-1000001), i_length, f_text) else if i_length = 160 then some ((-1000003), i_length, f_text) else ck i_length 160 (some ((i_length + 1), (i_length + 1), (upd f_text i_length.toNatClampNeg v1))))
def rmX10_append : Room := { frames := 1, cells := 0, slots := 0, locals := 22 }
theorem qX10_append_0 : (.fieldLink RX10 69 "KnotDiagramModel" "length" "I" : Cond) ∈ wsX10_append := by decide +kernel
theorem qX10_append_1 : (.fieldLink RX10 23 "KnotDiagramModel" "text" "[I" : Cond) ∈ wsX10_append := by decide +kernel
theorem qX10_append_2 : (.constant RX10 73 (-1000003) : Cond) ∈ wsX10_append := by decide +kernel
theorem qX10_append_3 : (.constant RX10 68 (-1000001) : Cond) ∈ wsX10_append := by decide +kernel
theorem qX10_append_X10 : ∀ w ∈ wsX100, w ∈ wsX10_append := by decide +kernel
set_option maxHeartbeats 4000000 in
set_option maxRecDepth 100000 in
theorem mX10_append (l : Launch) (D : va_G) (cyI cyZ : ClassId) (sz : Nat) (a_this a_now a_history a_kept a_isKept a_text a_read a_uses a_entry a_passed a_draft a_label a_met a_bracket a_matrix : Nat) (v1 : Int32) (i_saved : Int32) (i_length : Int32) (i_next : Int32) (f_text : Nat → Int32) (r : Int32) (o_length : Int32) (o_text : Nat → Int32) (hf : kX10_append v1 i_length f_text = some (r, o_length, o_text)) : Met l yX10_append wsX10_append rmX10_append (kPre D cyI cyZ [.ref a_this, .int v1] [(a_this, .inr (7, [.ref a_now, .ref a_history, .int i_saved, .ref a_kept, .ref a_isKept, .ref a_text, .int i_length, .int i_next, .ref a_read, .ref a_uses, .ref a_entry, .ref a_passed, .ref a_draft, .ref a_label, .ref a_met, .ref a_bracket, .ref a_matrix])), (a_text, .inl (cyI, 160, .inl f_text))] sz) (kQi D cyI cyZ (va_A [(a_this, .inr (7, [.ref a_now, .ref a_history, .int i_saved, .ref a_kept, .ref a_isKept, .ref a_text, .int i_length, .int i_next, .ref a_read, .ref a_uses, .ref a_entry, .ref a_passed, .ref a_draft, .ref a_label, .ref a_met, .ref a_bracket, .ref a_matrix])), (a_text, .inl (cyI, 160, .inl f_text))] sz) [(a_this, .inr (7, [.ref a_now, .ref a_history, .int i_saved, .ref a_kept, .ref a_isKept, .ref a_text, .int o_length, .int i_next, .ref a_read, .ref a_uses, .ref a_entry, .ref a_passed, .ref a_draft, .ref a_label, .ref a_met, .ref a_bracket, .ref a_matrix])), (a_text, .inl (cyI, 160, .inl o_text))] r) 0 0 (va_A [(a_this, .inr (7, [.ref a_now, .ref a_history, .int i_saved, .ref a_kept, .ref a_isKept, .ref a_text, .int i_length, .int i_next, .ref a_read, .ref a_uses, .ref a_entry, .ref a_passed, .ref a_draft, .ref a_label, .ref a_met, .ref a_bracket, .ref a_matrix])), (a_text, .inl (cyI, 160, .inl f_text))] sz) := by
  refine Met.ofW (cc := cX10_append) (maxL := 2) (ret := (some .int)) (by decide) rfl ?_
  intro p e s m args below meth c s₁ B hml hv
  obtain ⟨rfl, hsz, hP, hK, hD0, hN⟩ := hv
  have hx := B.exec
  have hb := B.bytes
  have hr := B.returns
  have hts := atoms_spec (ws := wsX10_append) B.pre
  have hown : s.vm.findClass RX10 = some m.cls := findClass_of_methodNamed B.named
  have hlocks := B.notSynchronized
  subst hsz
  have hD := hD0.self (sz := s.heap.size)
  generalize hAe : va_A [(a_this, .inr (7, [.ref a_now, .ref a_history, .int i_saved, .ref a_kept, .ref a_isKept, .ref a_text, .int i_length, .int i_next, .ref a_read, .ref a_uses, .ref a_entry, .ref a_passed, .ref a_draft, .ref a_label, .ref a_met, .ref a_bracket, .ref a_matrix])), (a_text, .inl (cyI, 160, .inl f_text))] s.heap.size = A at hD ⊢
  have hA : ∀ q : Nat, s.heap.size ≤ q → A q := fun q h => by rw [← hAe]; exact Or.inr h
  clear hAe hD0
  have hS : va_S A s.heap s.heap [] := va_S.rf
  have S : CallFix p m c cX10_append 2 s (([.ref a_this, .int v1] : List Value).toArray) wsX10_append RX10 := ⟨hx, hb, hml, hown, hts⟩
  have hl := lv_entry ([.ref a_this, .int v1]) (n := 2) (Nat.le_of_ble_eq_true rfl)
  rw [lg_entry_eq]
  generalize (lg_sl ([.ref a_this, .int v1]) ++ List.replicate (2 - (lg_sl ([.ref a_this, .int v1])).length) Slot.unset).toArray = ls at hl ⊢
  replace hl : lv_has ls 2 [(0, .ref a_this), (1, .int v1)] := hl
  generalize ([] : List Loc) = locs at hS ⊢
  delta kX10_append at hf
  obtain ⟨H, hH⟩ : ∃ H, H = s.heap := ⟨_, rfl⟩
  have hS : va_S A s.heap H locs := by rw [hH]; exact hS
  have hP : va_P D vwCl [(a_this, .inr (7, [.ref a_now, .ref a_history, .int i_saved, .ref a_kept, .ref a_isKept, .ref a_text, .int i_length, .int i_next, .ref a_read, .ref a_uses, .ref a_entry, .ref a_passed, .ref a_draft, .ref a_label, .ref a_met, .ref a_bracket, .ref a_matrix])), (a_text, .inl (cyI, 160, .inl f_text))] H := by rw [hH]; exact hP
  suffices hgo : W p l e (headSpec wsX10_append rmX10_append).room s m (([.ref a_this, .int v1] : List Value).toArray) below meth c H locs 0 0 (MQ below (kQi D cyI cyZ A [(a_this, .inr (7, [.ref a_now, .ref a_history, .int i_saved, .ref a_kept, .ref a_isKept, .ref a_text, .int o_length, .int i_next, .ref a_read, .ref a_uses, .ref a_entry, .ref a_passed, .ref a_draft, .ref a_label, .ref a_met, .ref a_bracket, .ref a_matrix])), (a_text, .inl (cyI, 160, .inl o_text))] r) (([.ref a_this, .int v1] : List Value).toArray) s 0 0 A) (F0 m 0 ls []) by rw [hH] at hgo; exact hgo
  clear hH
  refine lv_iload_n hx hb dX10_append_0 rfl (lv_at hl 1 rfl) ?_
  refine lv_iconst (v := 0) hx hb dX10_append_1 (by decide) ?_
  refine lv_sipush (v := 255) hx hb dX10_append_2 (by decide) ?_
  obtain ⟨r_1, hc_1, hf⟩ := bnd1_s hf
  refine kcSi (As := [.int v1, .int 0, .int 255]) (rest := []) (w2 := [(a_this, .inr (7, [.ref a_now, .ref a_history, .int i_saved, .ref a_kept, .ref a_isKept, .ref a_text, .int i_length, .int i_next, .ref a_read, .ref a_uses, .ref a_entry, .ref a_passed, .ref a_draft, .ref a_label, .ref a_met, .ref a_bracket, .ref a_matrix])), (a_text, .inl (cyI, 160, .inl f_text))]) S hK hP hD hS hA hN (mX10_in l D cyI cyZ H.size v1 0 255 r_1 hc_1) (va_cwS 3 hts gX10_append_X10_in rfl rfl rfl (by decide +kernel) ⟨Nat.le_of_ble_eq_true rfl, Nat.le_of_ble_eq_true rfl⟩) [] [0, 1] [0, 1] rfl rfl rfl rfl (by decide) rfl rfl hl.1 (Nat.le_of_ble_eq_true rfl) dX10_append_5 ⟨Nat.le_of_ble_eq_true rfl, Nat.le_of_ble_eq_true rfl⟩ (fun H locs hP hD hS => ?_)
  refine lv_if_ne (tgt := 14) hx hb dX10_append_8 (by decide) (fun c_4 => ?_) (fun c_4 => ?_)
  · replace hf := kt_n hf c_4
    refine lv_aload_n hx hb dX10_append_14 rfl (lv_at hl 0 rfl) ?_
    refine va_get (D := D) (ci := 7) (v := .int i_length) (C := RX10) (T := TX10) (N := 17) hx hb hts qX10_append_X10 hown hK hP 0 rfl rfl 6 (Nat.le_of_ble_eq_true rfl) (hts (.fieldLink RX10 69 "KnotDiagramModel" "length" "I") qX10_append_0) (fun _ h9 => h9) rfl dX10_append_15 ?_
    refine lv_sipush (v := 160) hx hb dX10_append_18 (by decide) ?_
    refine lv_icmp_ne (tgt := 27) hx hb dX10_append_21 (by decide) (fun c_3 => ?_) (fun c_3 => ?_)
    · replace hf := kt_n hf c_3
      refine lv_aload_n hx hb dX10_append_27 rfl (lv_at hl 0 rfl) ?_
      refine va_get (D := D) (ci := 7) (v := .ref a_text) (C := RX10) (T := TX10) (N := 17) hx hb hts qX10_append_X10 hown hK hP 0 rfl rfl 5 (Nat.le_of_ble_eq_true rfl) (hts (.fieldLink RX10 23 "KnotDiagramModel" "text" "[I") qX10_append_1) (fun _ h9 => h9) rfl dX10_append_28 ?_
      refine lv_aload_n hx hb dX10_append_31 rfl (lv_at hl 0 rfl) ?_
      refine va_get (D := D) (ci := 7) (v := .int i_length) (C := RX10) (T := TX10) (N := 17) hx hb hts qX10_append_X10 hown hK hP 0 rfl rfl 6 (Nat.le_of_ble_eq_true rfl) (hts (.fieldLink RX10 69 "KnotDiagramModel" "length" "I") qX10_append_0) (fun _ h9 => h9) rfl dX10_append_32 ?_
      refine lv_iload_n hx hb dX10_append_35 rfl (lv_at hl 1 rfl) ?_
      obtain ⟨hi_2, hf⟩ := ck_s hf
      refine va_iast hx hb hK hP hD hS 1 0 rfl rfl hi_2 dX10_append_36 (fun H locs hP hD hS => ?_)
      replace hP : va_P D vwCl [(a_this, .inr (7, [.ref a_now, .ref a_history, .int i_saved, .ref a_kept, .ref a_isKept, .ref a_text, .int i_length, .int i_next, .ref a_read, .ref a_uses, .ref a_entry, .ref a_passed, .ref a_draft, .ref a_label, .ref a_met, .ref a_bracket, .ref a_matrix])), (a_text, .inl (cyI, 160, .inl (upd f_text i_length.toNatClampNeg v1)))] H := hP
      replace hD : va_D A [(a_this, .inr (7, [.ref a_now, .ref a_history, .int i_saved, .ref a_kept, .ref a_isKept, .ref a_text, .int i_length, .int i_next, .ref a_read, .ref a_uses, .ref a_entry, .ref a_passed, .ref a_draft, .ref a_label, .ref a_met, .ref a_bracket, .ref a_matrix])), (a_text, .inl (cyI, 160, .inl (upd f_text i_length.toNatClampNeg v1)))] := hD
      refine lv_aload_n hx hb dX10_append_37 rfl (lv_at hl 0 rfl) ?_
      refine lv_dup hx hb dX10_append_38 rfl ?_
      refine va_get (D := D) (ci := 7) (v := .int i_length) (C := RX10) (T := TX10) (N := 17) hx hb hts qX10_append_X10 hown hK hP 0 rfl rfl 6 (Nat.le_of_ble_eq_true rfl) (hts (.fieldLink RX10 69 "KnotDiagramModel" "length" "I") qX10_append_0) (fun _ h9 => h9) rfl dX10_append_39 ?_
      refine lv_iconst (v := 1) hx hb dX10_append_42 (by decide) ?_
      refine lv_iadd hx hb dX10_append_43 ?_
      refine va_put (D := D) (ci := 7) (v := .int (i_length + 1)) (ty := .int) (C := RX10) (T := TX10) (N := 17) hx hb hts qX10_append_X10 tyX10 tyX10_ok nmX10 hown hK hP hD hS 0 rfl rfl 6 (Nat.le_of_ble_eq_true rfl) (hts (.fieldLink RX10 69 "KnotDiagramModel" "length" "I") qX10_append_0) (fun _ h9 => h9) rfl (by decide +kernel) rfl rfl (Nat.le_of_ble_eq_true rfl) dX10_append_44 (fun H locs hP hD hS => ?_)
      replace hP : va_P D vwCl [(a_this, .inr (7, [.ref a_now, .ref a_history, .int i_saved, .ref a_kept, .ref a_isKept, .ref a_text, .int (i_length + 1), .int i_next, .ref a_read, .ref a_uses, .ref a_entry, .ref a_passed, .ref a_draft, .ref a_label, .ref a_met, .ref a_bracket, .ref a_matrix])), (a_text, .inl (cyI, 160, .inl (upd f_text i_length.toNatClampNeg v1)))] H := hP
      replace hD : va_D A [(a_this, .inr (7, [.ref a_now, .ref a_history, .int i_saved, .ref a_kept, .ref a_isKept, .ref a_text, .int (i_length + 1), .int i_next, .ref a_read, .ref a_uses, .ref a_entry, .ref a_passed, .ref a_draft, .ref a_label, .ref a_met, .ref a_bracket, .ref a_matrix])), (a_text, .inl (cyI, 160, .inl (upd f_text i_length.toNatClampNeg v1)))] := hD
      refine lv_aload_n hx hb dX10_append_47 rfl (lv_at hl 0 rfl) ?_
      refine va_get (D := D) (ci := 7) (v := .int (i_length + 1)) (C := RX10) (T := TX10) (N := 17) hx hb hts qX10_append_X10 hown hK hP 0 rfl rfl 6 (Nat.le_of_ble_eq_true rfl) (hts (.fieldLink RX10 69 "KnotDiagramModel" "length" "I") qX10_append_0) (fun _ h9 => h9) rfl dX10_append_48 ?_
      obtain ⟨rfl, rfl, rfl⟩ := some3_s hf
      exact kRi hx hb hr hlocks hP hK hD hS rfl dX10_append_51
    · replace hf := kt_p hf c_3
      refine lv_ldc (v := (-1000003)) hx hb hown (hts (.constant RX10 73 (-1000003)) qX10_append_2) dX10_append_24 ?_
      obtain ⟨rfl, rfl, rfl⟩ := some3_s hf
      exact kRi hx hb hr hlocks hP hK hD hS rfl dX10_append_26
  · replace hf := kt_p hf c_4
    refine lv_ldc (v := (-1000001)) hx hb hown (hts (.constant RX10 68 (-1000001)) qX10_append_3) dX10_append_11 ?_
    obtain ⟨rfl, rfl, rfl⟩ := some3_s hf
    exact kRi hx hb hr hlocks hP hK hD hS rfl dX10_append_13
def kX10_clearText (i_length : Int32) : Option (Int32 × Int32) :=
  some (i_length, 0)
def rmX10_clearText : Room := { frames := 0, cells := 0, slots := 0, locals := 0 }
theorem qX10_clearText_0 : (.fieldLink RX10 69 "KnotDiagramModel" "length" "I" : Cond) ∈ wsX10_clearText := by decide +kernel
theorem qX10_clearText_X10 : ∀ w ∈ wsX100, w ∈ wsX10_clearText := by decide +kernel
set_option maxHeartbeats 4000000 in
set_option maxRecDepth 100000 in
theorem mX10_clearText (l : Launch) (D : va_G) (cyI cyZ : ClassId) (sz : Nat) (a_this a_now a_history a_kept a_isKept a_text a_read a_uses a_entry a_passed a_draft a_label a_met a_bracket a_matrix : Nat) (i_saved : Int32) (i_length : Int32) (i_next : Int32) (r : Int32) (o_length : Int32) (hf : kX10_clearText i_length = some (r, o_length)) : Met l yX10_clearText wsX10_clearText rmX10_clearText (kPre D cyI cyZ [.ref a_this] [(a_this, .inr (7, [.ref a_now, .ref a_history, .int i_saved, .ref a_kept, .ref a_isKept, .ref a_text, .int i_length, .int i_next, .ref a_read, .ref a_uses, .ref a_entry, .ref a_passed, .ref a_draft, .ref a_label, .ref a_met, .ref a_bracket, .ref a_matrix]))] sz) (kQi D cyI cyZ (va_A [(a_this, .inr (7, [.ref a_now, .ref a_history, .int i_saved, .ref a_kept, .ref a_isKept, .ref a_text, .int i_length, .int i_next, .ref a_read, .ref a_uses, .ref a_entry, .ref a_passed, .ref a_draft, .ref a_label, .ref a_met, .ref a_bracket, .ref a_matrix]))] sz) [(a_this, .inr (7, [.ref a_now, .ref a_history, .int i_saved, .ref a_kept, .ref a_isKept, .ref a_text, .int o_length, .int i_next, .ref a_read, .ref a_uses, .ref a_entry, .ref a_passed, .ref a_draft, .ref a_label, .ref a_met, .ref a_bracket, .ref a_matrix]))] r) 0 0 (va_A [(a_this, .inr (7, [.ref a_now, .ref a_history, .int i_saved, .ref a_kept, .ref a_isKept, .ref a_text, .int i_length, .int i_next, .ref a_read, .ref a_uses, .ref a_entry, .ref a_passed, .ref a_draft, .ref a_label, .ref a_met, .ref a_bracket, .ref a_matrix]))] sz) := by
  refine Met.ofW (cc := cX10_clearText) (maxL := 2) (ret := (some .int)) (by decide) rfl ?_
  intro p e s m args below meth c s₁ B hml hv
  obtain ⟨rfl, hsz, hP, hK, hD0, hN⟩ := hv
  have hx := B.exec
  have hb := B.bytes
  have hr := B.returns
  have hts := atoms_spec (ws := wsX10_clearText) B.pre
  have hown : s.vm.findClass RX10 = some m.cls := findClass_of_methodNamed B.named
  have hlocks := B.notSynchronized
  subst hsz
  have hD := hD0.self (sz := s.heap.size)
  generalize hAe : va_A [(a_this, .inr (7, [.ref a_now, .ref a_history, .int i_saved, .ref a_kept, .ref a_isKept, .ref a_text, .int i_length, .int i_next, .ref a_read, .ref a_uses, .ref a_entry, .ref a_passed, .ref a_draft, .ref a_label, .ref a_met, .ref a_bracket, .ref a_matrix]))] s.heap.size = A at hD ⊢
  have hA : ∀ q : Nat, s.heap.size ≤ q → A q := fun q h => by rw [← hAe]; exact Or.inr h
  clear hAe hD0
  have hS : va_S A s.heap s.heap [] := va_S.rf
  have S : CallFix p m c cX10_clearText 2 s (([.ref a_this] : List Value).toArray) wsX10_clearText RX10 := ⟨hx, hb, hml, hown, hts⟩
  have hl := lv_entry ([.ref a_this]) (n := 2) (Nat.le_of_ble_eq_true rfl)
  rw [lg_entry_eq]
  generalize (lg_sl ([.ref a_this]) ++ List.replicate (2 - (lg_sl ([.ref a_this])).length) Slot.unset).toArray = ls at hl ⊢
  replace hl : lv_has ls 2 [(0, .ref a_this)] := hl
  generalize ([] : List Loc) = locs at hS ⊢
  delta kX10_clearText at hf
  obtain ⟨H, hH⟩ : ∃ H, H = s.heap := ⟨_, rfl⟩
  have hS : va_S A s.heap H locs := by rw [hH]; exact hS
  have hP : va_P D vwCl [(a_this, .inr (7, [.ref a_now, .ref a_history, .int i_saved, .ref a_kept, .ref a_isKept, .ref a_text, .int i_length, .int i_next, .ref a_read, .ref a_uses, .ref a_entry, .ref a_passed, .ref a_draft, .ref a_label, .ref a_met, .ref a_bracket, .ref a_matrix]))] H := by rw [hH]; exact hP
  suffices hgo : W p l e (headSpec wsX10_clearText rmX10_clearText).room s m (([.ref a_this] : List Value).toArray) below meth c H locs 0 0 (MQ below (kQi D cyI cyZ A [(a_this, .inr (7, [.ref a_now, .ref a_history, .int i_saved, .ref a_kept, .ref a_isKept, .ref a_text, .int o_length, .int i_next, .ref a_read, .ref a_uses, .ref a_entry, .ref a_passed, .ref a_draft, .ref a_label, .ref a_met, .ref a_bracket, .ref a_matrix]))] r) (([.ref a_this] : List Value).toArray) s 0 0 A) (F0 m 0 ls []) by rw [hH] at hgo; exact hgo
  clear hH
  refine lv_aload_n hx hb dX10_clearText_0 rfl (lv_at hl 0 rfl) ?_
  refine va_get (D := D) (ci := 7) (v := .int i_length) (C := RX10) (T := TX10) (N := 17) hx hb hts qX10_clearText_X10 hown hK hP 0 rfl rfl 6 (Nat.le_of_ble_eq_true rfl) (hts (.fieldLink RX10 69 "KnotDiagramModel" "length" "I") qX10_clearText_0) (fun _ h9 => h9) rfl dX10_clearText_1 ?_
  refine lv_istore_n (lv' := [(1, .int i_length), (0, .ref a_this)]) hx hb dX10_clearText_4 rfl hl (by decide) rfl (fun ls hl => ?_)
  refine lv_aload_n hx hb dX10_clearText_5 rfl (lv_at hl 1 rfl) ?_
  refine lv_iconst (v := 0) hx hb dX10_clearText_6 (by decide) ?_
  refine va_put (D := D) (ci := 7) (v := .int 0) (ty := .int) (C := RX10) (T := TX10) (N := 17) hx hb hts qX10_clearText_X10 tyX10 tyX10_ok nmX10 hown hK hP hD hS 0 rfl rfl 6 (Nat.le_of_ble_eq_true rfl) (hts (.fieldLink RX10 69 "KnotDiagramModel" "length" "I") qX10_clearText_0) (fun _ h9 => h9) rfl (by decide +kernel) rfl rfl (Nat.le_of_ble_eq_true rfl) dX10_clearText_7 (fun H locs hP hD hS => ?_)
  replace hP : va_P D vwCl [(a_this, .inr (7, [.ref a_now, .ref a_history, .int i_saved, .ref a_kept, .ref a_isKept, .ref a_text, .int 0, .int i_next, .ref a_read, .ref a_uses, .ref a_entry, .ref a_passed, .ref a_draft, .ref a_label, .ref a_met, .ref a_bracket, .ref a_matrix]))] H := hP
  replace hD : va_D A [(a_this, .inr (7, [.ref a_now, .ref a_history, .int i_saved, .ref a_kept, .ref a_isKept, .ref a_text, .int 0, .int i_next, .ref a_read, .ref a_uses, .ref a_entry, .ref a_passed, .ref a_draft, .ref a_label, .ref a_met, .ref a_bracket, .ref a_matrix]))] := hD
  refine lv_iload_n hx hb dX10_clearText_10 rfl (lv_at hl 0 rfl) ?_
  obtain ⟨rfl, rfl⟩ := some2_s hf
  exact kRi hx hb hr hlocks hP hK hD hS rfl dX10_clearText_11
def kX10_skipSpaces_L1 (i_length : Int32) (f_text : Nat → Int32) (K_1 : Int32 → Option (Int32)) (i_next_1 : Int32) : Option (Int32) :=
  if i_length ≤ i_next_1 then some i_next_1 else ck i_next_1 160 (if (f_text i_next_1.toNatClampNeg) = 32 then K_1 (i_next_1 + 1) else some i_next_1)
def kX10_skipSpaces (i_length : Int32) (i_next : Int32) (f_text : Nat → Int32) : Option (Int32) :=
  it1 (kX10_skipSpaces_L1 i_length f_text) 400 i_next
def rmX10_skipSpaces : Room := { frames := 0, cells := 0, slots := 0, locals := 0 }
theorem qX10_skipSpaces_0 : (.fieldLink RX10 74 "KnotDiagramModel" "next" "I" : Cond) ∈ wsX10_skipSpaces := by decide +kernel
theorem qX10_skipSpaces_1 : (.fieldLink RX10 69 "KnotDiagramModel" "length" "I" : Cond) ∈ wsX10_skipSpaces := by decide +kernel
theorem qX10_skipSpaces_2 : (.fieldLink RX10 23 "KnotDiagramModel" "text" "[I" : Cond) ∈ wsX10_skipSpaces := by decide +kernel
theorem qX10_skipSpaces_X10 : ∀ w ∈ wsX100, w ∈ wsX10_skipSpaces := by decide +kernel
set_option maxHeartbeats 4000000 in
set_option maxRecDepth 100000 in
theorem mX10_skipSpaces (l : Launch) (D : va_G) (cyI cyZ : ClassId) (sz : Nat) (a_this a_now a_history a_kept a_isKept a_text a_read a_uses a_entry a_passed a_draft a_label a_met a_bracket a_matrix : Nat) (i_saved : Int32) (i_length : Int32) (i_next : Int32) (f_text : Nat → Int32) (o_next : Int32) (hf : kX10_skipSpaces i_length i_next f_text = some o_next) : Met l yX10_skipSpaces wsX10_skipSpaces rmX10_skipSpaces (kPre D cyI cyZ [.ref a_this] [(a_this, .inr (7, [.ref a_now, .ref a_history, .int i_saved, .ref a_kept, .ref a_isKept, .ref a_text, .int i_length, .int i_next, .ref a_read, .ref a_uses, .ref a_entry, .ref a_passed, .ref a_draft, .ref a_label, .ref a_met, .ref a_bracket, .ref a_matrix])), (a_text, .inl (cyI, 160, .inl f_text))] sz) (kQv D cyI cyZ (va_A [(a_this, .inr (7, [.ref a_now, .ref a_history, .int i_saved, .ref a_kept, .ref a_isKept, .ref a_text, .int i_length, .int i_next, .ref a_read, .ref a_uses, .ref a_entry, .ref a_passed, .ref a_draft, .ref a_label, .ref a_met, .ref a_bracket, .ref a_matrix])), (a_text, .inl (cyI, 160, .inl f_text))] sz) [(a_this, .inr (7, [.ref a_now, .ref a_history, .int i_saved, .ref a_kept, .ref a_isKept, .ref a_text, .int i_length, .int o_next, .ref a_read, .ref a_uses, .ref a_entry, .ref a_passed, .ref a_draft, .ref a_label, .ref a_met, .ref a_bracket, .ref a_matrix])), (a_text, .inl (cyI, 160, .inl f_text))]) 0 0 (va_A [(a_this, .inr (7, [.ref a_now, .ref a_history, .int i_saved, .ref a_kept, .ref a_isKept, .ref a_text, .int i_length, .int i_next, .ref a_read, .ref a_uses, .ref a_entry, .ref a_passed, .ref a_draft, .ref a_label, .ref a_met, .ref a_bracket, .ref a_matrix])), (a_text, .inl (cyI, 160, .inl f_text))] sz) := by
  refine Met.ofW (cc := cX10_skipSpaces) (maxL := 1) (ret := none) (by decide) rfl ?_
  intro p e s m args below meth c s₁ B hml hv
  obtain ⟨rfl, hsz, hP, hK, hD0, hN⟩ := hv
  have hx := B.exec
  have hb := B.bytes
  have hr := B.returns
  have hts := atoms_spec (ws := wsX10_skipSpaces) B.pre
  have hown : s.vm.findClass RX10 = some m.cls := findClass_of_methodNamed B.named
  have hlocks := B.notSynchronized
  subst hsz
  have hD := hD0.self (sz := s.heap.size)
  generalize hAe : va_A [(a_this, .inr (7, [.ref a_now, .ref a_history, .int i_saved, .ref a_kept, .ref a_isKept, .ref a_text, .int i_length, .int i_next, .ref a_read, .ref a_uses, .ref a_entry, .ref a_passed, .ref a_draft, .ref a_label, .ref a_met, .ref a_bracket, .ref a_matrix])), (a_text, .inl (cyI, 160, .inl f_text))] s.heap.size = A at hD ⊢
  have hA : ∀ q : Nat, s.heap.size ≤ q → A q := fun q h => by rw [← hAe]; exact Or.inr h
  clear hAe hD0
  have hS : va_S A s.heap s.heap [] := va_S.rf
  have S : CallFix p m c cX10_skipSpaces 1 s (([.ref a_this] : List Value).toArray) wsX10_skipSpaces RX10 := ⟨hx, hb, hml, hown, hts⟩
  have hl := lv_entry ([.ref a_this]) (n := 1) (Nat.le_of_ble_eq_true rfl)
  rw [lg_entry_eq]
  generalize (lg_sl ([.ref a_this]) ++ List.replicate (1 - (lg_sl ([.ref a_this])).length) Slot.unset).toArray = ls at hl ⊢
  replace hl : lv_has ls 1 [(0, .ref a_this)] := hl
  generalize ([] : List Loc) = locs at hS ⊢
  delta kX10_skipSpaces at hf
  obtain ⟨H, hH⟩ : ∃ H, H = s.heap := ⟨_, rfl⟩
  have hS : va_S A s.heap H locs := by rw [hH]; exact hS
  have hP : va_P D vwCl [(a_this, .inr (7, [.ref a_now, .ref a_history, .int i_saved, .ref a_kept, .ref a_isKept, .ref a_text, .int i_length, .int i_next, .ref a_read, .ref a_uses, .ref a_entry, .ref a_passed, .ref a_draft, .ref a_label, .ref a_met, .ref a_bracket, .ref a_matrix])), (a_text, .inl (cyI, 160, .inl f_text))] H := by rw [hH]; exact hP
  suffices hgo : W p l e (headSpec wsX10_skipSpaces rmX10_skipSpaces).room s m (([.ref a_this] : List Value).toArray) below meth c H locs 0 0 (MQ below (kQv D cyI cyZ A [(a_this, .inr (7, [.ref a_now, .ref a_history, .int i_saved, .ref a_kept, .ref a_isKept, .ref a_text, .int i_length, .int o_next, .ref a_read, .ref a_uses, .ref a_entry, .ref a_passed, .ref a_draft, .ref a_label, .ref a_met, .ref a_bracket, .ref a_matrix])), (a_text, .inl (cyI, 160, .inl f_text))]) (([.ref a_this] : List Value).toArray) s 0 0 A) (F0 m 0 ls []) by rw [hH] at hgo; exact hgo
  clear hH
  have hL_1 : ∀ (n : Nat) (i_next_1 : Int32) (H : Heap) (locs : List Loc) (ls : Array Slot), it1 (kX10_skipSpaces_L1 i_length f_text) n i_next_1 = some o_next → va_P D vwCl [(a_this, .inr (7, [.ref a_now, .ref a_history, .int i_saved, .ref a_kept, .ref a_isKept, .ref a_text, .int i_length, .int i_next_1, .ref a_read, .ref a_uses, .ref a_entry, .ref a_passed, .ref a_draft, .ref a_label, .ref a_met, .ref a_bracket, .ref a_matrix])), (a_text, .inl (cyI, 160, .inl f_text))] H → va_D A [(a_this, .inr (7, [.ref a_now, .ref a_history, .int i_saved, .ref a_kept, .ref a_isKept, .ref a_text, .int i_length, .int i_next_1, .ref a_read, .ref a_uses, .ref a_entry, .ref a_passed, .ref a_draft, .ref a_label, .ref a_met, .ref a_bracket, .ref a_matrix])), (a_text, .inl (cyI, 160, .inl f_text))] → va_S A s.heap H locs → lv_has ls 1 [(0, .ref a_this)] → W p l e (headSpec wsX10_skipSpaces rmX10_skipSpaces).room s m (([.ref a_this] : List Value).toArray) below meth c H locs 0 0 (MQ below (kQv D cyI cyZ A [(a_this, .inr (7, [.ref a_now, .ref a_history, .int i_saved, .ref a_kept, .ref a_isKept, .ref a_text, .int i_length, .int o_next, .ref a_read, .ref a_uses, .ref a_entry, .ref a_passed, .ref a_draft, .ref a_label, .ref a_met, .ref a_bracket, .ref a_matrix])), (a_text, .inl (cyI, 160, .inl f_text))]) (([.ref a_this] : List Value).toArray) s 0 0 A) (F0 m 0 ls []) := by
    intro n_1
    induction n_1 with
    | zero =>
      intro _ _ _ _ hf
      exact (it1_z hf).elim
    | succ n_1 ih_1 =>
      intro i_next_1 H locs ls hf hP hD hS hl
      replace hf := it1_s hf
      rw [kX10_skipSpaces_L1] at hf
      refine lv_aload_n hx hb dX10_skipSpaces_0 rfl (lv_at hl 0 rfl) ?_
      refine va_get (D := D) (ci := 7) (v := .int i_next_1) (C := RX10) (T := TX10) (N := 17) hx hb hts qX10_skipSpaces_X10 hown hK hP 0 rfl rfl 7 (Nat.le_of_ble_eq_true rfl) (hts (.fieldLink RX10 74 "KnotDiagramModel" "next" "I") qX10_skipSpaces_0) (fun _ h9 => h9) rfl dX10_skipSpaces_1 ?_
      refine lv_aload_n hx hb dX10_skipSpaces_4 rfl (lv_at hl 0 rfl) ?_
      refine va_get (D := D) (ci := 7) (v := .int i_length) (C := RX10) (T := TX10) (N := 17) hx hb hts qX10_skipSpaces_X10 hown hK hP 0 rfl rfl 6 (Nat.le_of_ble_eq_true rfl) (hts (.fieldLink RX10 69 "KnotDiagramModel" "length" "I") qX10_skipSpaces_1) (fun _ h9 => h9) rfl dX10_skipSpaces_5 ?_
      refine lv_icmp_ge (tgt := 38) hx hb dX10_skipSpaces_8 (by decide) (fun c_3 => ?_) (fun c_3 => ?_)
      · replace hf := kt_p hf c_3
        obtain rfl := some1_s hf
        exact kRv hx hb hr hlocks hP hK hD hS dX10_skipSpaces_38
      · replace hf := kt_n hf c_3
        refine lv_aload_n hx hb dX10_skipSpaces_11 rfl (lv_at hl 0 rfl) ?_
        refine va_get (D := D) (ci := 7) (v := .ref a_text) (C := RX10) (T := TX10) (N := 17) hx hb hts qX10_skipSpaces_X10 hown hK hP 0 rfl rfl 5 (Nat.le_of_ble_eq_true rfl) (hts (.fieldLink RX10 23 "KnotDiagramModel" "text" "[I") qX10_skipSpaces_2) (fun _ h9 => h9) rfl dX10_skipSpaces_12 ?_
        refine lv_aload_n hx hb dX10_skipSpaces_15 rfl (lv_at hl 0 rfl) ?_
        refine va_get (D := D) (ci := 7) (v := .int i_next_1) (C := RX10) (T := TX10) (N := 17) hx hb hts qX10_skipSpaces_X10 hown hK hP 0 rfl rfl 7 (Nat.le_of_ble_eq_true rfl) (hts (.fieldLink RX10 74 "KnotDiagramModel" "next" "I") qX10_skipSpaces_0) (fun _ h9 => h9) rfl dX10_skipSpaces_16 ?_
        obtain ⟨hi_1, hf⟩ := ck_s hf
        refine va_iald hx hb hK hP 1 0 rfl rfl hi_1 dX10_skipSpaces_19 ?_
        refine lv_bipush (v := 32) hx hb dX10_skipSpaces_20 (by decide) ?_
        refine lv_icmp_ne (tgt := 38) hx hb dX10_skipSpaces_22 (by decide) (fun c_2 => ?_) (fun c_2 => ?_)
        · replace hf := kt_n hf c_2
          obtain rfl := some1_s hf
          exact kRv hx hb hr hlocks hP hK hD hS dX10_skipSpaces_38
        · replace hf := kt_p hf c_2
          refine lv_aload_n hx hb dX10_skipSpaces_25 rfl (lv_at hl 0 rfl) ?_
          refine lv_dup hx hb dX10_skipSpaces_26 rfl ?_
          refine va_get (D := D) (ci := 7) (v := .int i_next_1) (C := RX10) (T := TX10) (N := 17) hx hb hts qX10_skipSpaces_X10 hown hK hP 0 rfl rfl 7 (Nat.le_of_ble_eq_true rfl) (hts (.fieldLink RX10 74 "KnotDiagramModel" "next" "I") qX10_skipSpaces_0) (fun _ h9 => h9) rfl dX10_skipSpaces_27 ?_
          refine lv_iconst (v := 1) hx hb dX10_skipSpaces_30 (by decide) ?_
          refine lv_iadd hx hb dX10_skipSpaces_31 ?_
          refine va_put (D := D) (ci := 7) (v := .int (i_next_1 + 1)) (ty := .int) (C := RX10) (T := TX10) (N := 17) hx hb hts qX10_skipSpaces_X10 tyX10 tyX10_ok nmX10 hown hK hP hD hS 0 rfl rfl 7 (Nat.le_of_ble_eq_true rfl) (hts (.fieldLink RX10 74 "KnotDiagramModel" "next" "I") qX10_skipSpaces_0) (fun _ h9 => h9) rfl (by decide +kernel) rfl rfl (Nat.le_of_ble_eq_true rfl) dX10_skipSpaces_32 (fun H locs hP hD hS => ?_)
          replace hP : va_P D vwCl [(a_this, .inr (7, [.ref a_now, .ref a_history, .int i_saved, .ref a_kept, .ref a_isKept, .ref a_text, .int i_length, .int (i_next_1 + 1), .ref a_read, .ref a_uses, .ref a_entry, .ref a_passed, .ref a_draft, .ref a_label, .ref a_met, .ref a_bracket, .ref a_matrix])), (a_text, .inl (cyI, 160, .inl f_text))] H := hP
          replace hD : va_D A [(a_this, .inr (7, [.ref a_now, .ref a_history, .int i_saved, .ref a_kept, .ref a_isKept, .ref a_text, .int i_length, .int (i_next_1 + 1), .ref a_read, .ref a_uses, .ref a_entry, .ref a_passed, .ref a_draft, .ref a_label, .ref a_met, .ref a_bracket, .ref a_matrix])), (a_text, .inl (cyI, 160, .inl f_text))] := hD
          refine lv_goto (tgt := 0) hx hb dX10_skipSpaces_35 (by decide) ?_
          exact ih_1 (i_next_1 + 1) H locs ls hf hP hD hS (lv_sub hl [0] rfl)
  exact hL_1 400 i_next H locs ls hf hP hD hS (lv_sub hl [0] rfl)
def kX10_isAt_J1   : Option (Int32) :=
  some 0
def kX10_isAt (v1 : Int32) (i_length : Int32) (i_next : Int32) (f_text : Nat → Int32) : Option (Int32) :=
  if i_length ≤ i_next then kX10_isAt_J1 else ck i_next 160 (if (f_text i_next.toNatClampNeg) = v1 then some 1 else kX10_isAt_J1)
def rmX10_isAt : Room := { frames := 0, cells := 0, slots := 0, locals := 0 }
theorem qX10_isAt_0 : (.fieldLink RX10 74 "KnotDiagramModel" "next" "I" : Cond) ∈ wsX10_isAt := by decide +kernel
theorem qX10_isAt_1 : (.fieldLink RX10 69 "KnotDiagramModel" "length" "I" : Cond) ∈ wsX10_isAt := by decide +kernel
theorem qX10_isAt_2 : (.fieldLink RX10 23 "KnotDiagramModel" "text" "[I" : Cond) ∈ wsX10_isAt := by decide +kernel
theorem qX10_isAt_X10 : ∀ w ∈ wsX100, w ∈ wsX10_isAt := by decide +kernel
set_option maxHeartbeats 4000000 in
set_option maxRecDepth 100000 in
theorem mX10_isAt (l : Launch) (D : va_G) (cyI cyZ : ClassId) (sz : Nat) (a_this a_now a_history a_kept a_isKept a_text a_read a_uses a_entry a_passed a_draft a_label a_met a_bracket a_matrix : Nat) (v1 : Int32) (i_saved : Int32) (i_length : Int32) (i_next : Int32) (f_text : Nat → Int32) (r : Int32) (hf : kX10_isAt v1 i_length i_next f_text = some r) : Met l yX10_isAt wsX10_isAt rmX10_isAt (kPre D cyI cyZ [.ref a_this, .int v1] [(a_this, .inr (7, [.ref a_now, .ref a_history, .int i_saved, .ref a_kept, .ref a_isKept, .ref a_text, .int i_length, .int i_next, .ref a_read, .ref a_uses, .ref a_entry, .ref a_passed, .ref a_draft, .ref a_label, .ref a_met, .ref a_bracket, .ref a_matrix])), (a_text, .inl (cyI, 160, .inl f_text))] sz) (kQi D cyI cyZ (va_A [(a_this, .inr (7, [.ref a_now, .ref a_history, .int i_saved, .ref a_kept, .ref a_isKept, .ref a_text, .int i_length, .int i_next, .ref a_read, .ref a_uses, .ref a_entry, .ref a_passed, .ref a_draft, .ref a_label, .ref a_met, .ref a_bracket, .ref a_matrix])), (a_text, .inl (cyI, 160, .inl f_text))] sz) [(a_this, .inr (7, [.ref a_now, .ref a_history, .int i_saved, .ref a_kept, .ref a_isKept, .ref a_text, .int i_length, .int i_next, .ref a_read, .ref a_uses, .ref a_entry, .ref a_passed, .ref a_draft, .ref a_label, .ref a_met, .ref a_bracket, .ref a_matrix])), (a_text, .inl (cyI, 160, .inl f_text))] r) 0 0 (va_A [(a_this, .inr (7, [.ref a_now, .ref a_history, .int i_saved, .ref a_kept, .ref a_isKept, .ref a_text, .int i_length, .int i_next, .ref a_read, .ref a_uses, .ref a_entry, .ref a_passed, .ref a_draft, .ref a_label, .ref a_met, .ref a_bracket, .ref a_matrix])), (a_text, .inl (cyI, 160, .inl f_text))] sz) := by
  refine Met.ofW (cc := cX10_isAt) (maxL := 2) (ret := (some .boolean)) (by decide) rfl ?_
  intro p e s m args below meth c s₁ B hml hv
  obtain ⟨rfl, hsz, hP, hK, hD0, hN⟩ := hv
  have hx := B.exec
  have hb := B.bytes
  have hr := B.returns
  have hts := atoms_spec (ws := wsX10_isAt) B.pre
  have hown : s.vm.findClass RX10 = some m.cls := findClass_of_methodNamed B.named
  have hlocks := B.notSynchronized
  subst hsz
  have hD := hD0.self (sz := s.heap.size)
  generalize hAe : va_A [(a_this, .inr (7, [.ref a_now, .ref a_history, .int i_saved, .ref a_kept, .ref a_isKept, .ref a_text, .int i_length, .int i_next, .ref a_read, .ref a_uses, .ref a_entry, .ref a_passed, .ref a_draft, .ref a_label, .ref a_met, .ref a_bracket, .ref a_matrix])), (a_text, .inl (cyI, 160, .inl f_text))] s.heap.size = A at hD ⊢
  have hA : ∀ q : Nat, s.heap.size ≤ q → A q := fun q h => by rw [← hAe]; exact Or.inr h
  clear hAe hD0
  have hS : va_S A s.heap s.heap [] := va_S.rf
  have S : CallFix p m c cX10_isAt 2 s (([.ref a_this, .int v1] : List Value).toArray) wsX10_isAt RX10 := ⟨hx, hb, hml, hown, hts⟩
  have hl := lv_entry ([.ref a_this, .int v1]) (n := 2) (Nat.le_of_ble_eq_true rfl)
  rw [lg_entry_eq]
  generalize (lg_sl ([.ref a_this, .int v1]) ++ List.replicate (2 - (lg_sl ([.ref a_this, .int v1])).length) Slot.unset).toArray = ls at hl ⊢
  replace hl : lv_has ls 2 [(0, .ref a_this), (1, .int v1)] := hl
  generalize ([] : List Loc) = locs at hS ⊢
  delta kX10_isAt at hf
  obtain ⟨H, hH⟩ : ∃ H, H = s.heap := ⟨_, rfl⟩
  have hS : va_S A s.heap H locs := by rw [hH]; exact hS
  have hP : va_P D vwCl [(a_this, .inr (7, [.ref a_now, .ref a_history, .int i_saved, .ref a_kept, .ref a_isKept, .ref a_text, .int i_length, .int i_next, .ref a_read, .ref a_uses, .ref a_entry, .ref a_passed, .ref a_draft, .ref a_label, .ref a_met, .ref a_bracket, .ref a_matrix])), (a_text, .inl (cyI, 160, .inl f_text))] H := by rw [hH]; exact hP
  suffices hgo : W p l e (headSpec wsX10_isAt rmX10_isAt).room s m (([.ref a_this, .int v1] : List Value).toArray) below meth c H locs 0 0 (MQ below (kQi D cyI cyZ A [(a_this, .inr (7, [.ref a_now, .ref a_history, .int i_saved, .ref a_kept, .ref a_isKept, .ref a_text, .int i_length, .int i_next, .ref a_read, .ref a_uses, .ref a_entry, .ref a_passed, .ref a_draft, .ref a_label, .ref a_met, .ref a_bracket, .ref a_matrix])), (a_text, .inl (cyI, 160, .inl f_text))] r) (([.ref a_this, .int v1] : List Value).toArray) s 0 0 A) (F0 m 0 ls []) by rw [hH] at hgo; exact hgo
  clear hH
  refine lv_aload_n hx hb dX10_isAt_0 rfl (lv_at hl 0 rfl) ?_
  refine va_get (D := D) (ci := 7) (v := .int i_next) (C := RX10) (T := TX10) (N := 17) hx hb hts qX10_isAt_X10 hown hK hP 0 rfl rfl 7 (Nat.le_of_ble_eq_true rfl) (hts (.fieldLink RX10 74 "KnotDiagramModel" "next" "I") qX10_isAt_0) (fun _ h9 => h9) rfl dX10_isAt_1 ?_
  refine lv_aload_n hx hb dX10_isAt_4 rfl (lv_at hl 0 rfl) ?_
  refine va_get (D := D) (ci := 7) (v := .int i_length) (C := RX10) (T := TX10) (N := 17) hx hb hts qX10_isAt_X10 hown hK hP 0 rfl rfl 6 (Nat.le_of_ble_eq_true rfl) (hts (.fieldLink RX10 69 "KnotDiagramModel" "length" "I") qX10_isAt_1) (fun _ h9 => h9) rfl dX10_isAt_5 ?_
  have hJ_1 : ∀  (H : Heap) (locs : List Loc) (ls : Array Slot), kX10_isAt_J1  = some r → va_P D vwCl [(a_this, .inr (7, [.ref a_now, .ref a_history, .int i_saved, .ref a_kept, .ref a_isKept, .ref a_text, .int i_length, .int i_next, .ref a_read, .ref a_uses, .ref a_entry, .ref a_passed, .ref a_draft, .ref a_label, .ref a_met, .ref a_bracket, .ref a_matrix])), (a_text, .inl (cyI, 160, .inl f_text))] H → va_D A [(a_this, .inr (7, [.ref a_now, .ref a_history, .int i_saved, .ref a_kept, .ref a_isKept, .ref a_text, .int i_length, .int i_next, .ref a_read, .ref a_uses, .ref a_entry, .ref a_passed, .ref a_draft, .ref a_label, .ref a_met, .ref a_bracket, .ref a_matrix])), (a_text, .inl (cyI, 160, .inl f_text))] → va_S A s.heap H locs → lv_has ls 2 [] → W p l e (headSpec wsX10_isAt rmX10_isAt).room s m (([.ref a_this, .int v1] : List Value).toArray) below meth c H locs 0 0 (MQ below (kQi D cyI cyZ A [(a_this, .inr (7, [.ref a_now, .ref a_history, .int i_saved, .ref a_kept, .ref a_isKept, .ref a_text, .int i_length, .int i_next, .ref a_read, .ref a_uses, .ref a_entry, .ref a_passed, .ref a_draft, .ref a_label, .ref a_met, .ref a_bracket, .ref a_matrix])), (a_text, .inl (cyI, 160, .inl f_text))] r) (([.ref a_this, .int v1] : List Value).toArray) s 0 0 A) (F0 m 28 ls []) := by
    intro  H locs ls hf hP hD hS hl
    delta kX10_isAt_J1 at hf
    refine lv_iconst (v := 0) hx hb dX10_isAt_28 (by decide) ?_
    obtain rfl := some1_s hf
    exact kRz hx hb hr hlocks hP hK hD hS zn0 rfl dX10_isAt_29
  refine lv_icmp_ge (tgt := 28) hx hb dX10_isAt_8 (by decide) (fun c_3 => ?_) (fun c_3 => ?_)
  · replace hf := kt_p hf c_3
    exact hJ_1 H locs ls hf hP hD hS (lv_sub hl [] rfl)
  · replace hf := kt_n hf c_3
    refine lv_aload_n hx hb dX10_isAt_11 rfl (lv_at hl 0 rfl) ?_
    refine va_get (D := D) (ci := 7) (v := .ref a_text) (C := RX10) (T := TX10) (N := 17) hx hb hts qX10_isAt_X10 hown hK hP 0 rfl rfl 5 (Nat.le_of_ble_eq_true rfl) (hts (.fieldLink RX10 23 "KnotDiagramModel" "text" "[I") qX10_isAt_2) (fun _ h9 => h9) rfl dX10_isAt_12 ?_
    refine lv_aload_n hx hb dX10_isAt_15 rfl (lv_at hl 0 rfl) ?_
    refine va_get (D := D) (ci := 7) (v := .int i_next) (C := RX10) (T := TX10) (N := 17) hx hb hts qX10_isAt_X10 hown hK hP 0 rfl rfl 7 (Nat.le_of_ble_eq_true rfl) (hts (.fieldLink RX10 74 "KnotDiagramModel" "next" "I") qX10_isAt_0) (fun _ h9 => h9) rfl dX10_isAt_16 ?_
    obtain ⟨hi_1, hf⟩ := ck_s hf
    refine va_iald hx hb hK hP 1 0 rfl rfl hi_1 dX10_isAt_19 ?_
    refine lv_iload_n hx hb dX10_isAt_20 rfl (lv_at hl 1 rfl) ?_
    refine lv_icmp_ne (tgt := 28) hx hb dX10_isAt_21 (by decide) (fun c_2 => ?_) (fun c_2 => ?_)
    · replace hf := kt_n hf c_2
      exact hJ_1 H locs ls hf hP hD hS (lv_sub hl [] rfl)
    · replace hf := kt_p hf c_2
      refine lv_iconst (v := 1) hx hb dX10_isAt_24 (by decide) ?_
      refine lv_goto (tgt := 29) hx hb dX10_isAt_25 (by decide) ?_
      obtain rfl := some1_s hf
      exact kRz hx hb hr hlocks hP hK hD hS zn1 rfl dX10_isAt_29
def kX10_arcHere_J3 (v1_1 : Int32) (t0_3 : Int32) : Option (Int32) :=
  if t0_3 = 0 then some 0 else some v1_1
def kX10_arcHere_J4 (v1_1 : Int32)  : Option (Int32) :=
  kX10_arcHere_J3 v1_1 0
def kX10_arcHere_J2 (v2_1 : Int32) (i_next : Int32) (v1_1 : Int32) (f_text : Nat → Int32)  : Option (Int32) :=
  if v2_1 ≤ i_next then kX10_arcHere_J4 v1_1 else ck i_next 160 (if (f_text i_next.toNatClampNeg) = 48 then kX10_arcHere_J4 v1_1 else if 16 < v1_1 then kX10_arcHere_J4 v1_1 else kX10_arcHere_J3 v1_1 1)
def kX10_arcHere_L1 (i_length : Int32) (i_next : Int32) (f_text : Nat → Int32) (K_1 : Int32 → Int32 → Option (Int32)) (v1_1 : Int32) (v2_1 : Int32) : Option (Int32) :=
  if i_length ≤ v2_1 then kX10_arcHere_J2 v2_1 i_next v1_1 f_text else ck v2_1 160 (bnd1 (kX10_in (f_text v2_1.toNatClampNeg) 48 57) (fun r_7 => if r_7 = 0 then kX10_arcHere_J2 v2_1 i_next v1_1 f_text else if v1_1 ≤ 16 then ck v2_1 160 (K_1 (((10 * v1_1) + (f_text v2_1.toNatClampNeg)) - 48) (v2_1 + 1)) else K_1 v1_1 (v2_1 + 1)))
def kX10_arcHere (i_length : Int32) (i_next : Int32) (f_text : Nat → Int32) : Option (Int32) :=
  it2 (kX10_arcHere_L1 i_length i_next f_text) 400 0 i_next
def rmX10_arcHere : Room := { frames := 1, cells := 0, slots := 0, locals := 22 }
theorem qX10_arcHere_0 : (.fieldLink RX10 74 "KnotDiagramModel" "next" "I" : Cond) ∈ wsX10_arcHere := by decide +kernel
theorem qX10_arcHere_1 : (.fieldLink RX10 69 "KnotDiagramModel" "length" "I" : Cond) ∈ wsX10_arcHere := by decide +kernel
theorem qX10_arcHere_2 : (.fieldLink RX10 23 "KnotDiagramModel" "text" "[I" : Cond) ∈ wsX10_arcHere := by decide +kernel
theorem qX10_arcHere_X10 : ∀ w ∈ wsX100, w ∈ wsX10_arcHere := by decide +kernel
set_option maxHeartbeats 4000000 in
set_option maxRecDepth 100000 in
theorem mX10_arcHere (l : Launch) (D : va_G) (cyI cyZ : ClassId) (sz : Nat) (a_this a_now a_history a_kept a_isKept a_text a_read a_uses a_entry a_passed a_draft a_label a_met a_bracket a_matrix : Nat) (i_saved : Int32) (i_length : Int32) (i_next : Int32) (f_text : Nat → Int32) (r : Int32) (hf : kX10_arcHere i_length i_next f_text = some r) : Met l yX10_arcHere wsX10_arcHere rmX10_arcHere (kPre D cyI cyZ [.ref a_this] [(a_this, .inr (7, [.ref a_now, .ref a_history, .int i_saved, .ref a_kept, .ref a_isKept, .ref a_text, .int i_length, .int i_next, .ref a_read, .ref a_uses, .ref a_entry, .ref a_passed, .ref a_draft, .ref a_label, .ref a_met, .ref a_bracket, .ref a_matrix])), (a_text, .inl (cyI, 160, .inl f_text))] sz) (kQi D cyI cyZ (va_A [(a_this, .inr (7, [.ref a_now, .ref a_history, .int i_saved, .ref a_kept, .ref a_isKept, .ref a_text, .int i_length, .int i_next, .ref a_read, .ref a_uses, .ref a_entry, .ref a_passed, .ref a_draft, .ref a_label, .ref a_met, .ref a_bracket, .ref a_matrix])), (a_text, .inl (cyI, 160, .inl f_text))] sz) [(a_this, .inr (7, [.ref a_now, .ref a_history, .int i_saved, .ref a_kept, .ref a_isKept, .ref a_text, .int i_length, .int i_next, .ref a_read, .ref a_uses, .ref a_entry, .ref a_passed, .ref a_draft, .ref a_label, .ref a_met, .ref a_bracket, .ref a_matrix])), (a_text, .inl (cyI, 160, .inl f_text))] r) 0 0 (va_A [(a_this, .inr (7, [.ref a_now, .ref a_history, .int i_saved, .ref a_kept, .ref a_isKept, .ref a_text, .int i_length, .int i_next, .ref a_read, .ref a_uses, .ref a_entry, .ref a_passed, .ref a_draft, .ref a_label, .ref a_met, .ref a_bracket, .ref a_matrix])), (a_text, .inl (cyI, 160, .inl f_text))] sz) := by
  refine Met.ofW (cc := cX10_arcHere) (maxL := 4) (ret := (some .int)) (by decide) rfl ?_
  intro p e s m args below meth c s₁ B hml hv
  obtain ⟨rfl, hsz, hP, hK, hD0, hN⟩ := hv
  have hx := B.exec
  have hb := B.bytes
  have hr := B.returns
  have hts := atoms_spec (ws := wsX10_arcHere) B.pre
  have hown : s.vm.findClass RX10 = some m.cls := findClass_of_methodNamed B.named
  have hlocks := B.notSynchronized
  subst hsz
  have hD := hD0.self (sz := s.heap.size)
  generalize hAe : va_A [(a_this, .inr (7, [.ref a_now, .ref a_history, .int i_saved, .ref a_kept, .ref a_isKept, .ref a_text, .int i_length, .int i_next, .ref a_read, .ref a_uses, .ref a_entry, .ref a_passed, .ref a_draft, .ref a_label, .ref a_met, .ref a_bracket, .ref a_matrix])), (a_text, .inl (cyI, 160, .inl f_text))] s.heap.size = A at hD ⊢
  have hA : ∀ q : Nat, s.heap.size ≤ q → A q := fun q h => by rw [← hAe]; exact Or.inr h
  clear hAe hD0
  have hS : va_S A s.heap s.heap [] := va_S.rf
  have S : CallFix p m c cX10_arcHere 4 s (([.ref a_this] : List Value).toArray) wsX10_arcHere RX10 := ⟨hx, hb, hml, hown, hts⟩
  have hl := lv_entry ([.ref a_this]) (n := 4) (Nat.le_of_ble_eq_true rfl)
  rw [lg_entry_eq]
  generalize (lg_sl ([.ref a_this]) ++ List.replicate (4 - (lg_sl ([.ref a_this])).length) Slot.unset).toArray = ls at hl ⊢
  replace hl : lv_has ls 4 [(0, .ref a_this)] := hl
  generalize ([] : List Loc) = locs at hS ⊢
  delta kX10_arcHere at hf
  obtain ⟨H, hH⟩ : ∃ H, H = s.heap := ⟨_, rfl⟩
  have hS : va_S A s.heap H locs := by rw [hH]; exact hS
  have hP : va_P D vwCl [(a_this, .inr (7, [.ref a_now, .ref a_history, .int i_saved, .ref a_kept, .ref a_isKept, .ref a_text, .int i_length, .int i_next, .ref a_read, .ref a_uses, .ref a_entry, .ref a_passed, .ref a_draft, .ref a_label, .ref a_met, .ref a_bracket, .ref a_matrix])), (a_text, .inl (cyI, 160, .inl f_text))] H := by rw [hH]; exact hP
  suffices hgo : W p l e (headSpec wsX10_arcHere rmX10_arcHere).room s m (([.ref a_this] : List Value).toArray) below meth c H locs 0 0 (MQ below (kQi D cyI cyZ A [(a_this, .inr (7, [.ref a_now, .ref a_history, .int i_saved, .ref a_kept, .ref a_isKept, .ref a_text, .int i_length, .int i_next, .ref a_read, .ref a_uses, .ref a_entry, .ref a_passed, .ref a_draft, .ref a_label, .ref a_met, .ref a_bracket, .ref a_matrix])), (a_text, .inl (cyI, 160, .inl f_text))] r) (([.ref a_this] : List Value).toArray) s 0 0 A) (F0 m 0 ls []) by rw [hH] at hgo; exact hgo
  clear hH
  refine lv_iconst (v := 0) hx hb dX10_arcHere_0 (by decide) ?_
  refine lv_istore_n (lv' := [(1, .int 0), (0, .ref a_this)]) hx hb dX10_arcHere_1 rfl hl (by decide) rfl (fun ls hl => ?_)
  refine lv_aload_n hx hb dX10_arcHere_2 rfl (lv_at hl 1 rfl) ?_
  refine va_get (D := D) (ci := 7) (v := .int i_next) (C := RX10) (T := TX10) (N := 17) hx hb hts qX10_arcHere_X10 hown hK hP 0 rfl rfl 7 (Nat.le_of_ble_eq_true rfl) (hts (.fieldLink RX10 74 "KnotDiagramModel" "next" "I") qX10_arcHere_0) (fun _ h9 => h9) rfl dX10_arcHere_3 ?_
  refine lv_istore_n (lv' := [(2, .int i_next), (1, .int 0), (0, .ref a_this)]) hx hb dX10_arcHere_6 rfl hl (by decide) rfl (fun ls hl => ?_)
  have hL_1 : ∀ (n : Nat) (v1_1 : Int32) (v2_1 : Int32) (H : Heap) (locs : List Loc) (ls : Array Slot), it2 (kX10_arcHere_L1 i_length i_next f_text) n v1_1 v2_1 = some r → va_P D vwCl [(a_this, .inr (7, [.ref a_now, .ref a_history, .int i_saved, .ref a_kept, .ref a_isKept, .ref a_text, .int i_length, .int i_next, .ref a_read, .ref a_uses, .ref a_entry, .ref a_passed, .ref a_draft, .ref a_label, .ref a_met, .ref a_bracket, .ref a_matrix])), (a_text, .inl (cyI, 160, .inl f_text))] H → va_D A [(a_this, .inr (7, [.ref a_now, .ref a_history, .int i_saved, .ref a_kept, .ref a_isKept, .ref a_text, .int i_length, .int i_next, .ref a_read, .ref a_uses, .ref a_entry, .ref a_passed, .ref a_draft, .ref a_label, .ref a_met, .ref a_bracket, .ref a_matrix])), (a_text, .inl (cyI, 160, .inl f_text))] → va_S A s.heap H locs → lv_has ls 4 [(0, .ref a_this), (1, .int v1_1), (2, .int v2_1)] → W p l e (headSpec wsX10_arcHere rmX10_arcHere).room s m (([.ref a_this] : List Value).toArray) below meth c H locs 0 0 (MQ below (kQi D cyI cyZ A [(a_this, .inr (7, [.ref a_now, .ref a_history, .int i_saved, .ref a_kept, .ref a_isKept, .ref a_text, .int i_length, .int i_next, .ref a_read, .ref a_uses, .ref a_entry, .ref a_passed, .ref a_draft, .ref a_label, .ref a_met, .ref a_bracket, .ref a_matrix])), (a_text, .inl (cyI, 160, .inl f_text))] r) (([.ref a_this] : List Value).toArray) s 0 0 A) (F0 m 7 ls []) := by
    intro n_1
    induction n_1 with
    | zero =>
      intro _ _ _ _ _ hf
      exact (it2_z hf).elim
    | succ n_1 ih_1 =>
      intro v1_1 v2_1 H locs ls hf hP hD hS hl
      replace hf := it2_s hf
      rw [kX10_arcHere_L1] at hf
      refine lv_iload_n hx hb dX10_arcHere_7 rfl (lv_at hl 2 rfl) ?_
      refine lv_aload_n hx hb dX10_arcHere_8 rfl (lv_at hl 0 rfl) ?_
      refine va_get (D := D) (ci := 7) (v := .int i_length) (C := RX10) (T := TX10) (N := 17) hx hb hts qX10_arcHere_X10 hown hK hP 0 rfl rfl 6 (Nat.le_of_ble_eq_true rfl) (hts (.fieldLink RX10 69 "KnotDiagramModel" "length" "I") qX10_arcHere_1) (fun _ h9 => h9) rfl dX10_arcHere_9 ?_
      have hJ_2 : ∀  (H : Heap) (locs : List Loc) (ls : Array Slot), kX10_arcHere_J2 v2_1 i_next v1_1 f_text  = some r → va_P D vwCl [(a_this, .inr (7, [.ref a_now, .ref a_history, .int i_saved, .ref a_kept, .ref a_isKept, .ref a_text, .int i_length, .int i_next, .ref a_read, .ref a_uses, .ref a_entry, .ref a_passed, .ref a_draft, .ref a_label, .ref a_met, .ref a_bracket, .ref a_matrix])), (a_text, .inl (cyI, 160, .inl f_text))] H → va_D A [(a_this, .inr (7, [.ref a_now, .ref a_history, .int i_saved, .ref a_kept, .ref a_isKept, .ref a_text, .int i_length, .int i_next, .ref a_read, .ref a_uses, .ref a_entry, .ref a_passed, .ref a_draft, .ref a_label, .ref a_met, .ref a_bracket, .ref a_matrix])), (a_text, .inl (cyI, 160, .inl f_text))] → va_S A s.heap H locs → lv_has ls 4 [(0, .ref a_this), (1, .int v1_1), (2, .int v2_1)] → W p l e (headSpec wsX10_arcHere rmX10_arcHere).room s m (([.ref a_this] : List Value).toArray) below meth c H locs 0 0 (MQ below (kQi D cyI cyZ A [(a_this, .inr (7, [.ref a_now, .ref a_history, .int i_saved, .ref a_kept, .ref a_isKept, .ref a_text, .int i_length, .int i_next, .ref a_read, .ref a_uses, .ref a_entry, .ref a_passed, .ref a_draft, .ref a_label, .ref a_met, .ref a_bracket, .ref a_matrix])), (a_text, .inl (cyI, 160, .inl f_text))] r) (([.ref a_this] : List Value).toArray) s 0 0 A) (F0 m 62 ls []) := by
        intro  H locs ls hf hP hD hS hl
        delta kX10_arcHere_J2 at hf
        refine lv_iload_n hx hb dX10_arcHere_62 rfl (lv_at hl 2 rfl) ?_
        refine lv_aload_n hx hb dX10_arcHere_63 rfl (lv_at hl 0 rfl) ?_
        refine va_get (D := D) (ci := 7) (v := .int i_next) (C := RX10) (T := TX10) (N := 17) hx hb hts qX10_arcHere_X10 hown hK hP 0 rfl rfl 7 (Nat.le_of_ble_eq_true rfl) (hts (.fieldLink RX10 74 "KnotDiagramModel" "next" "I") qX10_arcHere_0) (fun _ h9 => h9) rfl dX10_arcHere_64 ?_
        have hJ_3 : ∀ (t0_3 : Int32) (H : Heap) (locs : List Loc) (ls : Array Slot), kX10_arcHere_J3 v1_1 t0_3 = some r → va_P D vwCl [(a_this, .inr (7, [.ref a_now, .ref a_history, .int i_saved, .ref a_kept, .ref a_isKept, .ref a_text, .int i_length, .int i_next, .ref a_read, .ref a_uses, .ref a_entry, .ref a_passed, .ref a_draft, .ref a_label, .ref a_met, .ref a_bracket, .ref a_matrix])), (a_text, .inl (cyI, 160, .inl f_text))] H → va_D A [(a_this, .inr (7, [.ref a_now, .ref a_history, .int i_saved, .ref a_kept, .ref a_isKept, .ref a_text, .int i_length, .int i_next, .ref a_read, .ref a_uses, .ref a_entry, .ref a_passed, .ref a_draft, .ref a_label, .ref a_met, .ref a_bracket, .ref a_matrix])), (a_text, .inl (cyI, 160, .inl f_text))] → va_S A s.heap H locs → lv_has ls 4 [(1, .int v1_1)] → W p l e (headSpec wsX10_arcHere rmX10_arcHere).room s m (([.ref a_this] : List Value).toArray) below meth c H locs 0 0 (MQ below (kQi D cyI cyZ A [(a_this, .inr (7, [.ref a_now, .ref a_history, .int i_saved, .ref a_kept, .ref a_isKept, .ref a_text, .int i_length, .int i_next, .ref a_read, .ref a_uses, .ref a_entry, .ref a_passed, .ref a_draft, .ref a_label, .ref a_met, .ref a_bracket, .ref a_matrix])), (a_text, .inl (cyI, 160, .inl f_text))] r) (([.ref a_this] : List Value).toArray) s 0 0 A) (F0 m 95 ls [.int t0_3]) := by
          intro t0_3 H locs ls hf hP hD hS hl
          delta kX10_arcHere_J3 at hf
          refine lv_istore_n (lv' := [(3, .int t0_3), (1, .int v1_1)]) hx hb dX10_arcHere_95 rfl hl (by decide) rfl (fun ls hl => ?_)
          refine lv_iload_n hx hb dX10_arcHere_96 rfl (lv_at hl 0 rfl) ?_
          refine lv_if_eq (tgt := 104) hx hb dX10_arcHere_97 (by decide) (fun c_1 => ?_) (fun c_1 => ?_)
          · replace hf := kt_p hf c_1
            refine lv_iconst (v := 0) hx hb dX10_arcHere_104 (by decide) ?_
            obtain rfl := some1_s hf
            exact kRi hx hb hr hlocks hP hK hD hS rfl dX10_arcHere_105
          · replace hf := kt_n hf c_1
            refine lv_iload_n hx hb dX10_arcHere_100 rfl (lv_at hl 1 rfl) ?_
            refine lv_goto (tgt := 105) hx hb dX10_arcHere_101 (by decide) ?_
            obtain rfl := some1_s hf
            exact kRi hx hb hr hlocks hP hK hD hS rfl dX10_arcHere_105
        have hJ_4 : ∀  (H : Heap) (locs : List Loc) (ls : Array Slot), kX10_arcHere_J4 v1_1  = some r → va_P D vwCl [(a_this, .inr (7, [.ref a_now, .ref a_history, .int i_saved, .ref a_kept, .ref a_isKept, .ref a_text, .int i_length, .int i_next, .ref a_read, .ref a_uses, .ref a_entry, .ref a_passed, .ref a_draft, .ref a_label, .ref a_met, .ref a_bracket, .ref a_matrix])), (a_text, .inl (cyI, 160, .inl f_text))] H → va_D A [(a_this, .inr (7, [.ref a_now, .ref a_history, .int i_saved, .ref a_kept, .ref a_isKept, .ref a_text, .int i_length, .int i_next, .ref a_read, .ref a_uses, .ref a_entry, .ref a_passed, .ref a_draft, .ref a_label, .ref a_met, .ref a_bracket, .ref a_matrix])), (a_text, .inl (cyI, 160, .inl f_text))] → va_S A s.heap H locs → lv_has ls 4 [(1, .int v1_1)] → W p l e (headSpec wsX10_arcHere rmX10_arcHere).room s m (([.ref a_this] : List Value).toArray) below meth c H locs 0 0 (MQ below (kQi D cyI cyZ A [(a_this, .inr (7, [.ref a_now, .ref a_history, .int i_saved, .ref a_kept, .ref a_isKept, .ref a_text, .int i_length, .int i_next, .ref a_read, .ref a_uses, .ref a_entry, .ref a_passed, .ref a_draft, .ref a_label, .ref a_met, .ref a_bracket, .ref a_matrix])), (a_text, .inl (cyI, 160, .inl f_text))] r) (([.ref a_this] : List Value).toArray) s 0 0 A) (F0 m 94 ls []) := by
          intro  H locs ls hf hP hD hS hl
          delta kX10_arcHere_J4 at hf
          refine lv_iconst (v := 0) hx hb dX10_arcHere_94 (by decide) ?_
          exact hJ_3 0 H locs ls hf hP hD hS (lv_sub hl [0] rfl)
        refine lv_icmp_le (tgt := 94) hx hb dX10_arcHere_67 (by decide) (fun c_5 => ?_) (fun c_5 => ?_)
        · replace hf := kt_p hf c_5
          exact hJ_4 H locs ls hf hP hD hS (lv_sub hl [1] rfl)
        · replace hf := kt_n hf c_5
          refine lv_aload_n hx hb dX10_arcHere_70 rfl (lv_at hl 0 rfl) ?_
          refine va_get (D := D) (ci := 7) (v := .ref a_text) (C := RX10) (T := TX10) (N := 17) hx hb hts qX10_arcHere_X10 hown hK hP 0 rfl rfl 5 (Nat.le_of_ble_eq_true rfl) (hts (.fieldLink RX10 23 "KnotDiagramModel" "text" "[I") qX10_arcHere_2) (fun _ h9 => h9) rfl dX10_arcHere_71 ?_
          refine lv_aload_n hx hb dX10_arcHere_74 rfl (lv_at hl 0 rfl) ?_
          refine va_get (D := D) (ci := 7) (v := .int i_next) (C := RX10) (T := TX10) (N := 17) hx hb hts qX10_arcHere_X10 hown hK hP 0 rfl rfl 7 (Nat.le_of_ble_eq_true rfl) (hts (.fieldLink RX10 74 "KnotDiagramModel" "next" "I") qX10_arcHere_0) (fun _ h9 => h9) rfl dX10_arcHere_75 ?_
          obtain ⟨hi_2, hf⟩ := ck_s hf
          refine va_iald hx hb hK hP 1 0 rfl rfl hi_2 dX10_arcHere_78 ?_
          refine lv_bipush (v := 48) hx hb dX10_arcHere_79 (by decide) ?_
          refine lv_icmp_eq (tgt := 94) hx hb dX10_arcHere_81 (by decide) (fun c_4 => ?_) (fun c_4 => ?_)
          · replace hf := kt_p hf c_4
            exact hJ_4 H locs ls hf hP hD hS (lv_sub hl [1] rfl)
          · replace hf := kt_n hf c_4
            refine lv_iload_n hx hb dX10_arcHere_84 rfl (lv_at hl 1 rfl) ?_
            refine lv_bipush (v := 16) hx hb dX10_arcHere_85 (by decide) ?_
            refine lv_icmp_gt (tgt := 94) hx hb dX10_arcHere_87 (by decide) (fun c_3 => ?_) (fun c_3 => ?_)
            · replace hf := kt_p hf c_3
              exact hJ_4 H locs ls hf hP hD hS (lv_sub hl [1] rfl)
            · replace hf := kt_n hf c_3
              refine lv_iconst (v := 1) hx hb dX10_arcHere_90 (by decide) ?_
              refine lv_goto (tgt := 95) hx hb dX10_arcHere_91 (by decide) ?_
              exact hJ_3 1 H locs ls hf hP hD hS (lv_sub hl [1] rfl)
      refine lv_icmp_ge (tgt := 62) hx hb dX10_arcHere_12 (by decide) (fun c_11 => ?_) (fun c_11 => ?_)
      · replace hf := kt_p hf c_11
        exact hJ_2 H locs ls hf hP hD hS (lv_sub hl [0, 1, 2] rfl)
      · replace hf := kt_n hf c_11
        refine lv_aload_n hx hb dX10_arcHere_15 rfl (lv_at hl 0 rfl) ?_
        refine va_get (D := D) (ci := 7) (v := .ref a_text) (C := RX10) (T := TX10) (N := 17) hx hb hts qX10_arcHere_X10 hown hK hP 0 rfl rfl 5 (Nat.le_of_ble_eq_true rfl) (hts (.fieldLink RX10 23 "KnotDiagramModel" "text" "[I") qX10_arcHere_2) (fun _ h9 => h9) rfl dX10_arcHere_16 ?_
        refine lv_iload_n hx hb dX10_arcHere_19 rfl (lv_at hl 2 rfl) ?_
        obtain ⟨hi_6, hf⟩ := ck_s hf
        refine va_iald hx hb hK hP 1 0 rfl rfl hi_6 dX10_arcHere_20 ?_
        refine lv_bipush (v := 48) hx hb dX10_arcHere_21 (by decide) ?_
        refine lv_bipush (v := 57) hx hb dX10_arcHere_23 (by decide) ?_
        obtain ⟨r_7, hc_7, hf⟩ := bnd1_s hf
        refine kcSi (As := [.int (f_text v2_1.toNatClampNeg), .int 48, .int 57]) (rest := []) (w2 := [(a_this, .inr (7, [.ref a_now, .ref a_history, .int i_saved, .ref a_kept, .ref a_isKept, .ref a_text, .int i_length, .int i_next, .ref a_read, .ref a_uses, .ref a_entry, .ref a_passed, .ref a_draft, .ref a_label, .ref a_met, .ref a_bracket, .ref a_matrix])), (a_text, .inl (cyI, 160, .inl f_text))]) S hK hP hD hS hA hN (mX10_in l D cyI cyZ H.size (f_text v2_1.toNatClampNeg) 48 57 r_7 hc_7) (va_cwS 3 hts gX10_arcHere_X10_in rfl rfl rfl (by decide +kernel) ⟨Nat.le_of_ble_eq_true rfl, Nat.le_of_ble_eq_true rfl⟩) [] [0, 1] [0, 1] rfl rfl rfl rfl (by decide) rfl rfl hl.1 (Nat.le_of_ble_eq_true rfl) dX10_arcHere_25 ⟨Nat.le_of_ble_eq_true rfl, Nat.le_of_ble_eq_true rfl⟩ (fun H locs hP hD hS => ?_)
        refine lv_if_eq (tgt := 62) hx hb dX10_arcHere_28 (by decide) (fun c_10 => ?_) (fun c_10 => ?_)
        · replace hf := kt_p hf c_10
          exact hJ_2 H locs ls hf hP hD hS (lv_sub hl [0, 1, 2] rfl)
        · replace hf := kt_n hf c_10
          refine lv_iload_n hx hb dX10_arcHere_31 rfl (lv_at hl 1 rfl) ?_
          refine lv_bipush (v := 16) hx hb dX10_arcHere_32 (by decide) ?_
          refine lv_icmp_le (tgt := 41) hx hb dX10_arcHere_34 (by decide) (fun c_9 => ?_) (fun c_9 => ?_)
          · replace hf := kt_p hf c_9
            refine lv_bipush (v := 10) hx hb dX10_arcHere_41 (by decide) ?_
            refine lv_iload_n hx hb dX10_arcHere_43 rfl (lv_at hl 1 rfl) ?_
            refine lv_imul hx hb dX10_arcHere_44 ?_
            refine lv_aload_n hx hb dX10_arcHere_45 rfl (lv_at hl 0 rfl) ?_
            refine va_get (D := D) (ci := 7) (v := .ref a_text) (C := RX10) (T := TX10) (N := 17) hx hb hts qX10_arcHere_X10 hown hK hP 0 rfl rfl 5 (Nat.le_of_ble_eq_true rfl) (hts (.fieldLink RX10 23 "KnotDiagramModel" "text" "[I") qX10_arcHere_2) (fun _ h9 => h9) rfl dX10_arcHere_46 ?_
            refine lv_iload_n hx hb dX10_arcHere_49 rfl (lv_at hl 2 rfl) ?_
            obtain ⟨hi_8, hf⟩ := ck_s hf
            refine va_iald hx hb hK hP 1 0 rfl rfl hi_8 dX10_arcHere_50 ?_
            refine lv_iadd hx hb dX10_arcHere_51 ?_
            refine lv_bipush (v := 48) hx hb dX10_arcHere_52 (by decide) ?_
            refine lv_isub hx hb dX10_arcHere_54 ?_
            refine lv_istore_n (lv' := [(1, .int (((10 * v1_1) + (f_text v2_1.toNatClampNeg)) - 48)), (0, .ref a_this), (2, .int v2_1)]) hx hb dX10_arcHere_55 rfl hl (by decide) rfl (fun ls hl => ?_)
            refine lv_iinc (v := (v2_1 + 1)) (lv' := [(2, .int (v2_1 + 1)), (1, .int (((10 * v1_1) + (f_text v2_1.toNatClampNeg)) - 48)), (0, .ref a_this)]) hx hb dX10_arcHere_56 hl (k := 2) rfl rfl (by decide) rfl (fun ls hl => ?_)
            refine lv_goto (tgt := 7) hx hb dX10_arcHere_59 (by decide) ?_
            exact ih_1 (((10 * v1_1) + (f_text v2_1.toNatClampNeg)) - 48) (v2_1 + 1) H locs ls hf hP hD hS (lv_sub hl [2, 1, 0] rfl)
          · replace hf := kt_n hf c_9
            refine lv_iload_n hx hb dX10_arcHere_37 rfl (lv_at hl 1 rfl) ?_
            refine lv_goto (tgt := 55) hx hb dX10_arcHere_38 (by decide) ?_
            refine lv_istore_n (lv' := [(1, .int v1_1), (0, .ref a_this), (2, .int v2_1)]) hx hb dX10_arcHere_55 rfl hl (by decide) rfl (fun ls hl => ?_)
            refine lv_iinc (v := (v2_1 + 1)) (lv' := [(2, .int (v2_1 + 1)), (1, .int v1_1), (0, .ref a_this)]) hx hb dX10_arcHere_56 hl (k := 2) rfl rfl (by decide) rfl (fun ls hl => ?_)
            refine lv_goto (tgt := 7) hx hb dX10_arcHere_59 (by decide) ?_
            exact ih_1 v1_1 (v2_1 + 1) H locs ls hf hP hD hS (lv_sub hl [2, 1, 0] rfl)
  exact hL_1 400 0 i_next H locs ls hf hP hD hS (lv_sub hl [2, 1, 0] rfl)
def kX10_readArc_L1 (i_length : Int32) (f_read : Nat → Int32) (v1 : Int32) (r_2 : Int32) (f_uses : Nat → Int32) (f_text : Nat → Int32) (K_1 : Int32 → Option (Int32 × Int32 × (Nat → Int32) × (Nat → Int32))) (i_next_1 : Int32) : Option (Int32 × Int32 × (Nat → Int32) × (Nat → Int32)) :=
  if i_length ≤ i_next_1 then some (1, i_next_1, (upd f_read v1.toNatClampNeg r_2), (upd f_uses r_2.toNatClampNeg ((f_uses r_2.toNatClampNeg) + 1))) else ck i_next_1 160 (bnd1 (kX10_in (f_text i_next_1.toNatClampNeg) 48 57) (fun r_8 => if r_8 = 0 then some (1, i_next_1, (upd f_read v1.toNatClampNeg r_2), (upd f_uses r_2.toNatClampNeg ((f_uses r_2.toNatClampNeg) + 1))) else K_1 (i_next_1 + 1)))
def kX10_readArc (v1 : Int32) (i_length : Int32) (i_next : Int32) (f_text : Nat → Int32) (f_read : Nat → Int32) (f_uses : Nat → Int32) : Option (Int32 × Int32 × (Nat → Int32) × (Nat → Int32)) :=
  bnd1 (kX10_skipSpaces i_length i_next f_text) (fun o_next_1 => bnd1 (kX10_arcHere i_length o_next_1 f_text) (fun r_2 => if r_2 = 0 then some (0, o_next_1, f_read, f_uses) else ck r_2 17 (if (f_uses r_2.toNatClampNeg) = 2 then some (0, o_next_1, f_read, f_uses) else ck r_2 17 (ck r_2 17 (ck v1 34 (it1 (kX10_readArc_L1 i_length f_read v1 r_2 f_uses f_text) 400 o_next_1))))))
def rmX10_readArc : Room := { frames := 2, cells := 0, slots := 0, locals := 45 }
theorem qX10_readArc_0 : (.fieldLink RX10 29 "KnotDiagramModel" "uses" "[I" : Cond) ∈ wsX10_readArc := by decide +kernel
theorem qX10_readArc_1 : (.fieldLink RX10 26 "KnotDiagramModel" "read" "[I" : Cond) ∈ wsX10_readArc := by decide +kernel
theorem qX10_readArc_2 : (.fieldLink RX10 74 "KnotDiagramModel" "next" "I" : Cond) ∈ wsX10_readArc := by decide +kernel
theorem qX10_readArc_3 : (.fieldLink RX10 69 "KnotDiagramModel" "length" "I" : Cond) ∈ wsX10_readArc := by decide +kernel
theorem qX10_readArc_4 : (.fieldLink RX10 23 "KnotDiagramModel" "text" "[I" : Cond) ∈ wsX10_readArc := by decide +kernel
theorem qX10_readArc_X10 : ∀ w ∈ wsX100, w ∈ wsX10_readArc := by decide +kernel
set_option maxHeartbeats 4000000 in
set_option maxRecDepth 100000 in
theorem mX10_readArc (l : Launch) (D : va_G) (cyI cyZ : ClassId) (sz : Nat) (a_this a_now a_history a_kept a_isKept a_text a_read a_uses a_entry a_passed a_draft a_label a_met a_bracket a_matrix : Nat) (v1 : Int32) (i_saved : Int32) (i_length : Int32) (i_next : Int32) (f_text : Nat → Int32) (f_read : Nat → Int32) (f_uses : Nat → Int32) (r : Int32) (o_next : Int32) (o_read : Nat → Int32) (o_uses : Nat → Int32) (hf : kX10_readArc v1 i_length i_next f_text f_read f_uses = some (r, o_next, o_read, o_uses)) : Met l yX10_readArc wsX10_readArc rmX10_readArc (kPre D cyI cyZ [.ref a_this, .int v1] [(a_this, .inr (7, [.ref a_now, .ref a_history, .int i_saved, .ref a_kept, .ref a_isKept, .ref a_text, .int i_length, .int i_next, .ref a_read, .ref a_uses, .ref a_entry, .ref a_passed, .ref a_draft, .ref a_label, .ref a_met, .ref a_bracket, .ref a_matrix])), (a_text, .inl (cyI, 160, .inl f_text)), (a_read, .inl (cyI, 34, .inl f_read)), (a_uses, .inl (cyI, 17, .inl f_uses))] sz) (kQi D cyI cyZ (va_A [(a_this, .inr (7, [.ref a_now, .ref a_history, .int i_saved, .ref a_kept, .ref a_isKept, .ref a_text, .int i_length, .int i_next, .ref a_read, .ref a_uses, .ref a_entry, .ref a_passed, .ref a_draft, .ref a_label, .ref a_met, .ref a_bracket, .ref a_matrix])), (a_text, .inl (cyI, 160, .inl f_text)), (a_read, .inl (cyI, 34, .inl f_read)), (a_uses, .inl (cyI, 17, .inl f_uses))] sz) [(a_this, .inr (7, [.ref a_now, .ref a_history, .int i_saved, .ref a_kept, .ref a_isKept, .ref a_text, .int i_length, .int o_next, .ref a_read, .ref a_uses, .ref a_entry, .ref a_passed, .ref a_draft, .ref a_label, .ref a_met, .ref a_bracket, .ref a_matrix])), (a_text, .inl (cyI, 160, .inl f_text)), (a_read, .inl (cyI, 34, .inl o_read)), (a_uses, .inl (cyI, 17, .inl o_uses))] r) 0 0 (va_A [(a_this, .inr (7, [.ref a_now, .ref a_history, .int i_saved, .ref a_kept, .ref a_isKept, .ref a_text, .int i_length, .int i_next, .ref a_read, .ref a_uses, .ref a_entry, .ref a_passed, .ref a_draft, .ref a_label, .ref a_met, .ref a_bracket, .ref a_matrix])), (a_text, .inl (cyI, 160, .inl f_text)), (a_read, .inl (cyI, 34, .inl f_read)), (a_uses, .inl (cyI, 17, .inl f_uses))] sz) := by
  refine Met.ofW (cc := cX10_readArc) (maxL := 3) (ret := (some .boolean)) (by decide) rfl ?_
  intro p e s m args below meth c s₁ B hml hv
  obtain ⟨rfl, hsz, hP, hK, hD0, hN⟩ := hv
  have hx := B.exec
  have hb := B.bytes
  have hr := B.returns
  have hts := atoms_spec (ws := wsX10_readArc) B.pre
  have hown : s.vm.findClass RX10 = some m.cls := findClass_of_methodNamed B.named
  have hlocks := B.notSynchronized
  subst hsz
  have hD := hD0.self (sz := s.heap.size)
  generalize hAe : va_A [(a_this, .inr (7, [.ref a_now, .ref a_history, .int i_saved, .ref a_kept, .ref a_isKept, .ref a_text, .int i_length, .int i_next, .ref a_read, .ref a_uses, .ref a_entry, .ref a_passed, .ref a_draft, .ref a_label, .ref a_met, .ref a_bracket, .ref a_matrix])), (a_text, .inl (cyI, 160, .inl f_text)), (a_read, .inl (cyI, 34, .inl f_read)), (a_uses, .inl (cyI, 17, .inl f_uses))] s.heap.size = A at hD ⊢
  have hA : ∀ q : Nat, s.heap.size ≤ q → A q := fun q h => by rw [← hAe]; exact Or.inr h
  clear hAe hD0
  have hS : va_S A s.heap s.heap [] := va_S.rf
  have S : CallFix p m c cX10_readArc 3 s (([.ref a_this, .int v1] : List Value).toArray) wsX10_readArc RX10 := ⟨hx, hb, hml, hown, hts⟩
  have hl := lv_entry ([.ref a_this, .int v1]) (n := 3) (Nat.le_of_ble_eq_true rfl)
  rw [lg_entry_eq]
  generalize (lg_sl ([.ref a_this, .int v1]) ++ List.replicate (3 - (lg_sl ([.ref a_this, .int v1])).length) Slot.unset).toArray = ls at hl ⊢
  replace hl : lv_has ls 3 [(0, .ref a_this), (1, .int v1)] := hl
  generalize ([] : List Loc) = locs at hS ⊢
  delta kX10_readArc at hf
  obtain ⟨H, hH⟩ : ∃ H, H = s.heap := ⟨_, rfl⟩
  have hS : va_S A s.heap H locs := by rw [hH]; exact hS
  have hP : va_P D vwCl [(a_this, .inr (7, [.ref a_now, .ref a_history, .int i_saved, .ref a_kept, .ref a_isKept, .ref a_text, .int i_length, .int i_next, .ref a_read, .ref a_uses, .ref a_entry, .ref a_passed, .ref a_draft, .ref a_label, .ref a_met, .ref a_bracket, .ref a_matrix])), (a_text, .inl (cyI, 160, .inl f_text)), (a_read, .inl (cyI, 34, .inl f_read)), (a_uses, .inl (cyI, 17, .inl f_uses))] H := by rw [hH]; exact hP
  suffices hgo : W p l e (headSpec wsX10_readArc rmX10_readArc).room s m (([.ref a_this, .int v1] : List Value).toArray) below meth c H locs 0 0 (MQ below (kQi D cyI cyZ A [(a_this, .inr (7, [.ref a_now, .ref a_history, .int i_saved, .ref a_kept, .ref a_isKept, .ref a_text, .int i_length, .int o_next, .ref a_read, .ref a_uses, .ref a_entry, .ref a_passed, .ref a_draft, .ref a_label, .ref a_met, .ref a_bracket, .ref a_matrix])), (a_text, .inl (cyI, 160, .inl f_text)), (a_read, .inl (cyI, 34, .inl o_read)), (a_uses, .inl (cyI, 17, .inl o_uses))] r) (([.ref a_this, .int v1] : List Value).toArray) s 0 0 A) (F0 m 0 ls []) by rw [hH] at hgo; exact hgo
  clear hH
  refine lv_aload_n hx hb dX10_readArc_0 rfl (lv_at hl 0 rfl) ?_
  obtain ⟨o_next_1, hc_1, hf⟩ := bnd1_s hf
  refine kcVv (As := []) (rest := []) (w2 := [(a_this, .inr (7, [.ref a_now, .ref a_history, .int i_saved, .ref a_kept, .ref a_isKept, .ref a_text, .int i_length, .int o_next_1, .ref a_read, .ref a_uses, .ref a_entry, .ref a_passed, .ref a_draft, .ref a_label, .ref a_met, .ref a_bracket, .ref a_matrix])), (a_text, .inl (cyI, 160, .inl f_text)), (a_read, .inl (cyI, 34, .inl f_read)), (a_uses, .inl (cyI, 17, .inl f_uses))]) S hK hP hD hS hA hN (mX10_skipSpaces l D cyI cyZ H.size a_this a_now a_history a_kept a_isKept a_text a_read a_uses a_entry a_passed a_draft a_label a_met a_bracket a_matrix i_saved i_length i_next f_text o_next_1 hc_1) (cwV 0 hts gX10_readArc_X10_skipSpaces rfl rfl rfl (by decide +kernel) ⟨Nat.le_of_ble_eq_true rfl, Nat.le_of_ble_eq_true rfl⟩) 7 0 rfl rfl [0, 1] [2, 3] [2, 3, 0, 1] rfl rfl rfl rfl (by decide) rfl rfl hl.1 (Nat.le_of_ble_eq_true rfl) dX10_readArc_1 ⟨Nat.le_of_ble_eq_true rfl, Nat.le_of_ble_eq_true rfl⟩ (fun H locs hP hD hS => ?_)
  refine lv_aload_n hx hb dX10_readArc_4 rfl (lv_at hl 0 rfl) ?_
  obtain ⟨r_2, hc_2, hf⟩ := bnd1_s hf
  refine kcVi (As := []) (rest := []) (w2 := [(a_this, .inr (7, [.ref a_now, .ref a_history, .int i_saved, .ref a_kept, .ref a_isKept, .ref a_text, .int i_length, .int o_next_1, .ref a_read, .ref a_uses, .ref a_entry, .ref a_passed, .ref a_draft, .ref a_label, .ref a_met, .ref a_bracket, .ref a_matrix])), (a_text, .inl (cyI, 160, .inl f_text)), (a_read, .inl (cyI, 34, .inl f_read)), (a_uses, .inl (cyI, 17, .inl f_uses))]) S hK hP hD hS hA hN (mX10_arcHere l D cyI cyZ H.size a_this a_now a_history a_kept a_isKept a_text a_read a_uses a_entry a_passed a_draft a_label a_met a_bracket a_matrix i_saved i_length o_next_1 f_text r_2 hc_2) (cwV 0 hts gX10_readArc_X10_arcHere rfl rfl rfl (by decide +kernel) ⟨Nat.le_of_ble_eq_true rfl, Nat.le_of_ble_eq_true rfl⟩) 7 0 rfl rfl [0, 1] [2, 3] [2, 3, 0, 1] rfl rfl rfl rfl (by decide) rfl rfl hl.1 (Nat.le_of_ble_eq_true rfl) dX10_readArc_5 ⟨Nat.le_of_ble_eq_true rfl, Nat.le_of_ble_eq_true rfl⟩ (fun H locs hP hD hS => ?_)
  refine lv_istore_n (lv' := [(2, .int r_2), (0, .ref a_this), (1, .int v1)]) hx hb dX10_readArc_8 rfl hl (by decide) rfl (fun ls hl => ?_)
  refine lv_iload_n hx hb dX10_readArc_9 rfl (lv_at hl 0 rfl) ?_
  refine lv_if_eq (tgt := 23) hx hb dX10_readArc_10 (by decide) (fun c_12 => ?_) (fun c_12 => ?_)
  · replace hf := kt_p hf c_12
    refine lv_iconst (v := 0) hx hb dX10_readArc_23 (by decide) ?_
    obtain ⟨rfl, rfl, rfl, rfl⟩ := some4_s hf
    exact kRz hx hb hr hlocks hP hK hD hS zn0 rfl dX10_readArc_24
  · replace hf := kt_n hf c_12
    refine lv_aload_n hx hb dX10_readArc_13 rfl (lv_at hl 1 rfl) ?_
    refine va_get (D := D) (ci := 7) (v := .ref a_uses) (C := RX10) (T := TX10) (N := 17) hx hb hts qX10_readArc_X10 hown hK hP 0 rfl rfl 9 (Nat.le_of_ble_eq_true rfl) (hts (.fieldLink RX10 29 "KnotDiagramModel" "uses" "[I") qX10_readArc_0) (fun _ h9 => h9) rfl dX10_readArc_14 ?_
    refine lv_iload_n hx hb dX10_readArc_17 rfl (lv_at hl 0 rfl) ?_
    obtain ⟨hi_3, hf⟩ := ck_s hf
    refine va_iald hx hb hK hP 3 0 rfl rfl hi_3 dX10_readArc_18 ?_
    refine lv_iconst (v := 2) hx hb dX10_readArc_19 (by decide) ?_
    refine lv_icmp_ne (tgt := 25) hx hb dX10_readArc_20 (by decide) (fun c_11 => ?_) (fun c_11 => ?_)
    · replace hf := kt_n hf c_11
      refine lv_aload_n hx hb dX10_readArc_25 rfl (lv_at hl 1 rfl) ?_
      refine va_get (D := D) (ci := 7) (v := .ref a_uses) (C := RX10) (T := TX10) (N := 17) hx hb hts qX10_readArc_X10 hown hK hP 0 rfl rfl 9 (Nat.le_of_ble_eq_true rfl) (hts (.fieldLink RX10 29 "KnotDiagramModel" "uses" "[I") qX10_readArc_0) (fun _ h9 => h9) rfl dX10_readArc_26 ?_
      refine lv_iload_n hx hb dX10_readArc_29 rfl (lv_at hl 0 rfl) ?_
      refine lv_dup2_11 hx hb dX10_readArc_30 rfl rfl ?_
      obtain ⟨hi_4, hf⟩ := ck_s hf
      refine va_iald hx hb hK hP 3 0 rfl rfl hi_4 dX10_readArc_31 ?_
      refine lv_iconst (v := 1) hx hb dX10_readArc_32 (by decide) ?_
      refine lv_iadd hx hb dX10_readArc_33 ?_
      obtain ⟨hi_5, hf⟩ := ck_s hf
      refine va_iast hx hb hK hP hD hS 3 0 rfl rfl hi_5 dX10_readArc_34 (fun H locs hP hD hS => ?_)
      replace hP : va_P D vwCl [(a_this, .inr (7, [.ref a_now, .ref a_history, .int i_saved, .ref a_kept, .ref a_isKept, .ref a_text, .int i_length, .int o_next_1, .ref a_read, .ref a_uses, .ref a_entry, .ref a_passed, .ref a_draft, .ref a_label, .ref a_met, .ref a_bracket, .ref a_matrix])), (a_text, .inl (cyI, 160, .inl f_text)), (a_read, .inl (cyI, 34, .inl f_read)), (a_uses, .inl (cyI, 17, .inl (upd f_uses r_2.toNatClampNeg ((f_uses r_2.toNatClampNeg) + 1))))] H := hP
      replace hD : va_D A [(a_this, .inr (7, [.ref a_now, .ref a_history, .int i_saved, .ref a_kept, .ref a_isKept, .ref a_text, .int i_length, .int o_next_1, .ref a_read, .ref a_uses, .ref a_entry, .ref a_passed, .ref a_draft, .ref a_label, .ref a_met, .ref a_bracket, .ref a_matrix])), (a_text, .inl (cyI, 160, .inl f_text)), (a_read, .inl (cyI, 34, .inl f_read)), (a_uses, .inl (cyI, 17, .inl (upd f_uses r_2.toNatClampNeg ((f_uses r_2.toNatClampNeg) + 1))))] := hD
      refine lv_aload_n hx hb dX10_readArc_35 rfl (lv_at hl 1 rfl) ?_
      refine va_get (D := D) (ci := 7) (v := .ref a_read) (C := RX10) (T := TX10) (N := 17) hx hb hts qX10_readArc_X10 hown hK hP 0 rfl rfl 8 (Nat.le_of_ble_eq_true rfl) (hts (.fieldLink RX10 26 "KnotDiagramModel" "read" "[I") qX10_readArc_1) (fun _ h9 => h9) rfl dX10_readArc_36 ?_
      refine lv_iload_n hx hb dX10_readArc_39 rfl (lv_at hl 2 rfl) ?_
      refine lv_iload_n hx hb dX10_readArc_40 rfl (lv_at hl 0 rfl) ?_
      obtain ⟨hi_6, hf⟩ := ck_s hf
      refine va_iast hx hb hK hP hD hS 2 0 rfl rfl hi_6 dX10_readArc_41 (fun H locs hP hD hS => ?_)
      replace hP : va_P D vwCl [(a_this, .inr (7, [.ref a_now, .ref a_history, .int i_saved, .ref a_kept, .ref a_isKept, .ref a_text, .int i_length, .int o_next_1, .ref a_read, .ref a_uses, .ref a_entry, .ref a_passed, .ref a_draft, .ref a_label, .ref a_met, .ref a_bracket, .ref a_matrix])), (a_text, .inl (cyI, 160, .inl f_text)), (a_read, .inl (cyI, 34, .inl (upd f_read v1.toNatClampNeg r_2))), (a_uses, .inl (cyI, 17, .inl (upd f_uses r_2.toNatClampNeg ((f_uses r_2.toNatClampNeg) + 1))))] H := hP
      replace hD : va_D A [(a_this, .inr (7, [.ref a_now, .ref a_history, .int i_saved, .ref a_kept, .ref a_isKept, .ref a_text, .int i_length, .int o_next_1, .ref a_read, .ref a_uses, .ref a_entry, .ref a_passed, .ref a_draft, .ref a_label, .ref a_met, .ref a_bracket, .ref a_matrix])), (a_text, .inl (cyI, 160, .inl f_text)), (a_read, .inl (cyI, 34, .inl (upd f_read v1.toNatClampNeg r_2))), (a_uses, .inl (cyI, 17, .inl (upd f_uses r_2.toNatClampNeg ((f_uses r_2.toNatClampNeg) + 1))))] := hD
      have hL_1 : ∀ (n : Nat) (i_next_1 : Int32) (H : Heap) (locs : List Loc) (ls : Array Slot), it1 (kX10_readArc_L1 i_length f_read v1 r_2 f_uses f_text) n i_next_1 = some (r, o_next, o_read, o_uses) → va_P D vwCl [(a_this, .inr (7, [.ref a_now, .ref a_history, .int i_saved, .ref a_kept, .ref a_isKept, .ref a_text, .int i_length, .int i_next_1, .ref a_read, .ref a_uses, .ref a_entry, .ref a_passed, .ref a_draft, .ref a_label, .ref a_met, .ref a_bracket, .ref a_matrix])), (a_text, .inl (cyI, 160, .inl f_text)), (a_read, .inl (cyI, 34, .inl (upd f_read v1.toNatClampNeg r_2))), (a_uses, .inl (cyI, 17, .inl (upd f_uses r_2.toNatClampNeg ((f_uses r_2.toNatClampNeg) + 1))))] H → va_D A [(a_this, .inr (7, [.ref a_now, .ref a_history, .int i_saved, .ref a_kept, .ref a_isKept, .ref a_text, .int i_length, .int i_next_1, .ref a_read, .ref a_uses, .ref a_entry, .ref a_passed, .ref a_draft, .ref a_label, .ref a_met, .ref a_bracket, .ref a_matrix])), (a_text, .inl (cyI, 160, .inl f_text)), (a_read, .inl (cyI, 34, .inl (upd f_read v1.toNatClampNeg r_2))), (a_uses, .inl (cyI, 17, .inl (upd f_uses r_2.toNatClampNeg ((f_uses r_2.toNatClampNeg) + 1))))] → va_S A s.heap H locs → lv_has ls 3 [(0, .ref a_this)] → W p l e (headSpec wsX10_readArc rmX10_readArc).room s m (([.ref a_this, .int v1] : List Value).toArray) below meth c H locs 0 0 (MQ below (kQi D cyI cyZ A [(a_this, .inr (7, [.ref a_now, .ref a_history, .int i_saved, .ref a_kept, .ref a_isKept, .ref a_text, .int i_length, .int o_next, .ref a_read, .ref a_uses, .ref a_entry, .ref a_passed, .ref a_draft, .ref a_label, .ref a_met, .ref a_bracket, .ref a_matrix])), (a_text, .inl (cyI, 160, .inl f_text)), (a_read, .inl (cyI, 34, .inl o_read)), (a_uses, .inl (cyI, 17, .inl o_uses))] r) (([.ref a_this, .int v1] : List Value).toArray) s 0 0 A) (F0 m 42 ls []) := by
        intro n_1
        induction n_1 with
        | zero =>
          intro _ _ _ _ hf
          exact (it1_z hf).elim
        | succ n_1 ih_1 =>
          intro i_next_1 H locs ls hf hP hD hS hl
          replace hf := it1_s hf
          rw [kX10_readArc_L1] at hf
          refine lv_aload_n hx hb dX10_readArc_42 rfl (lv_at hl 0 rfl) ?_
          refine va_get (D := D) (ci := 7) (v := .int i_next_1) (C := RX10) (T := TX10) (N := 17) hx hb hts qX10_readArc_X10 hown hK hP 0 rfl rfl 7 (Nat.le_of_ble_eq_true rfl) (hts (.fieldLink RX10 74 "KnotDiagramModel" "next" "I") qX10_readArc_2) (fun _ h9 => h9) rfl dX10_readArc_43 ?_
          refine lv_aload_n hx hb dX10_readArc_46 rfl (lv_at hl 0 rfl) ?_
          refine va_get (D := D) (ci := 7) (v := .int i_length) (C := RX10) (T := TX10) (N := 17) hx hb hts qX10_readArc_X10 hown hK hP 0 rfl rfl 6 (Nat.le_of_ble_eq_true rfl) (hts (.fieldLink RX10 69 "KnotDiagramModel" "length" "I") qX10_readArc_3) (fun _ h9 => h9) rfl dX10_readArc_47 ?_
          refine lv_icmp_ge (tgt := 85) hx hb dX10_readArc_50 (by decide) (fun c_10 => ?_) (fun c_10 => ?_)
          · replace hf := kt_p hf c_10
            refine lv_iconst (v := 1) hx hb dX10_readArc_85 (by decide) ?_
            obtain ⟨rfl, rfl, rfl, rfl⟩ := some4_s hf
            exact kRz hx hb hr hlocks hP hK hD hS zn1 rfl dX10_readArc_86
          · replace hf := kt_n hf c_10
            refine lv_aload_n hx hb dX10_readArc_53 rfl (lv_at hl 0 rfl) ?_
            refine va_get (D := D) (ci := 7) (v := .ref a_text) (C := RX10) (T := TX10) (N := 17) hx hb hts qX10_readArc_X10 hown hK hP 0 rfl rfl 5 (Nat.le_of_ble_eq_true rfl) (hts (.fieldLink RX10 23 "KnotDiagramModel" "text" "[I") qX10_readArc_4) (fun _ h9 => h9) rfl dX10_readArc_54 ?_
            refine lv_aload_n hx hb dX10_readArc_57 rfl (lv_at hl 0 rfl) ?_
            refine va_get (D := D) (ci := 7) (v := .int i_next_1) (C := RX10) (T := TX10) (N := 17) hx hb hts qX10_readArc_X10 hown hK hP 0 rfl rfl 7 (Nat.le_of_ble_eq_true rfl) (hts (.fieldLink RX10 74 "KnotDiagramModel" "next" "I") qX10_readArc_2) (fun _ h9 => h9) rfl dX10_readArc_58 ?_
            obtain ⟨hi_7, hf⟩ := ck_s hf
            refine va_iald hx hb hK hP 1 0 rfl rfl hi_7 dX10_readArc_61 ?_
            refine lv_bipush (v := 48) hx hb dX10_readArc_62 (by decide) ?_
            refine lv_bipush (v := 57) hx hb dX10_readArc_64 (by decide) ?_
            obtain ⟨r_8, hc_8, hf⟩ := bnd1_s hf
            refine kcSi (As := [.int (f_text i_next_1.toNatClampNeg), .int 48, .int 57]) (rest := []) (w2 := [(a_this, .inr (7, [.ref a_now, .ref a_history, .int i_saved, .ref a_kept, .ref a_isKept, .ref a_text, .int i_length, .int i_next_1, .ref a_read, .ref a_uses, .ref a_entry, .ref a_passed, .ref a_draft, .ref a_label, .ref a_met, .ref a_bracket, .ref a_matrix])), (a_text, .inl (cyI, 160, .inl f_text)), (a_read, .inl (cyI, 34, .inl (upd f_read v1.toNatClampNeg r_2))), (a_uses, .inl (cyI, 17, .inl (upd f_uses r_2.toNatClampNeg ((f_uses r_2.toNatClampNeg) + 1))))]) S hK hP hD hS hA hN (mX10_in l D cyI cyZ H.size (f_text i_next_1.toNatClampNeg) 48 57 r_8 hc_8) (va_cwS 3 hts gX10_readArc_X10_in rfl rfl rfl (by decide +kernel) ⟨Nat.le_of_ble_eq_true rfl, Nat.le_of_ble_eq_true rfl⟩) [] [0, 1, 2, 3] [0, 1, 2, 3] rfl rfl rfl rfl (by decide) rfl rfl hl.1 (Nat.le_of_ble_eq_true rfl) dX10_readArc_66 ⟨Nat.le_of_ble_eq_true rfl, Nat.le_of_ble_eq_true rfl⟩ (fun H locs hP hD hS => ?_)
            refine lv_if_eq (tgt := 85) hx hb dX10_readArc_69 (by decide) (fun c_9 => ?_) (fun c_9 => ?_)
            · replace hf := kt_p hf c_9
              refine lv_iconst (v := 1) hx hb dX10_readArc_85 (by decide) ?_
              obtain ⟨rfl, rfl, rfl, rfl⟩ := some4_s hf
              exact kRz hx hb hr hlocks hP hK hD hS zn1 rfl dX10_readArc_86
            · replace hf := kt_n hf c_9
              refine lv_aload_n hx hb dX10_readArc_72 rfl (lv_at hl 0 rfl) ?_
              refine lv_dup hx hb dX10_readArc_73 rfl ?_
              refine va_get (D := D) (ci := 7) (v := .int i_next_1) (C := RX10) (T := TX10) (N := 17) hx hb hts qX10_readArc_X10 hown hK hP 0 rfl rfl 7 (Nat.le_of_ble_eq_true rfl) (hts (.fieldLink RX10 74 "KnotDiagramModel" "next" "I") qX10_readArc_2) (fun _ h9 => h9) rfl dX10_readArc_74 ?_
              refine lv_iconst (v := 1) hx hb dX10_readArc_77 (by decide) ?_
              refine lv_iadd hx hb dX10_readArc_78 ?_
              refine va_put (D := D) (ci := 7) (v := .int (i_next_1 + 1)) (ty := .int) (C := RX10) (T := TX10) (N := 17) hx hb hts qX10_readArc_X10 tyX10 tyX10_ok nmX10 hown hK hP hD hS 0 rfl rfl 7 (Nat.le_of_ble_eq_true rfl) (hts (.fieldLink RX10 74 "KnotDiagramModel" "next" "I") qX10_readArc_2) (fun _ h9 => h9) rfl (by decide +kernel) rfl rfl (Nat.le_of_ble_eq_true rfl) dX10_readArc_79 (fun H locs hP hD hS => ?_)
              replace hP : va_P D vwCl [(a_this, .inr (7, [.ref a_now, .ref a_history, .int i_saved, .ref a_kept, .ref a_isKept, .ref a_text, .int i_length, .int (i_next_1 + 1), .ref a_read, .ref a_uses, .ref a_entry, .ref a_passed, .ref a_draft, .ref a_label, .ref a_met, .ref a_bracket, .ref a_matrix])), (a_text, .inl (cyI, 160, .inl f_text)), (a_read, .inl (cyI, 34, .inl (upd f_read v1.toNatClampNeg r_2))), (a_uses, .inl (cyI, 17, .inl (upd f_uses r_2.toNatClampNeg ((f_uses r_2.toNatClampNeg) + 1))))] H := hP
              replace hD : va_D A [(a_this, .inr (7, [.ref a_now, .ref a_history, .int i_saved, .ref a_kept, .ref a_isKept, .ref a_text, .int i_length, .int (i_next_1 + 1), .ref a_read, .ref a_uses, .ref a_entry, .ref a_passed, .ref a_draft, .ref a_label, .ref a_met, .ref a_bracket, .ref a_matrix])), (a_text, .inl (cyI, 160, .inl f_text)), (a_read, .inl (cyI, 34, .inl (upd f_read v1.toNatClampNeg r_2))), (a_uses, .inl (cyI, 17, .inl (upd f_uses r_2.toNatClampNeg ((f_uses r_2.toNatClampNeg) + 1))))] := hD
              refine lv_goto (tgt := 42) hx hb dX10_readArc_82 (by decide) ?_
              exact ih_1 (i_next_1 + 1) H locs ls hf hP hD hS (lv_sub hl [0] rfl)
      exact hL_1 400 o_next_1 H locs ls hf hP hD hS (lv_sub hl [1] rfl)
    · replace hf := kt_p hf c_11
      refine lv_iconst (v := 0) hx hb dX10_readArc_23 (by decide) ?_
      obtain ⟨rfl, rfl, rfl, rfl⟩ := some4_s hf
      exact kRz hx hb hr hlocks hP hK hD hS zn0 rfl dX10_readArc_24
def kX10_readStatement_J1 (i_length : Int32) (f_text : Nat → Int32) (i_next_1 : Int32) (f_read_1 : Nat → Int32) (f_uses_1 : Nat → Int32) : Option (Int32 × Int32 × (Nat → Int32) × (Nat → Int32)) :=
  bnd1 (kX10_skipSpaces i_length i_next_1 f_text) (fun o_next_2 => bnd1 (kX10_isAt 59 i_length o_next_2 f_text) (fun r_3 => if r_3 = 0 then some (0, o_next_2, f_read_1, f_uses_1) else some (1, (o_next_2 + 1), f_read_1, f_uses_1)))
def kX10_readStatement_J2 (i_length : Int32) (i_next : Int32) (f_text : Nat → Int32) (f_read : Nat → Int32) (f_uses : Nat → Int32)  : Option (Int32 × Int32 × (Nat → Int32) × (Nat → Int32)) :=
  bnd1 (kX10_isAt 111 i_length i_next f_text) (fun r_5 => if r_5 = 0 then some (0, i_next, f_read, f_uses) else ck 1 34 (if 4 ≤ (f_read (1 : Int32).toNatClampNeg) then some (0, i_next, f_read, f_uses) else ck 1 34 (ck 1 34 (kX10_readStatement_J1 i_length f_text (i_next + 1) (upd f_read (1 : Int32).toNatClampNeg ((f_read (1 : Int32).toNatClampNeg) + 1)) f_uses))))
def kX10_readStatement_L3 (i_length : Int32) (f_text : Nat → Int32) (K_3 : Int32 → Int32 → (Nat → Int32) → (Nat → Int32) → Option (Int32 × Int32 × (Nat → Int32) × (Nat → Int32))) (v1_3 : Int32) (i_next_3 : Int32) (f_read_3 : Nat → Int32) (f_uses_3 : Nat → Int32) : Option (Int32 × Int32 × (Nat → Int32) × (Nat → Int32)) :=
  if 4 ≤ v1_3 then ck 0 34 (ck 0 34 (kX10_readStatement_J1 i_length f_text i_next_3 (upd f_read_3 (0 : Int32).toNatClampNeg ((f_read_3 (0 : Int32).toNatClampNeg) + 1)) f_uses_3)) else ck 0 34 (bnd4 (kX10_readArc ((2 + (4 * (f_read_3 (0 : Int32).toNatClampNeg))) + v1_3) i_length i_next_3 f_text f_read_3 f_uses_3) (fun r_15 o_next_15 o_read_15 o_uses_15 => if r_15 = 0 then some (0, o_next_15, o_read_15, o_uses_15) else K_3 (v1_3 + 1) o_next_15 o_read_15 o_uses_15))
def kX10_readStatement (i_length : Int32) (i_next : Int32) (f_text : Nat → Int32) (f_read : Nat → Int32) (f_uses : Nat → Int32) : Option (Int32 × Int32 × (Nat → Int32) × (Nat → Int32)) :=
  bnd1 (kX10_isAt 120 i_length i_next f_text) (fun r_1 => if r_1 = 0 then kX10_readStatement_J2 i_length i_next f_text f_read f_uses else ck 0 34 (if 8 ≤ (f_read (0 : Int32).toNatClampNeg) then kX10_readStatement_J2 i_length i_next f_text f_read f_uses else it4 (kX10_readStatement_L3 i_length f_text) 400 0 (i_next + 1) f_read f_uses))
def rmX10_readStatement : Room := { frames := 3, cells := 0, slots := 0, locals := 67 }
theorem qX10_readStatement_0 : (.fieldLink RX10 74 "KnotDiagramModel" "next" "I" : Cond) ∈ wsX10_readStatement := by decide +kernel
theorem qX10_readStatement_1 : (.fieldLink RX10 26 "KnotDiagramModel" "read" "[I" : Cond) ∈ wsX10_readStatement := by decide +kernel
theorem qX10_readStatement_X10 : ∀ w ∈ wsX100, w ∈ wsX10_readStatement := by decide +kernel
set_option maxHeartbeats 4000000 in
set_option maxRecDepth 100000 in
theorem mX10_readStatement (l : Launch) (D : va_G) (cyI cyZ : ClassId) (sz : Nat) (a_this a_now a_history a_kept a_isKept a_text a_read a_uses a_entry a_passed a_draft a_label a_met a_bracket a_matrix : Nat) (i_saved : Int32) (i_length : Int32) (i_next : Int32) (f_text : Nat → Int32) (f_read : Nat → Int32) (f_uses : Nat → Int32) (r : Int32) (o_next : Int32) (o_read : Nat → Int32) (o_uses : Nat → Int32) (hf : kX10_readStatement i_length i_next f_text f_read f_uses = some (r, o_next, o_read, o_uses)) : Met l yX10_readStatement wsX10_readStatement rmX10_readStatement (kPre D cyI cyZ [.ref a_this] [(a_this, .inr (7, [.ref a_now, .ref a_history, .int i_saved, .ref a_kept, .ref a_isKept, .ref a_text, .int i_length, .int i_next, .ref a_read, .ref a_uses, .ref a_entry, .ref a_passed, .ref a_draft, .ref a_label, .ref a_met, .ref a_bracket, .ref a_matrix])), (a_text, .inl (cyI, 160, .inl f_text)), (a_read, .inl (cyI, 34, .inl f_read)), (a_uses, .inl (cyI, 17, .inl f_uses))] sz) (kQi D cyI cyZ (va_A [(a_this, .inr (7, [.ref a_now, .ref a_history, .int i_saved, .ref a_kept, .ref a_isKept, .ref a_text, .int i_length, .int i_next, .ref a_read, .ref a_uses, .ref a_entry, .ref a_passed, .ref a_draft, .ref a_label, .ref a_met, .ref a_bracket, .ref a_matrix])), (a_text, .inl (cyI, 160, .inl f_text)), (a_read, .inl (cyI, 34, .inl f_read)), (a_uses, .inl (cyI, 17, .inl f_uses))] sz) [(a_this, .inr (7, [.ref a_now, .ref a_history, .int i_saved, .ref a_kept, .ref a_isKept, .ref a_text, .int i_length, .int o_next, .ref a_read, .ref a_uses, .ref a_entry, .ref a_passed, .ref a_draft, .ref a_label, .ref a_met, .ref a_bracket, .ref a_matrix])), (a_text, .inl (cyI, 160, .inl f_text)), (a_read, .inl (cyI, 34, .inl o_read)), (a_uses, .inl (cyI, 17, .inl o_uses))] r) 0 0 (va_A [(a_this, .inr (7, [.ref a_now, .ref a_history, .int i_saved, .ref a_kept, .ref a_isKept, .ref a_text, .int i_length, .int i_next, .ref a_read, .ref a_uses, .ref a_entry, .ref a_passed, .ref a_draft, .ref a_label, .ref a_met, .ref a_bracket, .ref a_matrix])), (a_text, .inl (cyI, 160, .inl f_text)), (a_read, .inl (cyI, 34, .inl f_read)), (a_uses, .inl (cyI, 17, .inl f_uses))] sz) := by
  refine Met.ofW (cc := cX10_readStatement) (maxL := 2) (ret := (some .boolean)) (by decide) rfl ?_
  intro p e s m args below meth c s₁ B hml hv
  obtain ⟨rfl, hsz, hP, hK, hD0, hN⟩ := hv
  have hx := B.exec
  have hb := B.bytes
  have hr := B.returns
  have hts := atoms_spec (ws := wsX10_readStatement) B.pre
  have hown : s.vm.findClass RX10 = some m.cls := findClass_of_methodNamed B.named
  have hlocks := B.notSynchronized
  subst hsz
  have hD := hD0.self (sz := s.heap.size)
  generalize hAe : va_A [(a_this, .inr (7, [.ref a_now, .ref a_history, .int i_saved, .ref a_kept, .ref a_isKept, .ref a_text, .int i_length, .int i_next, .ref a_read, .ref a_uses, .ref a_entry, .ref a_passed, .ref a_draft, .ref a_label, .ref a_met, .ref a_bracket, .ref a_matrix])), (a_text, .inl (cyI, 160, .inl f_text)), (a_read, .inl (cyI, 34, .inl f_read)), (a_uses, .inl (cyI, 17, .inl f_uses))] s.heap.size = A at hD ⊢
  have hA : ∀ q : Nat, s.heap.size ≤ q → A q := fun q h => by rw [← hAe]; exact Or.inr h
  clear hAe hD0
  have hS : va_S A s.heap s.heap [] := va_S.rf
  have S : CallFix p m c cX10_readStatement 2 s (([.ref a_this] : List Value).toArray) wsX10_readStatement RX10 := ⟨hx, hb, hml, hown, hts⟩
  have hl := lv_entry ([.ref a_this]) (n := 2) (Nat.le_of_ble_eq_true rfl)
  rw [lg_entry_eq]
  generalize (lg_sl ([.ref a_this]) ++ List.replicate (2 - (lg_sl ([.ref a_this])).length) Slot.unset).toArray = ls at hl ⊢
  replace hl : lv_has ls 2 [(0, .ref a_this)] := hl
  generalize ([] : List Loc) = locs at hS ⊢
  delta kX10_readStatement at hf
  obtain ⟨H, hH⟩ : ∃ H, H = s.heap := ⟨_, rfl⟩
  have hS : va_S A s.heap H locs := by rw [hH]; exact hS
  have hP : va_P D vwCl [(a_this, .inr (7, [.ref a_now, .ref a_history, .int i_saved, .ref a_kept, .ref a_isKept, .ref a_text, .int i_length, .int i_next, .ref a_read, .ref a_uses, .ref a_entry, .ref a_passed, .ref a_draft, .ref a_label, .ref a_met, .ref a_bracket, .ref a_matrix])), (a_text, .inl (cyI, 160, .inl f_text)), (a_read, .inl (cyI, 34, .inl f_read)), (a_uses, .inl (cyI, 17, .inl f_uses))] H := by rw [hH]; exact hP
  suffices hgo : W p l e (headSpec wsX10_readStatement rmX10_readStatement).room s m (([.ref a_this] : List Value).toArray) below meth c H locs 0 0 (MQ below (kQi D cyI cyZ A [(a_this, .inr (7, [.ref a_now, .ref a_history, .int i_saved, .ref a_kept, .ref a_isKept, .ref a_text, .int i_length, .int o_next, .ref a_read, .ref a_uses, .ref a_entry, .ref a_passed, .ref a_draft, .ref a_label, .ref a_met, .ref a_bracket, .ref a_matrix])), (a_text, .inl (cyI, 160, .inl f_text)), (a_read, .inl (cyI, 34, .inl o_read)), (a_uses, .inl (cyI, 17, .inl o_uses))] r) (([.ref a_this] : List Value).toArray) s 0 0 A) (F0 m 0 ls []) by rw [hH] at hgo; exact hgo
  clear hH
  refine lv_aload_n hx hb dX10_readStatement_0 rfl (lv_at hl 0 rfl) ?_
  refine lv_bipush (v := 120) hx hb dX10_readStatement_1 (by decide) ?_
  obtain ⟨r_1, hc_1, hf⟩ := bnd1_s hf
  refine kcVi (As := [.int 120]) (rest := []) (w2 := [(a_this, .inr (7, [.ref a_now, .ref a_history, .int i_saved, .ref a_kept, .ref a_isKept, .ref a_text, .int i_length, .int i_next, .ref a_read, .ref a_uses, .ref a_entry, .ref a_passed, .ref a_draft, .ref a_label, .ref a_met, .ref a_bracket, .ref a_matrix])), (a_text, .inl (cyI, 160, .inl f_text)), (a_read, .inl (cyI, 34, .inl f_read)), (a_uses, .inl (cyI, 17, .inl f_uses))]) S hK hP hD hS hA hN (mX10_isAt l D cyI cyZ H.size a_this a_now a_history a_kept a_isKept a_text a_read a_uses a_entry a_passed a_draft a_label a_met a_bracket a_matrix 120 i_saved i_length i_next f_text r_1 hc_1) (cwV 1 hts gX10_readStatement_X10_isAt rfl rfl rfl (by decide +kernel) ⟨Nat.le_of_ble_eq_true rfl, Nat.le_of_ble_eq_true rfl⟩) 7 0 rfl rfl [0, 1] [2, 3] [2, 3, 0, 1] rfl rfl rfl rfl (by decide) rfl rfl hl.1 (Nat.le_of_ble_eq_true rfl) dX10_readStatement_3 ⟨Nat.le_of_ble_eq_true rfl, Nat.le_of_ble_eq_true rfl⟩ (fun H locs hP hD hS => ?_)
  have hJ_1 : ∀ (i_next_1 : Int32) (f_read_1 : Nat → Int32) (f_uses_1 : Nat → Int32) (H : Heap) (locs : List Loc) (ls : Array Slot), kX10_readStatement_J1 i_length f_text i_next_1 f_read_1 f_uses_1 = some (r, o_next, o_read, o_uses) → va_P D vwCl [(a_this, .inr (7, [.ref a_now, .ref a_history, .int i_saved, .ref a_kept, .ref a_isKept, .ref a_text, .int i_length, .int i_next_1, .ref a_read, .ref a_uses, .ref a_entry, .ref a_passed, .ref a_draft, .ref a_label, .ref a_met, .ref a_bracket, .ref a_matrix])), (a_text, .inl (cyI, 160, .inl f_text)), (a_read, .inl (cyI, 34, .inl f_read_1)), (a_uses, .inl (cyI, 17, .inl f_uses_1))] H → va_D A [(a_this, .inr (7, [.ref a_now, .ref a_history, .int i_saved, .ref a_kept, .ref a_isKept, .ref a_text, .int i_length, .int i_next_1, .ref a_read, .ref a_uses, .ref a_entry, .ref a_passed, .ref a_draft, .ref a_label, .ref a_met, .ref a_bracket, .ref a_matrix])), (a_text, .inl (cyI, 160, .inl f_text)), (a_read, .inl (cyI, 34, .inl f_read_1)), (a_uses, .inl (cyI, 17, .inl f_uses_1))] → va_S A s.heap H locs → lv_has ls 2 [(0, .ref a_this)] → W p l e (headSpec wsX10_readStatement rmX10_readStatement).room s m (([.ref a_this] : List Value).toArray) below meth c H locs 0 0 (MQ below (kQi D cyI cyZ A [(a_this, .inr (7, [.ref a_now, .ref a_history, .int i_saved, .ref a_kept, .ref a_isKept, .ref a_text, .int i_length, .int o_next, .ref a_read, .ref a_uses, .ref a_entry, .ref a_passed, .ref a_draft, .ref a_label, .ref a_met, .ref a_bracket, .ref a_matrix])), (a_text, .inl (cyI, 160, .inl f_text)), (a_read, .inl (cyI, 34, .inl o_read)), (a_uses, .inl (cyI, 17, .inl o_uses))] r) (([.ref a_this] : List Value).toArray) s 0 0 A) (F0 m 121 ls []) := by
    intro i_next_1 f_read_1 f_uses_1 H locs ls hf hP hD hS hl
    delta kX10_readStatement_J1 at hf
    refine lv_aload_n hx hb dX10_readStatement_121 rfl (lv_at hl 0 rfl) ?_
    obtain ⟨o_next_2, hc_2, hf⟩ := bnd1_s hf
    refine kcVv (As := []) (rest := []) (w2 := [(a_this, .inr (7, [.ref a_now, .ref a_history, .int i_saved, .ref a_kept, .ref a_isKept, .ref a_text, .int i_length, .int o_next_2, .ref a_read, .ref a_uses, .ref a_entry, .ref a_passed, .ref a_draft, .ref a_label, .ref a_met, .ref a_bracket, .ref a_matrix])), (a_text, .inl (cyI, 160, .inl f_text)), (a_read, .inl (cyI, 34, .inl f_read_1)), (a_uses, .inl (cyI, 17, .inl f_uses_1))]) S hK hP hD hS hA hN (mX10_skipSpaces l D cyI cyZ H.size a_this a_now a_history a_kept a_isKept a_text a_read a_uses a_entry a_passed a_draft a_label a_met a_bracket a_matrix i_saved i_length i_next_1 f_text o_next_2 hc_2) (cwV 0 hts gX10_readStatement_X10_skipSpaces rfl rfl rfl (by decide +kernel) ⟨Nat.le_of_ble_eq_true rfl, Nat.le_of_ble_eq_true rfl⟩) 7 0 rfl rfl [0, 1] [2, 3] [2, 3, 0, 1] rfl rfl rfl rfl (by decide) rfl rfl hl.1 (Nat.le_of_ble_eq_true rfl) dX10_readStatement_122 ⟨Nat.le_of_ble_eq_true rfl, Nat.le_of_ble_eq_true rfl⟩ (fun H locs hP hD hS => ?_)
    refine lv_aload_n hx hb dX10_readStatement_125 rfl (lv_at hl 0 rfl) ?_
    refine lv_bipush (v := 59) hx hb dX10_readStatement_126 (by decide) ?_
    obtain ⟨r_3, hc_3, hf⟩ := bnd1_s hf
    refine kcVi (As := [.int 59]) (rest := []) (w2 := [(a_this, .inr (7, [.ref a_now, .ref a_history, .int i_saved, .ref a_kept, .ref a_isKept, .ref a_text, .int i_length, .int o_next_2, .ref a_read, .ref a_uses, .ref a_entry, .ref a_passed, .ref a_draft, .ref a_label, .ref a_met, .ref a_bracket, .ref a_matrix])), (a_text, .inl (cyI, 160, .inl f_text)), (a_read, .inl (cyI, 34, .inl f_read_1)), (a_uses, .inl (cyI, 17, .inl f_uses_1))]) S hK hP hD hS hA hN (mX10_isAt l D cyI cyZ H.size a_this a_now a_history a_kept a_isKept a_text a_read a_uses a_entry a_passed a_draft a_label a_met a_bracket a_matrix 59 i_saved i_length o_next_2 f_text r_3 hc_3) (cwV 1 hts gX10_readStatement_X10_isAt rfl rfl rfl (by decide +kernel) ⟨Nat.le_of_ble_eq_true rfl, Nat.le_of_ble_eq_true rfl⟩) 7 0 rfl rfl [0, 1] [2, 3] [2, 3, 0, 1] rfl rfl rfl rfl (by decide) rfl rfl hl.1 (Nat.le_of_ble_eq_true rfl) dX10_readStatement_128 ⟨Nat.le_of_ble_eq_true rfl, Nat.le_of_ble_eq_true rfl⟩ (fun H locs hP hD hS => ?_)
    refine lv_if_ne (tgt := 136) hx hb dX10_readStatement_131 (by decide) (fun c_4 => ?_) (fun c_4 => ?_)
    · replace hf := kt_n hf c_4
      refine lv_aload_n hx hb dX10_readStatement_136 rfl (lv_at hl 0 rfl) ?_
      refine lv_dup hx hb dX10_readStatement_137 rfl ?_
      refine va_get (D := D) (ci := 7) (v := .int o_next_2) (C := RX10) (T := TX10) (N := 17) hx hb hts qX10_readStatement_X10 hown hK hP 0 rfl rfl 7 (Nat.le_of_ble_eq_true rfl) (hts (.fieldLink RX10 74 "KnotDiagramModel" "next" "I") qX10_readStatement_0) (fun _ h9 => h9) rfl dX10_readStatement_138 ?_
      refine lv_iconst (v := 1) hx hb dX10_readStatement_141 (by decide) ?_
      refine lv_iadd hx hb dX10_readStatement_142 ?_
      refine va_put (D := D) (ci := 7) (v := .int (o_next_2 + 1)) (ty := .int) (C := RX10) (T := TX10) (N := 17) hx hb hts qX10_readStatement_X10 tyX10 tyX10_ok nmX10 hown hK hP hD hS 0 rfl rfl 7 (Nat.le_of_ble_eq_true rfl) (hts (.fieldLink RX10 74 "KnotDiagramModel" "next" "I") qX10_readStatement_0) (fun _ h9 => h9) rfl (by decide +kernel) rfl rfl (Nat.le_of_ble_eq_true rfl) dX10_readStatement_143 (fun H locs hP hD hS => ?_)
      replace hP : va_P D vwCl [(a_this, .inr (7, [.ref a_now, .ref a_history, .int i_saved, .ref a_kept, .ref a_isKept, .ref a_text, .int i_length, .int (o_next_2 + 1), .ref a_read, .ref a_uses, .ref a_entry, .ref a_passed, .ref a_draft, .ref a_label, .ref a_met, .ref a_bracket, .ref a_matrix])), (a_text, .inl (cyI, 160, .inl f_text)), (a_read, .inl (cyI, 34, .inl f_read_1)), (a_uses, .inl (cyI, 17, .inl f_uses_1))] H := hP
      replace hD : va_D A [(a_this, .inr (7, [.ref a_now, .ref a_history, .int i_saved, .ref a_kept, .ref a_isKept, .ref a_text, .int i_length, .int (o_next_2 + 1), .ref a_read, .ref a_uses, .ref a_entry, .ref a_passed, .ref a_draft, .ref a_label, .ref a_met, .ref a_bracket, .ref a_matrix])), (a_text, .inl (cyI, 160, .inl f_text)), (a_read, .inl (cyI, 34, .inl f_read_1)), (a_uses, .inl (cyI, 17, .inl f_uses_1))] := hD
      refine lv_iconst (v := 1) hx hb dX10_readStatement_146 (by decide) ?_
      obtain ⟨rfl, rfl, rfl, rfl⟩ := some4_s hf
      exact kRz hx hb hr hlocks hP hK hD hS zn1 rfl dX10_readStatement_147
    · replace hf := kt_p hf c_4
      refine lv_iconst (v := 0) hx hb dX10_readStatement_134 (by decide) ?_
      obtain ⟨rfl, rfl, rfl, rfl⟩ := some4_s hf
      exact kRz hx hb hr hlocks hP hK hD hS zn0 rfl dX10_readStatement_135
  have hJ_2 : ∀  (H : Heap) (locs : List Loc) (ls : Array Slot), kX10_readStatement_J2 i_length i_next f_text f_read f_uses  = some (r, o_next, o_read, o_uses) → va_P D vwCl [(a_this, .inr (7, [.ref a_now, .ref a_history, .int i_saved, .ref a_kept, .ref a_isKept, .ref a_text, .int i_length, .int i_next, .ref a_read, .ref a_uses, .ref a_entry, .ref a_passed, .ref a_draft, .ref a_label, .ref a_met, .ref a_bracket, .ref a_matrix])), (a_text, .inl (cyI, 160, .inl f_text)), (a_read, .inl (cyI, 34, .inl f_read)), (a_uses, .inl (cyI, 17, .inl f_uses))] H → va_D A [(a_this, .inr (7, [.ref a_now, .ref a_history, .int i_saved, .ref a_kept, .ref a_isKept, .ref a_text, .int i_length, .int i_next, .ref a_read, .ref a_uses, .ref a_entry, .ref a_passed, .ref a_draft, .ref a_label, .ref a_met, .ref a_bracket, .ref a_matrix])), (a_text, .inl (cyI, 160, .inl f_text)), (a_read, .inl (cyI, 34, .inl f_read)), (a_uses, .inl (cyI, 17, .inl f_uses))] → va_S A s.heap H locs → lv_has ls 2 [(0, .ref a_this)] → W p l e (headSpec wsX10_readStatement rmX10_readStatement).room s m (([.ref a_this] : List Value).toArray) below meth c H locs 0 0 (MQ below (kQi D cyI cyZ A [(a_this, .inr (7, [.ref a_now, .ref a_history, .int i_saved, .ref a_kept, .ref a_isKept, .ref a_text, .int i_length, .int o_next, .ref a_read, .ref a_uses, .ref a_entry, .ref a_passed, .ref a_draft, .ref a_label, .ref a_met, .ref a_bracket, .ref a_matrix])), (a_text, .inl (cyI, 160, .inl f_text)), (a_read, .inl (cyI, 34, .inl o_read)), (a_uses, .inl (cyI, 17, .inl o_uses))] r) (([.ref a_this] : List Value).toArray) s 0 0 A) (F0 m 77 ls []) := by
    intro  H locs ls hf hP hD hS hl
    delta kX10_readStatement_J2 at hf
    refine lv_aload_n hx hb dX10_readStatement_77 rfl (lv_at hl 0 rfl) ?_
    refine lv_bipush (v := 111) hx hb dX10_readStatement_78 (by decide) ?_
    obtain ⟨r_5, hc_5, hf⟩ := bnd1_s hf
    refine kcVi (As := [.int 111]) (rest := []) (w2 := [(a_this, .inr (7, [.ref a_now, .ref a_history, .int i_saved, .ref a_kept, .ref a_isKept, .ref a_text, .int i_length, .int i_next, .ref a_read, .ref a_uses, .ref a_entry, .ref a_passed, .ref a_draft, .ref a_label, .ref a_met, .ref a_bracket, .ref a_matrix])), (a_text, .inl (cyI, 160, .inl f_text)), (a_read, .inl (cyI, 34, .inl f_read)), (a_uses, .inl (cyI, 17, .inl f_uses))]) S hK hP hD hS hA hN (mX10_isAt l D cyI cyZ H.size a_this a_now a_history a_kept a_isKept a_text a_read a_uses a_entry a_passed a_draft a_label a_met a_bracket a_matrix 111 i_saved i_length i_next f_text r_5 hc_5) (cwV 1 hts gX10_readStatement_X10_isAt rfl rfl rfl (by decide +kernel) ⟨Nat.le_of_ble_eq_true rfl, Nat.le_of_ble_eq_true rfl⟩) 7 0 rfl rfl [0, 1] [2, 3] [2, 3, 0, 1] rfl rfl rfl rfl (by decide) rfl rfl hl.1 (Nat.le_of_ble_eq_true rfl) dX10_readStatement_80 ⟨Nat.le_of_ble_eq_true rfl, Nat.le_of_ble_eq_true rfl⟩ (fun H locs hP hD hS => ?_)
    refine lv_if_eq (tgt := 119) hx hb dX10_readStatement_83 (by decide) (fun c_10 => ?_) (fun c_10 => ?_)
    · replace hf := kt_p hf c_10
      refine lv_iconst (v := 0) hx hb dX10_readStatement_119 (by decide) ?_
      obtain ⟨rfl, rfl, rfl, rfl⟩ := some4_s hf
      exact kRz hx hb hr hlocks hP hK hD hS zn0 rfl dX10_readStatement_120
    · replace hf := kt_n hf c_10
      refine lv_aload_n hx hb dX10_readStatement_86 rfl (lv_at hl 0 rfl) ?_
      refine va_get (D := D) (ci := 7) (v := .ref a_read) (C := RX10) (T := TX10) (N := 17) hx hb hts qX10_readStatement_X10 hown hK hP 0 rfl rfl 8 (Nat.le_of_ble_eq_true rfl) (hts (.fieldLink RX10 26 "KnotDiagramModel" "read" "[I") qX10_readStatement_1) (fun _ h9 => h9) rfl dX10_readStatement_87 ?_
      refine lv_iconst (v := 1) hx hb dX10_readStatement_90 (by decide) ?_
      obtain ⟨hi_6, hf⟩ := ck_s hf
      refine va_iald hx hb hK hP 2 0 rfl rfl hi_6 dX10_readStatement_91 ?_
      refine lv_iconst (v := 4) hx hb dX10_readStatement_92 (by decide) ?_
      refine lv_icmp_ge (tgt := 119) hx hb dX10_readStatement_93 (by decide) (fun c_9 => ?_) (fun c_9 => ?_)
      · replace hf := kt_p hf c_9
        refine lv_iconst (v := 0) hx hb dX10_readStatement_119 (by decide) ?_
        obtain ⟨rfl, rfl, rfl, rfl⟩ := some4_s hf
        exact kRz hx hb hr hlocks hP hK hD hS zn0 rfl dX10_readStatement_120
      · replace hf := kt_n hf c_9
        refine lv_aload_n hx hb dX10_readStatement_96 rfl (lv_at hl 0 rfl) ?_
        refine lv_dup hx hb dX10_readStatement_97 rfl ?_
        refine va_get (D := D) (ci := 7) (v := .int i_next) (C := RX10) (T := TX10) (N := 17) hx hb hts qX10_readStatement_X10 hown hK hP 0 rfl rfl 7 (Nat.le_of_ble_eq_true rfl) (hts (.fieldLink RX10 74 "KnotDiagramModel" "next" "I") qX10_readStatement_0) (fun _ h9 => h9) rfl dX10_readStatement_98 ?_
        refine lv_iconst (v := 1) hx hb dX10_readStatement_101 (by decide) ?_
        refine lv_iadd hx hb dX10_readStatement_102 ?_
        refine va_put (D := D) (ci := 7) (v := .int (i_next + 1)) (ty := .int) (C := RX10) (T := TX10) (N := 17) hx hb hts qX10_readStatement_X10 tyX10 tyX10_ok nmX10 hown hK hP hD hS 0 rfl rfl 7 (Nat.le_of_ble_eq_true rfl) (hts (.fieldLink RX10 74 "KnotDiagramModel" "next" "I") qX10_readStatement_0) (fun _ h9 => h9) rfl (by decide +kernel) rfl rfl (Nat.le_of_ble_eq_true rfl) dX10_readStatement_103 (fun H locs hP hD hS => ?_)
        replace hP : va_P D vwCl [(a_this, .inr (7, [.ref a_now, .ref a_history, .int i_saved, .ref a_kept, .ref a_isKept, .ref a_text, .int i_length, .int (i_next + 1), .ref a_read, .ref a_uses, .ref a_entry, .ref a_passed, .ref a_draft, .ref a_label, .ref a_met, .ref a_bracket, .ref a_matrix])), (a_text, .inl (cyI, 160, .inl f_text)), (a_read, .inl (cyI, 34, .inl f_read)), (a_uses, .inl (cyI, 17, .inl f_uses))] H := hP
        replace hD : va_D A [(a_this, .inr (7, [.ref a_now, .ref a_history, .int i_saved, .ref a_kept, .ref a_isKept, .ref a_text, .int i_length, .int (i_next + 1), .ref a_read, .ref a_uses, .ref a_entry, .ref a_passed, .ref a_draft, .ref a_label, .ref a_met, .ref a_bracket, .ref a_matrix])), (a_text, .inl (cyI, 160, .inl f_text)), (a_read, .inl (cyI, 34, .inl f_read)), (a_uses, .inl (cyI, 17, .inl f_uses))] := hD
        refine lv_aload_n hx hb dX10_readStatement_106 rfl (lv_at hl 0 rfl) ?_
        refine va_get (D := D) (ci := 7) (v := .ref a_read) (C := RX10) (T := TX10) (N := 17) hx hb hts qX10_readStatement_X10 hown hK hP 0 rfl rfl 8 (Nat.le_of_ble_eq_true rfl) (hts (.fieldLink RX10 26 "KnotDiagramModel" "read" "[I") qX10_readStatement_1) (fun _ h9 => h9) rfl dX10_readStatement_107 ?_
        refine lv_iconst (v := 1) hx hb dX10_readStatement_110 (by decide) ?_
        refine lv_dup2_11 hx hb dX10_readStatement_111 rfl rfl ?_
        obtain ⟨hi_7, hf⟩ := ck_s hf
        refine va_iald hx hb hK hP 2 0 rfl rfl hi_7 dX10_readStatement_112 ?_
        refine lv_iconst (v := 1) hx hb dX10_readStatement_113 (by decide) ?_
        refine lv_iadd hx hb dX10_readStatement_114 ?_
        obtain ⟨hi_8, hf⟩ := ck_s hf
        refine va_iast hx hb hK hP hD hS 2 0 rfl rfl hi_8 dX10_readStatement_115 (fun H locs hP hD hS => ?_)
        replace hP : va_P D vwCl [(a_this, .inr (7, [.ref a_now, .ref a_history, .int i_saved, .ref a_kept, .ref a_isKept, .ref a_text, .int i_length, .int (i_next + 1), .ref a_read, .ref a_uses, .ref a_entry, .ref a_passed, .ref a_draft, .ref a_label, .ref a_met, .ref a_bracket, .ref a_matrix])), (a_text, .inl (cyI, 160, .inl f_text)), (a_read, .inl (cyI, 34, .inl (upd f_read (1 : Int32).toNatClampNeg ((f_read (1 : Int32).toNatClampNeg) + 1)))), (a_uses, .inl (cyI, 17, .inl f_uses))] H := hP
        replace hD : va_D A [(a_this, .inr (7, [.ref a_now, .ref a_history, .int i_saved, .ref a_kept, .ref a_isKept, .ref a_text, .int i_length, .int (i_next + 1), .ref a_read, .ref a_uses, .ref a_entry, .ref a_passed, .ref a_draft, .ref a_label, .ref a_met, .ref a_bracket, .ref a_matrix])), (a_text, .inl (cyI, 160, .inl f_text)), (a_read, .inl (cyI, 34, .inl (upd f_read (1 : Int32).toNatClampNeg ((f_read (1 : Int32).toNatClampNeg) + 1)))), (a_uses, .inl (cyI, 17, .inl f_uses))] := hD
        refine lv_goto (tgt := 121) hx hb dX10_readStatement_116 (by decide) ?_
        exact hJ_1 (i_next + 1) (upd f_read (1 : Int32).toNatClampNeg ((f_read (1 : Int32).toNatClampNeg) + 1)) f_uses H locs ls hf hP hD hS (lv_sub hl [0] rfl)
  refine lv_if_eq (tgt := 77) hx hb dX10_readStatement_6 (by decide) (fun c_19 => ?_) (fun c_19 => ?_)
  · replace hf := kt_p hf c_19
    exact hJ_2 H locs ls hf hP hD hS (lv_sub hl [0] rfl)
  · replace hf := kt_n hf c_19
    refine lv_aload_n hx hb dX10_readStatement_9 rfl (lv_at hl 0 rfl) ?_
    refine va_get (D := D) (ci := 7) (v := .ref a_read) (C := RX10) (T := TX10) (N := 17) hx hb hts qX10_readStatement_X10 hown hK hP 0 rfl rfl 8 (Nat.le_of_ble_eq_true rfl) (hts (.fieldLink RX10 26 "KnotDiagramModel" "read" "[I") qX10_readStatement_1) (fun _ h9 => h9) rfl dX10_readStatement_10 ?_
    refine lv_iconst (v := 0) hx hb dX10_readStatement_13 (by decide) ?_
    obtain ⟨hi_11, hf⟩ := ck_s hf
    refine va_iald hx hb hK hP 2 0 rfl rfl hi_11 dX10_readStatement_14 ?_
    refine lv_bipush (v := 8) hx hb dX10_readStatement_15 (by decide) ?_
    refine lv_icmp_ge (tgt := 77) hx hb dX10_readStatement_17 (by decide) (fun c_18 => ?_) (fun c_18 => ?_)
    · replace hf := kt_p hf c_18
      exact hJ_2 H locs ls hf hP hD hS (lv_sub hl [0] rfl)
    · replace hf := kt_n hf c_18
      refine lv_aload_n hx hb dX10_readStatement_20 rfl (lv_at hl 0 rfl) ?_
      refine lv_dup hx hb dX10_readStatement_21 rfl ?_
      refine va_get (D := D) (ci := 7) (v := .int i_next) (C := RX10) (T := TX10) (N := 17) hx hb hts qX10_readStatement_X10 hown hK hP 0 rfl rfl 7 (Nat.le_of_ble_eq_true rfl) (hts (.fieldLink RX10 74 "KnotDiagramModel" "next" "I") qX10_readStatement_0) (fun _ h9 => h9) rfl dX10_readStatement_22 ?_
      refine lv_iconst (v := 1) hx hb dX10_readStatement_25 (by decide) ?_
      refine lv_iadd hx hb dX10_readStatement_26 ?_
      refine va_put (D := D) (ci := 7) (v := .int (i_next + 1)) (ty := .int) (C := RX10) (T := TX10) (N := 17) hx hb hts qX10_readStatement_X10 tyX10 tyX10_ok nmX10 hown hK hP hD hS 0 rfl rfl 7 (Nat.le_of_ble_eq_true rfl) (hts (.fieldLink RX10 74 "KnotDiagramModel" "next" "I") qX10_readStatement_0) (fun _ h9 => h9) rfl (by decide +kernel) rfl rfl (Nat.le_of_ble_eq_true rfl) dX10_readStatement_27 (fun H locs hP hD hS => ?_)
      replace hP : va_P D vwCl [(a_this, .inr (7, [.ref a_now, .ref a_history, .int i_saved, .ref a_kept, .ref a_isKept, .ref a_text, .int i_length, .int (i_next + 1), .ref a_read, .ref a_uses, .ref a_entry, .ref a_passed, .ref a_draft, .ref a_label, .ref a_met, .ref a_bracket, .ref a_matrix])), (a_text, .inl (cyI, 160, .inl f_text)), (a_read, .inl (cyI, 34, .inl f_read)), (a_uses, .inl (cyI, 17, .inl f_uses))] H := hP
      replace hD : va_D A [(a_this, .inr (7, [.ref a_now, .ref a_history, .int i_saved, .ref a_kept, .ref a_isKept, .ref a_text, .int i_length, .int (i_next + 1), .ref a_read, .ref a_uses, .ref a_entry, .ref a_passed, .ref a_draft, .ref a_label, .ref a_met, .ref a_bracket, .ref a_matrix])), (a_text, .inl (cyI, 160, .inl f_text)), (a_read, .inl (cyI, 34, .inl f_read)), (a_uses, .inl (cyI, 17, .inl f_uses))] := hD
      refine lv_iconst (v := 0) hx hb dX10_readStatement_30 (by decide) ?_
      refine lv_istore_n (lv' := [(1, .int 0), (0, .ref a_this)]) hx hb dX10_readStatement_31 rfl hl (by decide) rfl (fun ls hl => ?_)
      have hL_3 : ∀ (n : Nat) (v1_3 : Int32) (i_next_3 : Int32) (f_read_3 : Nat → Int32) (f_uses_3 : Nat → Int32) (H : Heap) (locs : List Loc) (ls : Array Slot), it4 (kX10_readStatement_L3 i_length f_text) n v1_3 i_next_3 f_read_3 f_uses_3 = some (r, o_next, o_read, o_uses) → va_P D vwCl [(a_this, .inr (7, [.ref a_now, .ref a_history, .int i_saved, .ref a_kept, .ref a_isKept, .ref a_text, .int i_length, .int i_next_3, .ref a_read, .ref a_uses, .ref a_entry, .ref a_passed, .ref a_draft, .ref a_label, .ref a_met, .ref a_bracket, .ref a_matrix])), (a_text, .inl (cyI, 160, .inl f_text)), (a_read, .inl (cyI, 34, .inl f_read_3)), (a_uses, .inl (cyI, 17, .inl f_uses_3))] H → va_D A [(a_this, .inr (7, [.ref a_now, .ref a_history, .int i_saved, .ref a_kept, .ref a_isKept, .ref a_text, .int i_length, .int i_next_3, .ref a_read, .ref a_uses, .ref a_entry, .ref a_passed, .ref a_draft, .ref a_label, .ref a_met, .ref a_bracket, .ref a_matrix])), (a_text, .inl (cyI, 160, .inl f_text)), (a_read, .inl (cyI, 34, .inl f_read_3)), (a_uses, .inl (cyI, 17, .inl f_uses_3))] → va_S A s.heap H locs → lv_has ls 2 [(0, .ref a_this), (1, .int v1_3)] → W p l e (headSpec wsX10_readStatement rmX10_readStatement).room s m (([.ref a_this] : List Value).toArray) below meth c H locs 0 0 (MQ below (kQi D cyI cyZ A [(a_this, .inr (7, [.ref a_now, .ref a_history, .int i_saved, .ref a_kept, .ref a_isKept, .ref a_text, .int i_length, .int o_next, .ref a_read, .ref a_uses, .ref a_entry, .ref a_passed, .ref a_draft, .ref a_label, .ref a_met, .ref a_bracket, .ref a_matrix])), (a_text, .inl (cyI, 160, .inl f_text)), (a_read, .inl (cyI, 34, .inl o_read)), (a_uses, .inl (cyI, 17, .inl o_uses))] r) (([.ref a_this] : List Value).toArray) s 0 0 A) (F0 m 32 ls []) := by
        intro n_3
        induction n_3 with
        | zero =>
          intro _ _ _ _ _ _ _ hf
          exact (it4_z hf).elim
        | succ n_3 ih_3 =>
          intro v1_3 i_next_3 f_read_3 f_uses_3 H locs ls hf hP hD hS hl
          replace hf := it4_s hf
          rw [kX10_readStatement_L3] at hf
          refine lv_iload_n hx hb dX10_readStatement_32 rfl (lv_at hl 1 rfl) ?_
          refine lv_iconst (v := 4) hx hb dX10_readStatement_33 (by decide) ?_
          refine lv_icmp_ge (tgt := 64) hx hb dX10_readStatement_34 (by decide) (fun c_17 => ?_) (fun c_17 => ?_)
          · replace hf := kt_p hf c_17
            refine lv_aload_n hx hb dX10_readStatement_64 rfl (lv_at hl 0 rfl) ?_
            refine va_get (D := D) (ci := 7) (v := .ref a_read) (C := RX10) (T := TX10) (N := 17) hx hb hts qX10_readStatement_X10 hown hK hP 0 rfl rfl 8 (Nat.le_of_ble_eq_true rfl) (hts (.fieldLink RX10 26 "KnotDiagramModel" "read" "[I") qX10_readStatement_1) (fun _ h9 => h9) rfl dX10_readStatement_65 ?_
            refine lv_iconst (v := 0) hx hb dX10_readStatement_68 (by decide) ?_
            refine lv_dup2_11 hx hb dX10_readStatement_69 rfl rfl ?_
            obtain ⟨hi_12, hf⟩ := ck_s hf
            refine va_iald hx hb hK hP 2 0 rfl rfl hi_12 dX10_readStatement_70 ?_
            refine lv_iconst (v := 1) hx hb dX10_readStatement_71 (by decide) ?_
            refine lv_iadd hx hb dX10_readStatement_72 ?_
            obtain ⟨hi_13, hf⟩ := ck_s hf
            refine va_iast hx hb hK hP hD hS 2 0 rfl rfl hi_13 dX10_readStatement_73 (fun H locs hP hD hS => ?_)
            replace hP : va_P D vwCl [(a_this, .inr (7, [.ref a_now, .ref a_history, .int i_saved, .ref a_kept, .ref a_isKept, .ref a_text, .int i_length, .int i_next_3, .ref a_read, .ref a_uses, .ref a_entry, .ref a_passed, .ref a_draft, .ref a_label, .ref a_met, .ref a_bracket, .ref a_matrix])), (a_text, .inl (cyI, 160, .inl f_text)), (a_read, .inl (cyI, 34, .inl (upd f_read_3 (0 : Int32).toNatClampNeg ((f_read_3 (0 : Int32).toNatClampNeg) + 1)))), (a_uses, .inl (cyI, 17, .inl f_uses_3))] H := hP
            replace hD : va_D A [(a_this, .inr (7, [.ref a_now, .ref a_history, .int i_saved, .ref a_kept, .ref a_isKept, .ref a_text, .int i_length, .int i_next_3, .ref a_read, .ref a_uses, .ref a_entry, .ref a_passed, .ref a_draft, .ref a_label, .ref a_met, .ref a_bracket, .ref a_matrix])), (a_text, .inl (cyI, 160, .inl f_text)), (a_read, .inl (cyI, 34, .inl (upd f_read_3 (0 : Int32).toNatClampNeg ((f_read_3 (0 : Int32).toNatClampNeg) + 1)))), (a_uses, .inl (cyI, 17, .inl f_uses_3))] := hD
            refine lv_goto (tgt := 121) hx hb dX10_readStatement_74 (by decide) ?_
            exact hJ_1 i_next_3 (upd f_read_3 (0 : Int32).toNatClampNeg ((f_read_3 (0 : Int32).toNatClampNeg) + 1)) f_uses_3 H locs ls hf hP hD hS (lv_sub hl [0] rfl)
          · replace hf := kt_n hf c_17
            refine lv_aload_n hx hb dX10_readStatement_37 rfl (lv_at hl 0 rfl) ?_
            refine lv_iconst (v := 2) hx hb dX10_readStatement_38 (by decide) ?_
            refine lv_iconst (v := 4) hx hb dX10_readStatement_39 (by decide) ?_
            refine lv_aload_n hx hb dX10_readStatement_40 rfl (lv_at hl 0 rfl) ?_
            refine va_get (D := D) (ci := 7) (v := .ref a_read) (C := RX10) (T := TX10) (N := 17) hx hb hts qX10_readStatement_X10 hown hK hP 0 rfl rfl 8 (Nat.le_of_ble_eq_true rfl) (hts (.fieldLink RX10 26 "KnotDiagramModel" "read" "[I") qX10_readStatement_1) (fun _ h9 => h9) rfl dX10_readStatement_41 ?_
            refine lv_iconst (v := 0) hx hb dX10_readStatement_44 (by decide) ?_
            obtain ⟨hi_14, hf⟩ := ck_s hf
            refine va_iald hx hb hK hP 2 0 rfl rfl hi_14 dX10_readStatement_45 ?_
            refine lv_imul hx hb dX10_readStatement_46 ?_
            refine lv_iadd hx hb dX10_readStatement_47 ?_
            refine lv_iload_n hx hb dX10_readStatement_48 rfl (lv_at hl 1 rfl) ?_
            refine lv_iadd hx hb dX10_readStatement_49 ?_
            obtain ⟨r_15, o_next_15, o_read_15, o_uses_15, hc_15, hf⟩ := bnd4_s hf
            refine kcVi (As := [.int ((2 + (4 * (f_read_3 (0 : Int32).toNatClampNeg))) + v1_3)]) (rest := []) (w2 := [(a_this, .inr (7, [.ref a_now, .ref a_history, .int i_saved, .ref a_kept, .ref a_isKept, .ref a_text, .int i_length, .int o_next_15, .ref a_read, .ref a_uses, .ref a_entry, .ref a_passed, .ref a_draft, .ref a_label, .ref a_met, .ref a_bracket, .ref a_matrix])), (a_text, .inl (cyI, 160, .inl f_text)), (a_read, .inl (cyI, 34, .inl o_read_15)), (a_uses, .inl (cyI, 17, .inl o_uses_15))]) S hK hP hD hS hA hN (mX10_readArc l D cyI cyZ H.size a_this a_now a_history a_kept a_isKept a_text a_read a_uses a_entry a_passed a_draft a_label a_met a_bracket a_matrix ((2 + (4 * (f_read_3 (0 : Int32).toNatClampNeg))) + v1_3) i_saved i_length i_next_3 f_text f_read_3 f_uses_3 r_15 o_next_15 o_read_15 o_uses_15 hc_15) (cwV 1 hts gX10_readStatement_X10_readArc rfl rfl rfl (by decide +kernel) ⟨Nat.le_of_ble_eq_true rfl, Nat.le_of_ble_eq_true rfl⟩) 7 0 rfl rfl [0, 1, 2, 3] [] [0, 1, 2, 3] rfl rfl rfl rfl (by decide) rfl rfl hl.1 (Nat.le_of_ble_eq_true rfl) dX10_readStatement_50 ⟨Nat.le_of_ble_eq_true rfl, Nat.le_of_ble_eq_true rfl⟩ (fun H locs hP hD hS => ?_)
            refine lv_if_ne (tgt := 58) hx hb dX10_readStatement_53 (by decide) (fun c_16 => ?_) (fun c_16 => ?_)
            · replace hf := kt_n hf c_16
              refine lv_iinc (v := (v1_3 + 1)) (lv' := [(1, .int (v1_3 + 1)), (0, .ref a_this)]) hx hb dX10_readStatement_58 hl (k := 1) rfl rfl (by decide) rfl (fun ls hl => ?_)
              refine lv_goto (tgt := 32) hx hb dX10_readStatement_61 (by decide) ?_
              exact ih_3 (v1_3 + 1) o_next_15 o_read_15 o_uses_15 H locs ls hf hP hD hS (lv_sub hl [1, 0] rfl)
            · replace hf := kt_p hf c_16
              refine lv_iconst (v := 0) hx hb dX10_readStatement_56 (by decide) ?_
              obtain ⟨rfl, rfl, rfl, rfl⟩ := some4_s hf
              exact kRz hx hb hr hlocks hP hK hD hS zn0 rfl dX10_readStatement_57
      exact hL_3 400 0 (i_next + 1) f_read f_uses H locs ls hf hP hD hS (lv_sub hl [1, 0] rfl)
def kX10_readText_J5 (K_4 : Int32 → Int32 → Option (Int32 × Int32 × (Nat → Int32) × (Nat → Int32))) (v3_4 : Int32)  : Option (Int32 × Int32 × (Nat → Int32) × (Nat → Int32)) :=
  K_4 0 (v3_4 + 1)
def kX10_readText_L4 (i_length : Int32) (i_next_3 : Int32) (f_read_3 : Nat → Int32) (f_uses_3 : Nat → Int32) (K_4 : Int32 → Int32 → Option (Int32 × Int32 × (Nat → Int32) × (Nat → Int32))) (v2_4 : Int32) (v3_4 : Int32) : Option (Int32 × Int32 × (Nat → Int32) × (Nat → Int32)) :=
  if 16 < v3_4 then if v2_4 = 0 then some (i_length, i_next_3, f_read_3, f_uses_3) else some ((-1), i_next_3, f_read_3, f_uses_3) else if v2_4 = 0 then kX10_readText_J5 K_4 v3_4 else ck v3_4 17 (if (f_uses_3 v3_4.toNatClampNeg) = 1 then kX10_readText_J5 K_4 v3_4 else K_4 1 (v3_4 + 1))
def kX10_readText_L3 (i_length : Int32) (f_text : Nat → Int32) (K_3 : Int32 → Int32 → (Nat → Int32) → (Nat → Int32) → Option (Int32 × Int32 × (Nat → Int32) × (Nat → Int32))) (v1_3 : Int32) (i_next_3 : Int32) (f_read_3 : Nat → Int32) (f_uses_3 : Nat → Int32) : Option (Int32 × Int32 × (Nat → Int32) × (Nat → Int32)) :=
  if i_length ≤ i_next_3 then it2 (kX10_readText_L4 i_length i_next_3 f_read_3 f_uses_3) 400 v1_3 1 else bnd4 (kX10_readStatement i_length i_next_3 f_text f_read_3 f_uses_3) (fun r_7 o_next_7 o_read_7 o_uses_7 => if r_7 = 0 then some (o_next_7, o_next_7, o_read_7, o_uses_7) else bnd1 (kX10_skipSpaces i_length o_next_7 f_text) (fun o_next_8 => K_3 1 o_next_8 o_read_7 o_uses_7))
def kX10_readText_L2 (i_length : Int32) (f_text : Nat → Int32) (f_read_1 : Nat → Int32) (K_2 : Int32 → (Nat → Int32) → Option (Int32 × Int32 × (Nat → Int32) × (Nat → Int32))) (v1_2 : Int32) (f_uses_2 : Nat → Int32) : Option (Int32 × Int32 × (Nat → Int32) × (Nat → Int32)) :=
  if 16 < v1_2 then bnd1 (kX10_skipSpaces i_length 0 f_text) (fun o_next_1 => it4 (kX10_readText_L3 i_length f_text) 400 0 o_next_1 f_read_1 f_uses_2) else ck v1_2 17 (K_2 (v1_2 + 1) (upd f_uses_2 v1_2.toNatClampNeg 0))
def kX10_readText_L1 (i_length : Int32) (f_text : Nat → Int32) (f_uses : Nat → Int32) (K_1 : Int32 → (Nat → Int32) → Option (Int32 × Int32 × (Nat → Int32) × (Nat → Int32))) (v1_1 : Int32) (f_read_1 : Nat → Int32) : Option (Int32 × Int32 × (Nat → Int32) × (Nat → Int32)) :=
  if 34 ≤ v1_1 then it2 (kX10_readText_L2 i_length f_text f_read_1) 400 0 f_uses else ck v1_1 34 (K_1 (v1_1 + 1) (upd f_read_1 v1_1.toNatClampNeg 0))
def kX10_readText (i_length : Int32) (i_next : Int32) (f_text : Nat → Int32) (f_read : Nat → Int32) (f_uses : Nat → Int32) : Option (Int32 × Int32 × (Nat → Int32) × (Nat → Int32)) :=
  it2 (kX10_readText_L1 i_length f_text f_uses) 400 0 f_read
def rmX10_readText : Room := { frames := 4, cells := 0, slots := 0, locals := 88 }
theorem qX10_readText_0 : (.fieldLink RX10 74 "KnotDiagramModel" "next" "I" : Cond) ∈ wsX10_readText := by decide +kernel
theorem qX10_readText_1 : (.fieldLink RX10 69 "KnotDiagramModel" "length" "I" : Cond) ∈ wsX10_readText := by decide +kernel
theorem qX10_readText_2 : (.fieldLink RX10 29 "KnotDiagramModel" "uses" "[I" : Cond) ∈ wsX10_readText := by decide +kernel
theorem qX10_readText_3 : (.fieldLink RX10 26 "KnotDiagramModel" "read" "[I" : Cond) ∈ wsX10_readText := by decide +kernel
theorem qX10_readText_X10 : ∀ w ∈ wsX100, w ∈ wsX10_readText := by decide +kernel
set_option maxHeartbeats 4000000 in
set_option maxRecDepth 100000 in
theorem mX10_readText (l : Launch) (D : va_G) (cyI cyZ : ClassId) (sz : Nat) (a_this a_now a_history a_kept a_isKept a_text a_read a_uses a_entry a_passed a_draft a_label a_met a_bracket a_matrix : Nat) (i_saved : Int32) (i_length : Int32) (i_next : Int32) (f_text : Nat → Int32) (f_read : Nat → Int32) (f_uses : Nat → Int32) (r : Int32) (o_next : Int32) (o_read : Nat → Int32) (o_uses : Nat → Int32) (hf : kX10_readText i_length i_next f_text f_read f_uses = some (r, o_next, o_read, o_uses)) : Met l yX10_readText wsX10_readText rmX10_readText (kPre D cyI cyZ [.ref a_this] [(a_this, .inr (7, [.ref a_now, .ref a_history, .int i_saved, .ref a_kept, .ref a_isKept, .ref a_text, .int i_length, .int i_next, .ref a_read, .ref a_uses, .ref a_entry, .ref a_passed, .ref a_draft, .ref a_label, .ref a_met, .ref a_bracket, .ref a_matrix])), (a_text, .inl (cyI, 160, .inl f_text)), (a_read, .inl (cyI, 34, .inl f_read)), (a_uses, .inl (cyI, 17, .inl f_uses))] sz) (kQi D cyI cyZ (va_A [(a_this, .inr (7, [.ref a_now, .ref a_history, .int i_saved, .ref a_kept, .ref a_isKept, .ref a_text, .int i_length, .int i_next, .ref a_read, .ref a_uses, .ref a_entry, .ref a_passed, .ref a_draft, .ref a_label, .ref a_met, .ref a_bracket, .ref a_matrix])), (a_text, .inl (cyI, 160, .inl f_text)), (a_read, .inl (cyI, 34, .inl f_read)), (a_uses, .inl (cyI, 17, .inl f_uses))] sz) [(a_this, .inr (7, [.ref a_now, .ref a_history, .int i_saved, .ref a_kept, .ref a_isKept, .ref a_text, .int i_length, .int o_next, .ref a_read, .ref a_uses, .ref a_entry, .ref a_passed, .ref a_draft, .ref a_label, .ref a_met, .ref a_bracket, .ref a_matrix])), (a_text, .inl (cyI, 160, .inl f_text)), (a_read, .inl (cyI, 34, .inl o_read)), (a_uses, .inl (cyI, 17, .inl o_uses))] r) 0 0 (va_A [(a_this, .inr (7, [.ref a_now, .ref a_history, .int i_saved, .ref a_kept, .ref a_isKept, .ref a_text, .int i_length, .int i_next, .ref a_read, .ref a_uses, .ref a_entry, .ref a_passed, .ref a_draft, .ref a_label, .ref a_met, .ref a_bracket, .ref a_matrix])), (a_text, .inl (cyI, 160, .inl f_text)), (a_read, .inl (cyI, 34, .inl f_read)), (a_uses, .inl (cyI, 17, .inl f_uses))] sz) := by
  refine Met.ofW (cc := cX10_readText) (maxL := 4) (ret := (some .int)) (by decide) rfl ?_
  intro p e s m args below meth c s₁ B hml hv
  obtain ⟨rfl, hsz, hP, hK, hD0, hN⟩ := hv
  have hx := B.exec
  have hb := B.bytes
  have hr := B.returns
  have hts := atoms_spec (ws := wsX10_readText) B.pre
  have hown : s.vm.findClass RX10 = some m.cls := findClass_of_methodNamed B.named
  have hlocks := B.notSynchronized
  subst hsz
  have hD := hD0.self (sz := s.heap.size)
  generalize hAe : va_A [(a_this, .inr (7, [.ref a_now, .ref a_history, .int i_saved, .ref a_kept, .ref a_isKept, .ref a_text, .int i_length, .int i_next, .ref a_read, .ref a_uses, .ref a_entry, .ref a_passed, .ref a_draft, .ref a_label, .ref a_met, .ref a_bracket, .ref a_matrix])), (a_text, .inl (cyI, 160, .inl f_text)), (a_read, .inl (cyI, 34, .inl f_read)), (a_uses, .inl (cyI, 17, .inl f_uses))] s.heap.size = A at hD ⊢
  have hA : ∀ q : Nat, s.heap.size ≤ q → A q := fun q h => by rw [← hAe]; exact Or.inr h
  clear hAe hD0
  have hS : va_S A s.heap s.heap [] := va_S.rf
  have S : CallFix p m c cX10_readText 4 s (([.ref a_this] : List Value).toArray) wsX10_readText RX10 := ⟨hx, hb, hml, hown, hts⟩
  have hl := lv_entry ([.ref a_this]) (n := 4) (Nat.le_of_ble_eq_true rfl)
  rw [lg_entry_eq]
  generalize (lg_sl ([.ref a_this]) ++ List.replicate (4 - (lg_sl ([.ref a_this])).length) Slot.unset).toArray = ls at hl ⊢
  replace hl : lv_has ls 4 [(0, .ref a_this)] := hl
  generalize ([] : List Loc) = locs at hS ⊢
  delta kX10_readText at hf
  obtain ⟨H, hH⟩ : ∃ H, H = s.heap := ⟨_, rfl⟩
  have hS : va_S A s.heap H locs := by rw [hH]; exact hS
  have hP : va_P D vwCl [(a_this, .inr (7, [.ref a_now, .ref a_history, .int i_saved, .ref a_kept, .ref a_isKept, .ref a_text, .int i_length, .int i_next, .ref a_read, .ref a_uses, .ref a_entry, .ref a_passed, .ref a_draft, .ref a_label, .ref a_met, .ref a_bracket, .ref a_matrix])), (a_text, .inl (cyI, 160, .inl f_text)), (a_read, .inl (cyI, 34, .inl f_read)), (a_uses, .inl (cyI, 17, .inl f_uses))] H := by rw [hH]; exact hP
  suffices hgo : W p l e (headSpec wsX10_readText rmX10_readText).room s m (([.ref a_this] : List Value).toArray) below meth c H locs 0 0 (MQ below (kQi D cyI cyZ A [(a_this, .inr (7, [.ref a_now, .ref a_history, .int i_saved, .ref a_kept, .ref a_isKept, .ref a_text, .int i_length, .int o_next, .ref a_read, .ref a_uses, .ref a_entry, .ref a_passed, .ref a_draft, .ref a_label, .ref a_met, .ref a_bracket, .ref a_matrix])), (a_text, .inl (cyI, 160, .inl f_text)), (a_read, .inl (cyI, 34, .inl o_read)), (a_uses, .inl (cyI, 17, .inl o_uses))] r) (([.ref a_this] : List Value).toArray) s 0 0 A) (F0 m 0 ls []) by rw [hH] at hgo; exact hgo
  clear hH
  refine lv_aload_n hx hb dX10_readText_0 rfl (lv_at hl 0 rfl) ?_
  refine lv_iconst (v := 0) hx hb dX10_readText_1 (by decide) ?_
  refine va_put (D := D) (ci := 7) (v := .int 0) (ty := .int) (C := RX10) (T := TX10) (N := 17) hx hb hts qX10_readText_X10 tyX10 tyX10_ok nmX10 hown hK hP hD hS 0 rfl rfl 7 (Nat.le_of_ble_eq_true rfl) (hts (.fieldLink RX10 74 "KnotDiagramModel" "next" "I") qX10_readText_0) (fun _ h9 => h9) rfl (by decide +kernel) rfl rfl (Nat.le_of_ble_eq_true rfl) dX10_readText_2 (fun H locs hP hD hS => ?_)
  replace hP : va_P D vwCl [(a_this, .inr (7, [.ref a_now, .ref a_history, .int i_saved, .ref a_kept, .ref a_isKept, .ref a_text, .int i_length, .int 0, .ref a_read, .ref a_uses, .ref a_entry, .ref a_passed, .ref a_draft, .ref a_label, .ref a_met, .ref a_bracket, .ref a_matrix])), (a_text, .inl (cyI, 160, .inl f_text)), (a_read, .inl (cyI, 34, .inl f_read)), (a_uses, .inl (cyI, 17, .inl f_uses))] H := hP
  replace hD : va_D A [(a_this, .inr (7, [.ref a_now, .ref a_history, .int i_saved, .ref a_kept, .ref a_isKept, .ref a_text, .int i_length, .int 0, .ref a_read, .ref a_uses, .ref a_entry, .ref a_passed, .ref a_draft, .ref a_label, .ref a_met, .ref a_bracket, .ref a_matrix])), (a_text, .inl (cyI, 160, .inl f_text)), (a_read, .inl (cyI, 34, .inl f_read)), (a_uses, .inl (cyI, 17, .inl f_uses))] := hD
  refine lv_iconst (v := 0) hx hb dX10_readText_5 (by decide) ?_
  refine lv_istore_n (lv' := [(1, .int 0), (0, .ref a_this)]) hx hb dX10_readText_6 rfl hl (by decide) rfl (fun ls hl => ?_)
  have hL_1 : ∀ (n : Nat) (v1_1 : Int32) (f_read_1 : Nat → Int32) (H : Heap) (locs : List Loc) (ls : Array Slot), it2 (kX10_readText_L1 i_length f_text f_uses) n v1_1 f_read_1 = some (r, o_next, o_read, o_uses) → va_P D vwCl [(a_this, .inr (7, [.ref a_now, .ref a_history, .int i_saved, .ref a_kept, .ref a_isKept, .ref a_text, .int i_length, .int 0, .ref a_read, .ref a_uses, .ref a_entry, .ref a_passed, .ref a_draft, .ref a_label, .ref a_met, .ref a_bracket, .ref a_matrix])), (a_text, .inl (cyI, 160, .inl f_text)), (a_read, .inl (cyI, 34, .inl f_read_1)), (a_uses, .inl (cyI, 17, .inl f_uses))] H → va_D A [(a_this, .inr (7, [.ref a_now, .ref a_history, .int i_saved, .ref a_kept, .ref a_isKept, .ref a_text, .int i_length, .int 0, .ref a_read, .ref a_uses, .ref a_entry, .ref a_passed, .ref a_draft, .ref a_label, .ref a_met, .ref a_bracket, .ref a_matrix])), (a_text, .inl (cyI, 160, .inl f_text)), (a_read, .inl (cyI, 34, .inl f_read_1)), (a_uses, .inl (cyI, 17, .inl f_uses))] → va_S A s.heap H locs → lv_has ls 4 [(0, .ref a_this), (1, .int v1_1)] → W p l e (headSpec wsX10_readText rmX10_readText).room s m (([.ref a_this] : List Value).toArray) below meth c H locs 0 0 (MQ below (kQi D cyI cyZ A [(a_this, .inr (7, [.ref a_now, .ref a_history, .int i_saved, .ref a_kept, .ref a_isKept, .ref a_text, .int i_length, .int o_next, .ref a_read, .ref a_uses, .ref a_entry, .ref a_passed, .ref a_draft, .ref a_label, .ref a_met, .ref a_bracket, .ref a_matrix])), (a_text, .inl (cyI, 160, .inl f_text)), (a_read, .inl (cyI, 34, .inl o_read)), (a_uses, .inl (cyI, 17, .inl o_uses))] r) (([.ref a_this] : List Value).toArray) s 0 0 A) (F0 m 7 ls []) := by
    intro n_1
    induction n_1 with
    | zero =>
      intro _ _ _ _ _ hf
      exact (it2_z hf).elim
    | succ n_1 ih_1 =>
      intro v1_1 f_read_1 H locs ls hf hP hD hS hl
      replace hf := it2_s hf
      rw [kX10_readText_L1] at hf
      refine lv_iload_n hx hb dX10_readText_7 rfl (lv_at hl 1 rfl) ?_
      refine lv_bipush (v := 34) hx hb dX10_readText_8 (by decide) ?_
      refine lv_icmp_ge (tgt := 26) hx hb dX10_readText_10 (by decide) (fun c_14 => ?_) (fun c_14 => ?_)
      · replace hf := kt_p hf c_14
        refine lv_iconst (v := 0) hx hb dX10_readText_26 (by decide) ?_
        refine lv_istore_n (lv' := [(1, .int 0), (0, .ref a_this)]) hx hb dX10_readText_27 rfl hl (by decide) rfl (fun ls hl => ?_)
        have hL_2 : ∀ (n : Nat) (v1_2 : Int32) (f_uses_2 : Nat → Int32) (H : Heap) (locs : List Loc) (ls : Array Slot), it2 (kX10_readText_L2 i_length f_text f_read_1) n v1_2 f_uses_2 = some (r, o_next, o_read, o_uses) → va_P D vwCl [(a_this, .inr (7, [.ref a_now, .ref a_history, .int i_saved, .ref a_kept, .ref a_isKept, .ref a_text, .int i_length, .int 0, .ref a_read, .ref a_uses, .ref a_entry, .ref a_passed, .ref a_draft, .ref a_label, .ref a_met, .ref a_bracket, .ref a_matrix])), (a_text, .inl (cyI, 160, .inl f_text)), (a_read, .inl (cyI, 34, .inl f_read_1)), (a_uses, .inl (cyI, 17, .inl f_uses_2))] H → va_D A [(a_this, .inr (7, [.ref a_now, .ref a_history, .int i_saved, .ref a_kept, .ref a_isKept, .ref a_text, .int i_length, .int 0, .ref a_read, .ref a_uses, .ref a_entry, .ref a_passed, .ref a_draft, .ref a_label, .ref a_met, .ref a_bracket, .ref a_matrix])), (a_text, .inl (cyI, 160, .inl f_text)), (a_read, .inl (cyI, 34, .inl f_read_1)), (a_uses, .inl (cyI, 17, .inl f_uses_2))] → va_S A s.heap H locs → lv_has ls 4 [(0, .ref a_this), (1, .int v1_2)] → W p l e (headSpec wsX10_readText rmX10_readText).room s m (([.ref a_this] : List Value).toArray) below meth c H locs 0 0 (MQ below (kQi D cyI cyZ A [(a_this, .inr (7, [.ref a_now, .ref a_history, .int i_saved, .ref a_kept, .ref a_isKept, .ref a_text, .int i_length, .int o_next, .ref a_read, .ref a_uses, .ref a_entry, .ref a_passed, .ref a_draft, .ref a_label, .ref a_met, .ref a_bracket, .ref a_matrix])), (a_text, .inl (cyI, 160, .inl f_text)), (a_read, .inl (cyI, 34, .inl o_read)), (a_uses, .inl (cyI, 17, .inl o_uses))] r) (([.ref a_this] : List Value).toArray) s 0 0 A) (F0 m 28 ls []) := by
          intro n_2
          induction n_2 with
          | zero =>
            intro _ _ _ _ _ hf
            exact (it2_z hf).elim
          | succ n_2 ih_2 =>
            intro v1_2 f_uses_2 H locs ls hf hP hD hS hl
            replace hf := it2_s hf
            rw [kX10_readText_L2] at hf
            refine lv_iload_n hx hb dX10_readText_28 rfl (lv_at hl 1 rfl) ?_
            refine lv_bipush (v := 16) hx hb dX10_readText_29 (by decide) ?_
            refine lv_icmp_gt (tgt := 47) hx hb dX10_readText_31 (by decide) (fun c_12 => ?_) (fun c_12 => ?_)
            · replace hf := kt_p hf c_12
              refine lv_aload_n hx hb dX10_readText_47 rfl (lv_at hl 0 rfl) ?_
              obtain ⟨o_next_1, hc_1, hf⟩ := bnd1_s hf
              refine kcVv (As := []) (rest := []) (w2 := [(a_this, .inr (7, [.ref a_now, .ref a_history, .int i_saved, .ref a_kept, .ref a_isKept, .ref a_text, .int i_length, .int o_next_1, .ref a_read, .ref a_uses, .ref a_entry, .ref a_passed, .ref a_draft, .ref a_label, .ref a_met, .ref a_bracket, .ref a_matrix])), (a_text, .inl (cyI, 160, .inl f_text)), (a_read, .inl (cyI, 34, .inl f_read_1)), (a_uses, .inl (cyI, 17, .inl f_uses_2))]) S hK hP hD hS hA hN (mX10_skipSpaces l D cyI cyZ H.size a_this a_now a_history a_kept a_isKept a_text a_read a_uses a_entry a_passed a_draft a_label a_met a_bracket a_matrix i_saved i_length 0 f_text o_next_1 hc_1) (cwV 0 hts gX10_readText_X10_skipSpaces rfl rfl rfl (by decide +kernel) ⟨Nat.le_of_ble_eq_true rfl, Nat.le_of_ble_eq_true rfl⟩) 7 0 rfl rfl [0, 1] [2, 3] [2, 3, 0, 1] rfl rfl rfl rfl (by decide) rfl rfl hl.1 (Nat.le_of_ble_eq_true rfl) dX10_readText_48 ⟨Nat.le_of_ble_eq_true rfl, Nat.le_of_ble_eq_true rfl⟩ (fun H locs hP hD hS => ?_)
              refine lv_iconst (v := 0) hx hb dX10_readText_51 (by decide) ?_
              refine lv_istore_n (lv' := [(1, .int 0), (0, .ref a_this)]) hx hb dX10_readText_52 rfl hl (by decide) rfl (fun ls hl => ?_)
              have hL_3 : ∀ (n : Nat) (v1_3 : Int32) (i_next_3 : Int32) (f_read_3 : Nat → Int32) (f_uses_3 : Nat → Int32) (H : Heap) (locs : List Loc) (ls : Array Slot), it4 (kX10_readText_L3 i_length f_text) n v1_3 i_next_3 f_read_3 f_uses_3 = some (r, o_next, o_read, o_uses) → va_P D vwCl [(a_this, .inr (7, [.ref a_now, .ref a_history, .int i_saved, .ref a_kept, .ref a_isKept, .ref a_text, .int i_length, .int i_next_3, .ref a_read, .ref a_uses, .ref a_entry, .ref a_passed, .ref a_draft, .ref a_label, .ref a_met, .ref a_bracket, .ref a_matrix])), (a_text, .inl (cyI, 160, .inl f_text)), (a_read, .inl (cyI, 34, .inl f_read_3)), (a_uses, .inl (cyI, 17, .inl f_uses_3))] H → va_D A [(a_this, .inr (7, [.ref a_now, .ref a_history, .int i_saved, .ref a_kept, .ref a_isKept, .ref a_text, .int i_length, .int i_next_3, .ref a_read, .ref a_uses, .ref a_entry, .ref a_passed, .ref a_draft, .ref a_label, .ref a_met, .ref a_bracket, .ref a_matrix])), (a_text, .inl (cyI, 160, .inl f_text)), (a_read, .inl (cyI, 34, .inl f_read_3)), (a_uses, .inl (cyI, 17, .inl f_uses_3))] → va_S A s.heap H locs → lv_has ls 4 [(0, .ref a_this), (1, .int v1_3)] → W p l e (headSpec wsX10_readText rmX10_readText).room s m (([.ref a_this] : List Value).toArray) below meth c H locs 0 0 (MQ below (kQi D cyI cyZ A [(a_this, .inr (7, [.ref a_now, .ref a_history, .int i_saved, .ref a_kept, .ref a_isKept, .ref a_text, .int i_length, .int o_next, .ref a_read, .ref a_uses, .ref a_entry, .ref a_passed, .ref a_draft, .ref a_label, .ref a_met, .ref a_bracket, .ref a_matrix])), (a_text, .inl (cyI, 160, .inl f_text)), (a_read, .inl (cyI, 34, .inl o_read)), (a_uses, .inl (cyI, 17, .inl o_uses))] r) (([.ref a_this] : List Value).toArray) s 0 0 A) (F0 m 53 ls []) := by
                intro n_3
                induction n_3 with
                | zero =>
                  intro _ _ _ _ _ _ _ hf
                  exact (it4_z hf).elim
                | succ n_3 ih_3 =>
                  intro v1_3 i_next_3 f_read_3 f_uses_3 H locs ls hf hP hD hS hl
                  replace hf := it4_s hf
                  rw [kX10_readText_L3] at hf
                  refine lv_aload_n hx hb dX10_readText_53 rfl (lv_at hl 0 rfl) ?_
                  refine va_get (D := D) (ci := 7) (v := .int i_next_3) (C := RX10) (T := TX10) (N := 17) hx hb hts qX10_readText_X10 hown hK hP 0 rfl rfl 7 (Nat.le_of_ble_eq_true rfl) (hts (.fieldLink RX10 74 "KnotDiagramModel" "next" "I") qX10_readText_0) (fun _ h9 => h9) rfl dX10_readText_54 ?_
                  refine lv_aload_n hx hb dX10_readText_57 rfl (lv_at hl 0 rfl) ?_
                  refine va_get (D := D) (ci := 7) (v := .int i_length) (C := RX10) (T := TX10) (N := 17) hx hb hts qX10_readText_X10 hown hK hP 0 rfl rfl 6 (Nat.le_of_ble_eq_true rfl) (hts (.fieldLink RX10 69 "KnotDiagramModel" "length" "I") qX10_readText_1) (fun _ h9 => h9) rfl dX10_readText_58 ?_
                  refine lv_icmp_ge (tgt := 85) hx hb dX10_readText_61 (by decide) (fun c_10 => ?_) (fun c_10 => ?_)
                  · replace hf := kt_p hf c_10
                    refine lv_iload_n hx hb dX10_readText_85 rfl (lv_at hl 1 rfl) ?_
                    refine lv_istore_n (lv' := [(2, .int v1_3), (0, .ref a_this), (1, .int v1_3)]) hx hb dX10_readText_86 rfl hl (by decide) rfl (fun ls hl => ?_)
                    refine lv_iconst (v := 1) hx hb dX10_readText_87 (by decide) ?_
                    refine lv_istore_n (lv' := [(3, .int 1), (2, .int v1_3), (0, .ref a_this), (1, .int v1_3)]) hx hb dX10_readText_88 rfl hl (by decide) rfl (fun ls hl => ?_)
                    have hL_4 : ∀ (n : Nat) (v2_4 : Int32) (v3_4 : Int32) (H : Heap) (locs : List Loc) (ls : Array Slot), it2 (kX10_readText_L4 i_length i_next_3 f_read_3 f_uses_3) n v2_4 v3_4 = some (r, o_next, o_read, o_uses) → va_P D vwCl [(a_this, .inr (7, [.ref a_now, .ref a_history, .int i_saved, .ref a_kept, .ref a_isKept, .ref a_text, .int i_length, .int i_next_3, .ref a_read, .ref a_uses, .ref a_entry, .ref a_passed, .ref a_draft, .ref a_label, .ref a_met, .ref a_bracket, .ref a_matrix])), (a_text, .inl (cyI, 160, .inl f_text)), (a_read, .inl (cyI, 34, .inl f_read_3)), (a_uses, .inl (cyI, 17, .inl f_uses_3))] H → va_D A [(a_this, .inr (7, [.ref a_now, .ref a_history, .int i_saved, .ref a_kept, .ref a_isKept, .ref a_text, .int i_length, .int i_next_3, .ref a_read, .ref a_uses, .ref a_entry, .ref a_passed, .ref a_draft, .ref a_label, .ref a_met, .ref a_bracket, .ref a_matrix])), (a_text, .inl (cyI, 160, .inl f_text)), (a_read, .inl (cyI, 34, .inl f_read_3)), (a_uses, .inl (cyI, 17, .inl f_uses_3))] → va_S A s.heap H locs → lv_has ls 4 [(0, .ref a_this), (2, .int v2_4), (3, .int v3_4)] → W p l e (headSpec wsX10_readText rmX10_readText).room s m (([.ref a_this] : List Value).toArray) below meth c H locs 0 0 (MQ below (kQi D cyI cyZ A [(a_this, .inr (7, [.ref a_now, .ref a_history, .int i_saved, .ref a_kept, .ref a_isKept, .ref a_text, .int i_length, .int o_next, .ref a_read, .ref a_uses, .ref a_entry, .ref a_passed, .ref a_draft, .ref a_label, .ref a_met, .ref a_bracket, .ref a_matrix])), (a_text, .inl (cyI, 160, .inl f_text)), (a_read, .inl (cyI, 34, .inl o_read)), (a_uses, .inl (cyI, 17, .inl o_uses))] r) (([.ref a_this] : List Value).toArray) s 0 0 A) (F0 m 89 ls []) := by
                      intro n_4
                      induction n_4 with
                      | zero =>
                        intro _ _ _ _ _ hf
                        exact (it2_z hf).elim
                      | succ n_4 ih_4 =>
                        intro v2_4 v3_4 H locs ls hf hP hD hS hl
                        replace hf := it2_s hf
                        rw [kX10_readText_L4] at hf
                        refine lv_iload_n hx hb dX10_readText_89 rfl (lv_at hl 2 rfl) ?_
                        refine lv_bipush (v := 16) hx hb dX10_readText_90 (by decide) ?_
                        refine lv_icmp_gt (tgt := 121) hx hb dX10_readText_92 (by decide) (fun c_6 => ?_) (fun c_6 => ?_)
                        · replace hf := kt_p hf c_6
                          refine lv_iload_n hx hb dX10_readText_121 rfl (lv_at hl 1 rfl) ?_
                          refine lv_if_eq (tgt := 129) hx hb dX10_readText_122 (by decide) (fun c_2 => ?_) (fun c_2 => ?_)
                          · replace hf := kt_p hf c_2
                            refine lv_aload_n hx hb dX10_readText_129 rfl (lv_at hl 0 rfl) ?_
                            refine va_get (D := D) (ci := 7) (v := .int i_length) (C := RX10) (T := TX10) (N := 17) hx hb hts qX10_readText_X10 hown hK hP 0 rfl rfl 6 (Nat.le_of_ble_eq_true rfl) (hts (.fieldLink RX10 69 "KnotDiagramModel" "length" "I") qX10_readText_1) (fun _ h9 => h9) rfl dX10_readText_130 ?_
                            obtain ⟨rfl, rfl, rfl, rfl⟩ := some4_s hf
                            exact kRi hx hb hr hlocks hP hK hD hS rfl dX10_readText_133
                          · replace hf := kt_n hf c_2
                            refine lv_iconst (v := (-1)) hx hb dX10_readText_125 (by decide) ?_
                            refine lv_goto (tgt := 133) hx hb dX10_readText_126 (by decide) ?_
                            obtain ⟨rfl, rfl, rfl, rfl⟩ := some4_s hf
                            exact kRi hx hb hr hlocks hP hK hD hS rfl dX10_readText_133
                        · replace hf := kt_n hf c_6
                          refine lv_iload_n hx hb dX10_readText_95 rfl (lv_at hl 1 rfl) ?_
                          have hJ_5 : ∀  (H : Heap) (locs : List Loc) (ls : Array Slot), kX10_readText_J5 (it2 (kX10_readText_L4 i_length i_next_3 f_read_3 f_uses_3) n_4) v3_4  = some (r, o_next, o_read, o_uses) → va_P D vwCl [(a_this, .inr (7, [.ref a_now, .ref a_history, .int i_saved, .ref a_kept, .ref a_isKept, .ref a_text, .int i_length, .int i_next_3, .ref a_read, .ref a_uses, .ref a_entry, .ref a_passed, .ref a_draft, .ref a_label, .ref a_met, .ref a_bracket, .ref a_matrix])), (a_text, .inl (cyI, 160, .inl f_text)), (a_read, .inl (cyI, 34, .inl f_read_3)), (a_uses, .inl (cyI, 17, .inl f_uses_3))] H → va_D A [(a_this, .inr (7, [.ref a_now, .ref a_history, .int i_saved, .ref a_kept, .ref a_isKept, .ref a_text, .int i_length, .int i_next_3, .ref a_read, .ref a_uses, .ref a_entry, .ref a_passed, .ref a_draft, .ref a_label, .ref a_met, .ref a_bracket, .ref a_matrix])), (a_text, .inl (cyI, 160, .inl f_text)), (a_read, .inl (cyI, 34, .inl f_read_3)), (a_uses, .inl (cyI, 17, .inl f_uses_3))] → va_S A s.heap H locs → lv_has ls 4 [(0, .ref a_this), (3, .int v3_4)] → W p l e (headSpec wsX10_readText rmX10_readText).room s m (([.ref a_this] : List Value).toArray) below meth c H locs 0 0 (MQ below (kQi D cyI cyZ A [(a_this, .inr (7, [.ref a_now, .ref a_history, .int i_saved, .ref a_kept, .ref a_isKept, .ref a_text, .int i_length, .int o_next, .ref a_read, .ref a_uses, .ref a_entry, .ref a_passed, .ref a_draft, .ref a_label, .ref a_met, .ref a_bracket, .ref a_matrix])), (a_text, .inl (cyI, 160, .inl f_text)), (a_read, .inl (cyI, 34, .inl o_read)), (a_uses, .inl (cyI, 17, .inl o_uses))] r) (([.ref a_this] : List Value).toArray) s 0 0 A) (F0 m 113 ls []) := by
                            intro  H locs ls hf hP hD hS hl
                            delta kX10_readText_J5 at hf
                            refine lv_iconst (v := 0) hx hb dX10_readText_113 (by decide) ?_
                            refine lv_istore_n (lv' := [(2, .int 0), (0, .ref a_this), (3, .int v3_4)]) hx hb dX10_readText_114 rfl hl (by decide) rfl (fun ls hl => ?_)
                            refine lv_iinc (v := (v3_4 + 1)) (lv' := [(3, .int (v3_4 + 1)), (2, .int 0), (0, .ref a_this)]) hx hb dX10_readText_115 hl (k := 2) rfl rfl (by decide) rfl (fun ls hl => ?_)
                            refine lv_goto (tgt := 89) hx hb dX10_readText_118 (by decide) ?_
                            exact ih_4 0 (v3_4 + 1) H locs ls hf hP hD hS (lv_sub hl [2, 1, 0] rfl)
                          refine lv_if_eq (tgt := 113) hx hb dX10_readText_96 (by decide) (fun c_5 => ?_) (fun c_5 => ?_)
                          · replace hf := kt_p hf c_5
                            exact hJ_5 H locs ls hf hP hD hS (lv_sub hl [0, 2] rfl)
                          · replace hf := kt_n hf c_5
                            refine lv_aload_n hx hb dX10_readText_99 rfl (lv_at hl 0 rfl) ?_
                            refine va_get (D := D) (ci := 7) (v := .ref a_uses) (C := RX10) (T := TX10) (N := 17) hx hb hts qX10_readText_X10 hown hK hP 0 rfl rfl 9 (Nat.le_of_ble_eq_true rfl) (hts (.fieldLink RX10 29 "KnotDiagramModel" "uses" "[I") qX10_readText_2) (fun _ h9 => h9) rfl dX10_readText_100 ?_
                            refine lv_iload_n hx hb dX10_readText_103 rfl (lv_at hl 2 rfl) ?_
                            obtain ⟨hi_3, hf⟩ := ck_s hf
                            refine va_iald hx hb hK hP 3 0 rfl rfl hi_3 dX10_readText_104 ?_
                            refine lv_iconst (v := 1) hx hb dX10_readText_105 (by decide) ?_
                            refine lv_icmp_eq (tgt := 113) hx hb dX10_readText_106 (by decide) (fun c_4 => ?_) (fun c_4 => ?_)
                            · replace hf := kt_p hf c_4
                              exact hJ_5 H locs ls hf hP hD hS (lv_sub hl [0, 2] rfl)
                            · replace hf := kt_n hf c_4
                              refine lv_iconst (v := 1) hx hb dX10_readText_109 (by decide) ?_
                              refine lv_goto (tgt := 114) hx hb dX10_readText_110 (by decide) ?_
                              refine lv_istore_n (lv' := [(2, .int 1), (0, .ref a_this), (3, .int v3_4)]) hx hb dX10_readText_114 rfl hl (by decide) rfl (fun ls hl => ?_)
                              refine lv_iinc (v := (v3_4 + 1)) (lv' := [(3, .int (v3_4 + 1)), (2, .int 1), (0, .ref a_this)]) hx hb dX10_readText_115 hl (k := 2) rfl rfl (by decide) rfl (fun ls hl => ?_)
                              refine lv_goto (tgt := 89) hx hb dX10_readText_118 (by decide) ?_
                              exact ih_4 1 (v3_4 + 1) H locs ls hf hP hD hS (lv_sub hl [2, 1, 0] rfl)
                    exact hL_4 400 v1_3 1 H locs ls hf hP hD hS (lv_sub hl [2, 1, 0] rfl)
                  · replace hf := kt_n hf c_10
                    refine lv_aload_n hx hb dX10_readText_64 rfl (lv_at hl 0 rfl) ?_
                    obtain ⟨r_7, o_next_7, o_read_7, o_uses_7, hc_7, hf⟩ := bnd4_s hf
                    refine kcVi (As := []) (rest := []) (w2 := [(a_this, .inr (7, [.ref a_now, .ref a_history, .int i_saved, .ref a_kept, .ref a_isKept, .ref a_text, .int i_length, .int o_next_7, .ref a_read, .ref a_uses, .ref a_entry, .ref a_passed, .ref a_draft, .ref a_label, .ref a_met, .ref a_bracket, .ref a_matrix])), (a_text, .inl (cyI, 160, .inl f_text)), (a_read, .inl (cyI, 34, .inl o_read_7)), (a_uses, .inl (cyI, 17, .inl o_uses_7))]) S hK hP hD hS hA hN (mX10_readStatement l D cyI cyZ H.size a_this a_now a_history a_kept a_isKept a_text a_read a_uses a_entry a_passed a_draft a_label a_met a_bracket a_matrix i_saved i_length i_next_3 f_text f_read_3 f_uses_3 r_7 o_next_7 o_read_7 o_uses_7 hc_7) (cwV 0 hts gX10_readText_X10_readStatement rfl rfl rfl (by decide +kernel) ⟨Nat.le_of_ble_eq_true rfl, Nat.le_of_ble_eq_true rfl⟩) 7 0 rfl rfl [0, 1, 2, 3] [] [0, 1, 2, 3] rfl rfl rfl rfl (by decide) rfl rfl hl.1 (Nat.le_of_ble_eq_true rfl) dX10_readText_65 ⟨Nat.le_of_ble_eq_true rfl, Nat.le_of_ble_eq_true rfl⟩ (fun H locs hP hD hS => ?_)
                    refine lv_if_ne (tgt := 76) hx hb dX10_readText_68 (by decide) (fun c_9 => ?_) (fun c_9 => ?_)
                    · replace hf := kt_n hf c_9
                      refine lv_iconst (v := 1) hx hb dX10_readText_76 (by decide) ?_
                      refine lv_istore_n (lv' := [(1, .int 1), (0, .ref a_this)]) hx hb dX10_readText_77 rfl hl (by decide) rfl (fun ls hl => ?_)
                      refine lv_aload_n hx hb dX10_readText_78 rfl (lv_at hl 1 rfl) ?_
                      obtain ⟨o_next_8, hc_8, hf⟩ := bnd1_s hf
                      refine kcVv (As := []) (rest := []) (w2 := [(a_this, .inr (7, [.ref a_now, .ref a_history, .int i_saved, .ref a_kept, .ref a_isKept, .ref a_text, .int i_length, .int o_next_8, .ref a_read, .ref a_uses, .ref a_entry, .ref a_passed, .ref a_draft, .ref a_label, .ref a_met, .ref a_bracket, .ref a_matrix])), (a_text, .inl (cyI, 160, .inl f_text)), (a_read, .inl (cyI, 34, .inl o_read_7)), (a_uses, .inl (cyI, 17, .inl o_uses_7))]) S hK hP hD hS hA hN (mX10_skipSpaces l D cyI cyZ H.size a_this a_now a_history a_kept a_isKept a_text a_read a_uses a_entry a_passed a_draft a_label a_met a_bracket a_matrix i_saved i_length o_next_7 f_text o_next_8 hc_8) (cwV 0 hts gX10_readText_X10_skipSpaces rfl rfl rfl (by decide +kernel) ⟨Nat.le_of_ble_eq_true rfl, Nat.le_of_ble_eq_true rfl⟩) 7 0 rfl rfl [0, 1] [2, 3] [2, 3, 0, 1] rfl rfl rfl rfl (by decide) rfl rfl hl.1 (Nat.le_of_ble_eq_true rfl) dX10_readText_79 ⟨Nat.le_of_ble_eq_true rfl, Nat.le_of_ble_eq_true rfl⟩ (fun H locs hP hD hS => ?_)
                      refine lv_goto (tgt := 53) hx hb dX10_readText_82 (by decide) ?_
                      exact ih_3 1 o_next_8 o_read_7 o_uses_7 H locs ls hf hP hD hS (lv_sub hl [1, 0] rfl)
                    · replace hf := kt_p hf c_9
                      refine lv_aload_n hx hb dX10_readText_71 rfl (lv_at hl 0 rfl) ?_
                      refine va_get (D := D) (ci := 7) (v := .int o_next_7) (C := RX10) (T := TX10) (N := 17) hx hb hts qX10_readText_X10 hown hK hP 0 rfl rfl 7 (Nat.le_of_ble_eq_true rfl) (hts (.fieldLink RX10 74 "KnotDiagramModel" "next" "I") qX10_readText_0) (fun _ h9 => h9) rfl dX10_readText_72 ?_
                      obtain ⟨rfl, rfl, rfl, rfl⟩ := some4_s hf
                      exact kRi hx hb hr hlocks hP hK hD hS rfl dX10_readText_75
              exact hL_3 400 0 o_next_1 f_read_1 f_uses_2 H locs ls hf hP hD hS (lv_sub hl [1, 0] rfl)
            · replace hf := kt_n hf c_12
              refine lv_aload_n hx hb dX10_readText_34 rfl (lv_at hl 0 rfl) ?_
              refine va_get (D := D) (ci := 7) (v := .ref a_uses) (C := RX10) (T := TX10) (N := 17) hx hb hts qX10_readText_X10 hown hK hP 0 rfl rfl 9 (Nat.le_of_ble_eq_true rfl) (hts (.fieldLink RX10 29 "KnotDiagramModel" "uses" "[I") qX10_readText_2) (fun _ h9 => h9) rfl dX10_readText_35 ?_
              refine lv_iload_n hx hb dX10_readText_38 rfl (lv_at hl 1 rfl) ?_
              refine lv_iconst (v := 0) hx hb dX10_readText_39 (by decide) ?_
              obtain ⟨hi_11, hf⟩ := ck_s hf
              refine va_iast hx hb hK hP hD hS 3 0 rfl rfl hi_11 dX10_readText_40 (fun H locs hP hD hS => ?_)
              replace hP : va_P D vwCl [(a_this, .inr (7, [.ref a_now, .ref a_history, .int i_saved, .ref a_kept, .ref a_isKept, .ref a_text, .int i_length, .int 0, .ref a_read, .ref a_uses, .ref a_entry, .ref a_passed, .ref a_draft, .ref a_label, .ref a_met, .ref a_bracket, .ref a_matrix])), (a_text, .inl (cyI, 160, .inl f_text)), (a_read, .inl (cyI, 34, .inl f_read_1)), (a_uses, .inl (cyI, 17, .inl (upd f_uses_2 v1_2.toNatClampNeg 0)))] H := hP
              replace hD : va_D A [(a_this, .inr (7, [.ref a_now, .ref a_history, .int i_saved, .ref a_kept, .ref a_isKept, .ref a_text, .int i_length, .int 0, .ref a_read, .ref a_uses, .ref a_entry, .ref a_passed, .ref a_draft, .ref a_label, .ref a_met, .ref a_bracket, .ref a_matrix])), (a_text, .inl (cyI, 160, .inl f_text)), (a_read, .inl (cyI, 34, .inl f_read_1)), (a_uses, .inl (cyI, 17, .inl (upd f_uses_2 v1_2.toNatClampNeg 0)))] := hD
              refine lv_iinc (v := (v1_2 + 1)) (lv' := [(1, .int (v1_2 + 1)), (0, .ref a_this)]) hx hb dX10_readText_41 hl (k := 1) rfl rfl (by decide) rfl (fun ls hl => ?_)
              refine lv_goto (tgt := 28) hx hb dX10_readText_44 (by decide) ?_
              exact ih_2 (v1_2 + 1) (upd f_uses_2 v1_2.toNatClampNeg 0) H locs ls hf hP hD hS (lv_sub hl [1, 0] rfl)
        exact hL_2 400 0 f_uses H locs ls hf hP hD hS (lv_sub hl [1, 0] rfl)
      · replace hf := kt_n hf c_14
        refine lv_aload_n hx hb dX10_readText_13 rfl (lv_at hl 0 rfl) ?_
        refine va_get (D := D) (ci := 7) (v := .ref a_read) (C := RX10) (T := TX10) (N := 17) hx hb hts qX10_readText_X10 hown hK hP 0 rfl rfl 8 (Nat.le_of_ble_eq_true rfl) (hts (.fieldLink RX10 26 "KnotDiagramModel" "read" "[I") qX10_readText_3) (fun _ h9 => h9) rfl dX10_readText_14 ?_
        refine lv_iload_n hx hb dX10_readText_17 rfl (lv_at hl 1 rfl) ?_
        refine lv_iconst (v := 0) hx hb dX10_readText_18 (by decide) ?_
        obtain ⟨hi_13, hf⟩ := ck_s hf
        refine va_iast hx hb hK hP hD hS 2 0 rfl rfl hi_13 dX10_readText_19 (fun H locs hP hD hS => ?_)
        replace hP : va_P D vwCl [(a_this, .inr (7, [.ref a_now, .ref a_history, .int i_saved, .ref a_kept, .ref a_isKept, .ref a_text, .int i_length, .int 0, .ref a_read, .ref a_uses, .ref a_entry, .ref a_passed, .ref a_draft, .ref a_label, .ref a_met, .ref a_bracket, .ref a_matrix])), (a_text, .inl (cyI, 160, .inl f_text)), (a_read, .inl (cyI, 34, .inl (upd f_read_1 v1_1.toNatClampNeg 0))), (a_uses, .inl (cyI, 17, .inl f_uses))] H := hP
        replace hD : va_D A [(a_this, .inr (7, [.ref a_now, .ref a_history, .int i_saved, .ref a_kept, .ref a_isKept, .ref a_text, .int i_length, .int 0, .ref a_read, .ref a_uses, .ref a_entry, .ref a_passed, .ref a_draft, .ref a_label, .ref a_met, .ref a_bracket, .ref a_matrix])), (a_text, .inl (cyI, 160, .inl f_text)), (a_read, .inl (cyI, 34, .inl (upd f_read_1 v1_1.toNatClampNeg 0))), (a_uses, .inl (cyI, 17, .inl f_uses))] := hD
        refine lv_iinc (v := (v1_1 + 1)) (lv' := [(1, .int (v1_1 + 1)), (0, .ref a_this)]) hx hb dX10_readText_20 hl (k := 1) rfl rfl (by decide) rfl (fun ls hl => ?_)
        refine lv_goto (tgt := 7) hx hb dX10_readText_23 (by decide) ?_
        exact ih_1 (v1_1 + 1) (upd f_read_1 v1_1.toNatClampNeg 0) H locs ls hf hP hD hS (lv_sub hl [1, 0] rfl)
  exact hL_1 400 0 f_read H locs ls hf hP hD hS (lv_sub hl [1, 0] rfl)
def kX10_remember_L2 (i_saved_1 : Int32) (f_now : Nat → Int32) (K_2 : Int32 → (Nat → Int32) → Option (Int32 × (Nat → Int32))) (v1_2 : Int32) (f_history_2 : Nat → Int32) : Option (Int32 × (Nat → Int32)) :=
  if 34 ≤ v1_2 then some ((i_saved_1 + 1), f_history_2) else ck v1_2 34 (ck ((34 * i_saved_1) + v1_2) 272 (K_2 (v1_2 + 1) (upd f_history_2 ((34 * i_saved_1) + v1_2).toNatClampNeg (f_now v1_2.toNatClampNeg))))
def kX10_remember_J1 (f_now : Nat → Int32) (i_saved_1 : Int32) (f_history_1 : Nat → Int32) : Option (Int32 × (Nat → Int32)) :=
  it2 (kX10_remember_L2 i_saved_1 f_now) 400 0 f_history_1
def kX10_remember_L3 (f_now : Nat → Int32) (i_saved : Int32) (K_3 : Int32 → (Nat → Int32) → Option (Int32 × (Nat → Int32))) (v1_3 : Int32) (f_history_3 : Nat → Int32) : Option (Int32 × (Nat → Int32)) :=
  if 238 ≤ v1_3 then kX10_remember_J1 f_now (i_saved - 1) f_history_3 else ck (v1_3 + 34) 272 (ck v1_3 272 (K_3 (v1_3 + 1) (upd f_history_3 v1_3.toNatClampNeg (f_history_3 (v1_3 + 34).toNatClampNeg))))
def kX10_remember (i_saved : Int32) (f_now : Nat → Int32) (f_history : Nat → Int32) : Option (Int32 × (Nat → Int32)) :=
  if i_saved = 8 then it2 (kX10_remember_L3 f_now i_saved) 400 0 f_history else kX10_remember_J1 f_now i_saved f_history
def rmX10_remember : Room := { frames := 0, cells := 0, slots := 0, locals := 0 }
theorem qX10_remember_0 : (.fieldLink RX10 94 "KnotDiagramModel" "saved" "I" : Cond) ∈ wsX10_remember := by decide +kernel
theorem qX10_remember_1 : (.fieldLink RX10 13 "KnotDiagramModel" "history" "[I" : Cond) ∈ wsX10_remember := by decide +kernel
theorem qX10_remember_2 : (.fieldLink RX10 7 "KnotDiagramModel" "now" "[I" : Cond) ∈ wsX10_remember := by decide +kernel
theorem qX10_remember_X10 : ∀ w ∈ wsX100, w ∈ wsX10_remember := by decide +kernel
set_option maxHeartbeats 4000000 in
set_option maxRecDepth 100000 in
theorem mX10_remember (l : Launch) (D : va_G) (cyI cyZ : ClassId) (sz : Nat) (a_this a_now a_history a_kept a_isKept a_text a_read a_uses a_entry a_passed a_draft a_label a_met a_bracket a_matrix : Nat) (i_saved : Int32) (i_length : Int32) (i_next : Int32) (f_now : Nat → Int32) (f_history : Nat → Int32) (o_saved : Int32) (o_history : Nat → Int32) (hf : kX10_remember i_saved f_now f_history = some (o_saved, o_history)) : Met l yX10_remember wsX10_remember rmX10_remember (kPre D cyI cyZ [.ref a_this] [(a_this, .inr (7, [.ref a_now, .ref a_history, .int i_saved, .ref a_kept, .ref a_isKept, .ref a_text, .int i_length, .int i_next, .ref a_read, .ref a_uses, .ref a_entry, .ref a_passed, .ref a_draft, .ref a_label, .ref a_met, .ref a_bracket, .ref a_matrix])), (a_now, .inl (cyI, 34, .inl f_now)), (a_history, .inl (cyI, 272, .inl f_history))] sz) (kQv D cyI cyZ (va_A [(a_this, .inr (7, [.ref a_now, .ref a_history, .int i_saved, .ref a_kept, .ref a_isKept, .ref a_text, .int i_length, .int i_next, .ref a_read, .ref a_uses, .ref a_entry, .ref a_passed, .ref a_draft, .ref a_label, .ref a_met, .ref a_bracket, .ref a_matrix])), (a_now, .inl (cyI, 34, .inl f_now)), (a_history, .inl (cyI, 272, .inl f_history))] sz) [(a_this, .inr (7, [.ref a_now, .ref a_history, .int o_saved, .ref a_kept, .ref a_isKept, .ref a_text, .int i_length, .int i_next, .ref a_read, .ref a_uses, .ref a_entry, .ref a_passed, .ref a_draft, .ref a_label, .ref a_met, .ref a_bracket, .ref a_matrix])), (a_now, .inl (cyI, 34, .inl f_now)), (a_history, .inl (cyI, 272, .inl o_history))]) 0 0 (va_A [(a_this, .inr (7, [.ref a_now, .ref a_history, .int i_saved, .ref a_kept, .ref a_isKept, .ref a_text, .int i_length, .int i_next, .ref a_read, .ref a_uses, .ref a_entry, .ref a_passed, .ref a_draft, .ref a_label, .ref a_met, .ref a_bracket, .ref a_matrix])), (a_now, .inl (cyI, 34, .inl f_now)), (a_history, .inl (cyI, 272, .inl f_history))] sz) := by
  refine Met.ofW (cc := cX10_remember) (maxL := 2) (ret := none) (by decide) rfl ?_
  intro p e s m args below meth c s₁ B hml hv
  obtain ⟨rfl, hsz, hP, hK, hD0, hN⟩ := hv
  have hx := B.exec
  have hb := B.bytes
  have hr := B.returns
  have hts := atoms_spec (ws := wsX10_remember) B.pre
  have hown : s.vm.findClass RX10 = some m.cls := findClass_of_methodNamed B.named
  have hlocks := B.notSynchronized
  subst hsz
  have hD := hD0.self (sz := s.heap.size)
  generalize hAe : va_A [(a_this, .inr (7, [.ref a_now, .ref a_history, .int i_saved, .ref a_kept, .ref a_isKept, .ref a_text, .int i_length, .int i_next, .ref a_read, .ref a_uses, .ref a_entry, .ref a_passed, .ref a_draft, .ref a_label, .ref a_met, .ref a_bracket, .ref a_matrix])), (a_now, .inl (cyI, 34, .inl f_now)), (a_history, .inl (cyI, 272, .inl f_history))] s.heap.size = A at hD ⊢
  have hA : ∀ q : Nat, s.heap.size ≤ q → A q := fun q h => by rw [← hAe]; exact Or.inr h
  clear hAe hD0
  have hS : va_S A s.heap s.heap [] := va_S.rf
  have S : CallFix p m c cX10_remember 2 s (([.ref a_this] : List Value).toArray) wsX10_remember RX10 := ⟨hx, hb, hml, hown, hts⟩
  have hl := lv_entry ([.ref a_this]) (n := 2) (Nat.le_of_ble_eq_true rfl)
  rw [lg_entry_eq]
  generalize (lg_sl ([.ref a_this]) ++ List.replicate (2 - (lg_sl ([.ref a_this])).length) Slot.unset).toArray = ls at hl ⊢
  replace hl : lv_has ls 2 [(0, .ref a_this)] := hl
  generalize ([] : List Loc) = locs at hS ⊢
  delta kX10_remember at hf
  obtain ⟨H, hH⟩ : ∃ H, H = s.heap := ⟨_, rfl⟩
  have hS : va_S A s.heap H locs := by rw [hH]; exact hS
  have hP : va_P D vwCl [(a_this, .inr (7, [.ref a_now, .ref a_history, .int i_saved, .ref a_kept, .ref a_isKept, .ref a_text, .int i_length, .int i_next, .ref a_read, .ref a_uses, .ref a_entry, .ref a_passed, .ref a_draft, .ref a_label, .ref a_met, .ref a_bracket, .ref a_matrix])), (a_now, .inl (cyI, 34, .inl f_now)), (a_history, .inl (cyI, 272, .inl f_history))] H := by rw [hH]; exact hP
  suffices hgo : W p l e (headSpec wsX10_remember rmX10_remember).room s m (([.ref a_this] : List Value).toArray) below meth c H locs 0 0 (MQ below (kQv D cyI cyZ A [(a_this, .inr (7, [.ref a_now, .ref a_history, .int o_saved, .ref a_kept, .ref a_isKept, .ref a_text, .int i_length, .int i_next, .ref a_read, .ref a_uses, .ref a_entry, .ref a_passed, .ref a_draft, .ref a_label, .ref a_met, .ref a_bracket, .ref a_matrix])), (a_now, .inl (cyI, 34, .inl f_now)), (a_history, .inl (cyI, 272, .inl o_history))]) (([.ref a_this] : List Value).toArray) s 0 0 A) (F0 m 0 ls []) by rw [hH] at hgo; exact hgo
  clear hH
  refine lv_aload_n hx hb dX10_remember_0 rfl (lv_at hl 0 rfl) ?_
  refine va_get (D := D) (ci := 7) (v := .int i_saved) (C := RX10) (T := TX10) (N := 17) hx hb hts qX10_remember_X10 hown hK hP 0 rfl rfl 2 (Nat.le_of_ble_eq_true rfl) (hts (.fieldLink RX10 94 "KnotDiagramModel" "saved" "I") qX10_remember_0) (fun _ h9 => h9) rfl dX10_remember_1 ?_
  refine lv_bipush (v := 8) hx hb dX10_remember_4 (by decide) ?_
  have hJ_1 : ∀ (i_saved_1 : Int32) (f_history_1 : Nat → Int32) (H : Heap) (locs : List Loc) (ls : Array Slot), kX10_remember_J1 f_now i_saved_1 f_history_1 = some (o_saved, o_history) → va_P D vwCl [(a_this, .inr (7, [.ref a_now, .ref a_history, .int i_saved_1, .ref a_kept, .ref a_isKept, .ref a_text, .int i_length, .int i_next, .ref a_read, .ref a_uses, .ref a_entry, .ref a_passed, .ref a_draft, .ref a_label, .ref a_met, .ref a_bracket, .ref a_matrix])), (a_now, .inl (cyI, 34, .inl f_now)), (a_history, .inl (cyI, 272, .inl f_history_1))] H → va_D A [(a_this, .inr (7, [.ref a_now, .ref a_history, .int i_saved_1, .ref a_kept, .ref a_isKept, .ref a_text, .int i_length, .int i_next, .ref a_read, .ref a_uses, .ref a_entry, .ref a_passed, .ref a_draft, .ref a_label, .ref a_met, .ref a_bracket, .ref a_matrix])), (a_now, .inl (cyI, 34, .inl f_now)), (a_history, .inl (cyI, 272, .inl f_history_1))] → va_S A s.heap H locs → lv_has ls 2 [(0, .ref a_this)] → W p l e (headSpec wsX10_remember rmX10_remember).room s m (([.ref a_this] : List Value).toArray) below meth c H locs 0 0 (MQ below (kQv D cyI cyZ A [(a_this, .inr (7, [.ref a_now, .ref a_history, .int o_saved, .ref a_kept, .ref a_isKept, .ref a_text, .int i_length, .int i_next, .ref a_read, .ref a_uses, .ref a_entry, .ref a_passed, .ref a_draft, .ref a_label, .ref a_met, .ref a_bracket, .ref a_matrix])), (a_now, .inl (cyI, 34, .inl f_now)), (a_history, .inl (cyI, 272, .inl o_history))]) (([.ref a_this] : List Value).toArray) s 0 0 A) (F0 m 49 ls []) := by
    intro i_saved_1 f_history_1 H locs ls hf hP hD hS hl
    delta kX10_remember_J1 at hf
    refine lv_iconst (v := 0) hx hb dX10_remember_49 (by decide) ?_
    refine lv_istore_n (lv' := [(1, .int 0), (0, .ref a_this)]) hx hb dX10_remember_50 rfl hl (by decide) rfl (fun ls hl => ?_)
    have hL_2 : ∀ (n : Nat) (v1_2 : Int32) (f_history_2 : Nat → Int32) (H : Heap) (locs : List Loc) (ls : Array Slot), it2 (kX10_remember_L2 i_saved_1 f_now) n v1_2 f_history_2 = some (o_saved, o_history) → va_P D vwCl [(a_this, .inr (7, [.ref a_now, .ref a_history, .int i_saved_1, .ref a_kept, .ref a_isKept, .ref a_text, .int i_length, .int i_next, .ref a_read, .ref a_uses, .ref a_entry, .ref a_passed, .ref a_draft, .ref a_label, .ref a_met, .ref a_bracket, .ref a_matrix])), (a_now, .inl (cyI, 34, .inl f_now)), (a_history, .inl (cyI, 272, .inl f_history_2))] H → va_D A [(a_this, .inr (7, [.ref a_now, .ref a_history, .int i_saved_1, .ref a_kept, .ref a_isKept, .ref a_text, .int i_length, .int i_next, .ref a_read, .ref a_uses, .ref a_entry, .ref a_passed, .ref a_draft, .ref a_label, .ref a_met, .ref a_bracket, .ref a_matrix])), (a_now, .inl (cyI, 34, .inl f_now)), (a_history, .inl (cyI, 272, .inl f_history_2))] → va_S A s.heap H locs → lv_has ls 2 [(0, .ref a_this), (1, .int v1_2)] → W p l e (headSpec wsX10_remember rmX10_remember).room s m (([.ref a_this] : List Value).toArray) below meth c H locs 0 0 (MQ below (kQv D cyI cyZ A [(a_this, .inr (7, [.ref a_now, .ref a_history, .int o_saved, .ref a_kept, .ref a_isKept, .ref a_text, .int i_length, .int i_next, .ref a_read, .ref a_uses, .ref a_entry, .ref a_passed, .ref a_draft, .ref a_label, .ref a_met, .ref a_bracket, .ref a_matrix])), (a_now, .inl (cyI, 34, .inl f_now)), (a_history, .inl (cyI, 272, .inl o_history))]) (([.ref a_this] : List Value).toArray) s 0 0 A) (F0 m 51 ls []) := by
      intro n_2
      induction n_2 with
      | zero =>
        intro _ _ _ _ _ hf
        exact (it2_z hf).elim
      | succ n_2 ih_2 =>
        intro v1_2 f_history_2 H locs ls hf hP hD hS hl
        replace hf := it2_s hf
        rw [kX10_remember_L2] at hf
        refine lv_iload_n hx hb dX10_remember_51 rfl (lv_at hl 1 rfl) ?_
        refine lv_bipush (v := 34) hx hb dX10_remember_52 (by decide) ?_
        refine lv_icmp_ge (tgt := 83) hx hb dX10_remember_54 (by decide) (fun c_3 => ?_) (fun c_3 => ?_)
        · replace hf := kt_p hf c_3
          refine lv_aload_n hx hb dX10_remember_83 rfl (lv_at hl 0 rfl) ?_
          refine lv_dup hx hb dX10_remember_84 rfl ?_
          refine va_get (D := D) (ci := 7) (v := .int i_saved_1) (C := RX10) (T := TX10) (N := 17) hx hb hts qX10_remember_X10 hown hK hP 0 rfl rfl 2 (Nat.le_of_ble_eq_true rfl) (hts (.fieldLink RX10 94 "KnotDiagramModel" "saved" "I") qX10_remember_0) (fun _ h9 => h9) rfl dX10_remember_85 ?_
          refine lv_iconst (v := 1) hx hb dX10_remember_88 (by decide) ?_
          refine lv_iadd hx hb dX10_remember_89 ?_
          refine va_put (D := D) (ci := 7) (v := .int (i_saved_1 + 1)) (ty := .int) (C := RX10) (T := TX10) (N := 17) hx hb hts qX10_remember_X10 tyX10 tyX10_ok nmX10 hown hK hP hD hS 0 rfl rfl 2 (Nat.le_of_ble_eq_true rfl) (hts (.fieldLink RX10 94 "KnotDiagramModel" "saved" "I") qX10_remember_0) (fun _ h9 => h9) rfl (by decide +kernel) rfl rfl (Nat.le_of_ble_eq_true rfl) dX10_remember_90 (fun H locs hP hD hS => ?_)
          replace hP : va_P D vwCl [(a_this, .inr (7, [.ref a_now, .ref a_history, .int (i_saved_1 + 1), .ref a_kept, .ref a_isKept, .ref a_text, .int i_length, .int i_next, .ref a_read, .ref a_uses, .ref a_entry, .ref a_passed, .ref a_draft, .ref a_label, .ref a_met, .ref a_bracket, .ref a_matrix])), (a_now, .inl (cyI, 34, .inl f_now)), (a_history, .inl (cyI, 272, .inl f_history_2))] H := hP
          replace hD : va_D A [(a_this, .inr (7, [.ref a_now, .ref a_history, .int (i_saved_1 + 1), .ref a_kept, .ref a_isKept, .ref a_text, .int i_length, .int i_next, .ref a_read, .ref a_uses, .ref a_entry, .ref a_passed, .ref a_draft, .ref a_label, .ref a_met, .ref a_bracket, .ref a_matrix])), (a_now, .inl (cyI, 34, .inl f_now)), (a_history, .inl (cyI, 272, .inl f_history_2))] := hD
          obtain ⟨rfl, rfl⟩ := some2_s hf
          exact kRv hx hb hr hlocks hP hK hD hS dX10_remember_93
        · replace hf := kt_n hf c_3
          refine lv_aload_n hx hb dX10_remember_57 rfl (lv_at hl 0 rfl) ?_
          refine va_get (D := D) (ci := 7) (v := .ref a_history) (C := RX10) (T := TX10) (N := 17) hx hb hts qX10_remember_X10 hown hK hP 0 rfl rfl 1 (Nat.le_of_ble_eq_true rfl) (hts (.fieldLink RX10 13 "KnotDiagramModel" "history" "[I") qX10_remember_1) (fun _ h9 => h9) rfl dX10_remember_58 ?_
          refine lv_bipush (v := 34) hx hb dX10_remember_61 (by decide) ?_
          refine lv_aload_n hx hb dX10_remember_63 rfl (lv_at hl 0 rfl) ?_
          refine va_get (D := D) (ci := 7) (v := .int i_saved_1) (C := RX10) (T := TX10) (N := 17) hx hb hts qX10_remember_X10 hown hK hP 0 rfl rfl 2 (Nat.le_of_ble_eq_true rfl) (hts (.fieldLink RX10 94 "KnotDiagramModel" "saved" "I") qX10_remember_0) (fun _ h9 => h9) rfl dX10_remember_64 ?_
          refine lv_imul hx hb dX10_remember_67 ?_
          refine lv_iload_n hx hb dX10_remember_68 rfl (lv_at hl 1 rfl) ?_
          refine lv_iadd hx hb dX10_remember_69 ?_
          refine lv_aload_n hx hb dX10_remember_70 rfl (lv_at hl 0 rfl) ?_
          refine va_get (D := D) (ci := 7) (v := .ref a_now) (C := RX10) (T := TX10) (N := 17) hx hb hts qX10_remember_X10 hown hK hP 0 rfl rfl 0 (Nat.le_of_ble_eq_true rfl) (hts (.fieldLink RX10 7 "KnotDiagramModel" "now" "[I") qX10_remember_2) (fun _ h9 => h9) rfl dX10_remember_71 ?_
          refine lv_iload_n hx hb dX10_remember_74 rfl (lv_at hl 1 rfl) ?_
          obtain ⟨hi_1, hf⟩ := ck_s hf
          refine va_iald hx hb hK hP 1 0 rfl rfl hi_1 dX10_remember_75 ?_
          obtain ⟨hi_2, hf⟩ := ck_s hf
          refine va_iast hx hb hK hP hD hS 2 0 rfl rfl hi_2 dX10_remember_76 (fun H locs hP hD hS => ?_)
          replace hP : va_P D vwCl [(a_this, .inr (7, [.ref a_now, .ref a_history, .int i_saved_1, .ref a_kept, .ref a_isKept, .ref a_text, .int i_length, .int i_next, .ref a_read, .ref a_uses, .ref a_entry, .ref a_passed, .ref a_draft, .ref a_label, .ref a_met, .ref a_bracket, .ref a_matrix])), (a_now, .inl (cyI, 34, .inl f_now)), (a_history, .inl (cyI, 272, .inl (upd f_history_2 ((34 * i_saved_1) + v1_2).toNatClampNeg (f_now v1_2.toNatClampNeg))))] H := hP
          replace hD : va_D A [(a_this, .inr (7, [.ref a_now, .ref a_history, .int i_saved_1, .ref a_kept, .ref a_isKept, .ref a_text, .int i_length, .int i_next, .ref a_read, .ref a_uses, .ref a_entry, .ref a_passed, .ref a_draft, .ref a_label, .ref a_met, .ref a_bracket, .ref a_matrix])), (a_now, .inl (cyI, 34, .inl f_now)), (a_history, .inl (cyI, 272, .inl (upd f_history_2 ((34 * i_saved_1) + v1_2).toNatClampNeg (f_now v1_2.toNatClampNeg))))] := hD
          refine lv_iinc (v := (v1_2 + 1)) (lv' := [(1, .int (v1_2 + 1)), (0, .ref a_this)]) hx hb dX10_remember_77 hl (k := 1) rfl rfl (by decide) rfl (fun ls hl => ?_)
          refine lv_goto (tgt := 51) hx hb dX10_remember_80 (by decide) ?_
          exact ih_2 (v1_2 + 1) (upd f_history_2 ((34 * i_saved_1) + v1_2).toNatClampNeg (f_now v1_2.toNatClampNeg)) H locs ls hf hP hD hS (lv_sub hl [1, 0] rfl)
    exact hL_2 400 0 f_history_1 H locs ls hf hP hD hS (lv_sub hl [1, 0] rfl)
  refine lv_icmp_ne (tgt := 49) hx hb dX10_remember_6 (by decide) (fun c_7 => ?_) (fun c_7 => ?_)
  · replace hf := kt_n hf c_7
    exact hJ_1 i_saved f_history H locs ls hf hP hD hS (lv_sub hl [0] rfl)
  · replace hf := kt_p hf c_7
    refine lv_iconst (v := 0) hx hb dX10_remember_9 (by decide) ?_
    refine lv_istore_n (lv' := [(1, .int 0), (0, .ref a_this)]) hx hb dX10_remember_10 rfl hl (by decide) rfl (fun ls hl => ?_)
    have hL_3 : ∀ (n : Nat) (v1_3 : Int32) (f_history_3 : Nat → Int32) (H : Heap) (locs : List Loc) (ls : Array Slot), it2 (kX10_remember_L3 f_now i_saved) n v1_3 f_history_3 = some (o_saved, o_history) → va_P D vwCl [(a_this, .inr (7, [.ref a_now, .ref a_history, .int i_saved, .ref a_kept, .ref a_isKept, .ref a_text, .int i_length, .int i_next, .ref a_read, .ref a_uses, .ref a_entry, .ref a_passed, .ref a_draft, .ref a_label, .ref a_met, .ref a_bracket, .ref a_matrix])), (a_now, .inl (cyI, 34, .inl f_now)), (a_history, .inl (cyI, 272, .inl f_history_3))] H → va_D A [(a_this, .inr (7, [.ref a_now, .ref a_history, .int i_saved, .ref a_kept, .ref a_isKept, .ref a_text, .int i_length, .int i_next, .ref a_read, .ref a_uses, .ref a_entry, .ref a_passed, .ref a_draft, .ref a_label, .ref a_met, .ref a_bracket, .ref a_matrix])), (a_now, .inl (cyI, 34, .inl f_now)), (a_history, .inl (cyI, 272, .inl f_history_3))] → va_S A s.heap H locs → lv_has ls 2 [(0, .ref a_this), (1, .int v1_3)] → W p l e (headSpec wsX10_remember rmX10_remember).room s m (([.ref a_this] : List Value).toArray) below meth c H locs 0 0 (MQ below (kQv D cyI cyZ A [(a_this, .inr (7, [.ref a_now, .ref a_history, .int o_saved, .ref a_kept, .ref a_isKept, .ref a_text, .int i_length, .int i_next, .ref a_read, .ref a_uses, .ref a_entry, .ref a_passed, .ref a_draft, .ref a_label, .ref a_met, .ref a_bracket, .ref a_matrix])), (a_now, .inl (cyI, 34, .inl f_now)), (a_history, .inl (cyI, 272, .inl o_history))]) (([.ref a_this] : List Value).toArray) s 0 0 A) (F0 m 11 ls []) := by
      intro n_3
      induction n_3 with
      | zero =>
        intro _ _ _ _ _ hf
        exact (it2_z hf).elim
      | succ n_3 ih_3 =>
        intro v1_3 f_history_3 H locs ls hf hP hD hS hl
        replace hf := it2_s hf
        rw [kX10_remember_L3] at hf
        refine lv_iload_n hx hb dX10_remember_11 rfl (lv_at hl 1 rfl) ?_
        refine lv_sipush (v := 238) hx hb dX10_remember_12 (by decide) ?_
        refine lv_icmp_ge (tgt := 39) hx hb dX10_remember_15 (by decide) (fun c_6 => ?_) (fun c_6 => ?_)
        · replace hf := kt_p hf c_6
          refine lv_aload_n hx hb dX10_remember_39 rfl (lv_at hl 0 rfl) ?_
          refine lv_dup hx hb dX10_remember_40 rfl ?_
          refine va_get (D := D) (ci := 7) (v := .int i_saved) (C := RX10) (T := TX10) (N := 17) hx hb hts qX10_remember_X10 hown hK hP 0 rfl rfl 2 (Nat.le_of_ble_eq_true rfl) (hts (.fieldLink RX10 94 "KnotDiagramModel" "saved" "I") qX10_remember_0) (fun _ h9 => h9) rfl dX10_remember_41 ?_
          refine lv_iconst (v := 1) hx hb dX10_remember_44 (by decide) ?_
          refine lv_isub hx hb dX10_remember_45 ?_
          refine va_put (D := D) (ci := 7) (v := .int (i_saved - 1)) (ty := .int) (C := RX10) (T := TX10) (N := 17) hx hb hts qX10_remember_X10 tyX10 tyX10_ok nmX10 hown hK hP hD hS 0 rfl rfl 2 (Nat.le_of_ble_eq_true rfl) (hts (.fieldLink RX10 94 "KnotDiagramModel" "saved" "I") qX10_remember_0) (fun _ h9 => h9) rfl (by decide +kernel) rfl rfl (Nat.le_of_ble_eq_true rfl) dX10_remember_46 (fun H locs hP hD hS => ?_)
          replace hP : va_P D vwCl [(a_this, .inr (7, [.ref a_now, .ref a_history, .int (i_saved - 1), .ref a_kept, .ref a_isKept, .ref a_text, .int i_length, .int i_next, .ref a_read, .ref a_uses, .ref a_entry, .ref a_passed, .ref a_draft, .ref a_label, .ref a_met, .ref a_bracket, .ref a_matrix])), (a_now, .inl (cyI, 34, .inl f_now)), (a_history, .inl (cyI, 272, .inl f_history_3))] H := hP
          replace hD : va_D A [(a_this, .inr (7, [.ref a_now, .ref a_history, .int (i_saved - 1), .ref a_kept, .ref a_isKept, .ref a_text, .int i_length, .int i_next, .ref a_read, .ref a_uses, .ref a_entry, .ref a_passed, .ref a_draft, .ref a_label, .ref a_met, .ref a_bracket, .ref a_matrix])), (a_now, .inl (cyI, 34, .inl f_now)), (a_history, .inl (cyI, 272, .inl f_history_3))] := hD
          exact hJ_1 (i_saved - 1) f_history_3 H locs ls hf hP hD hS (lv_sub hl [0] rfl)
        · replace hf := kt_n hf c_6
          refine lv_aload_n hx hb dX10_remember_18 rfl (lv_at hl 0 rfl) ?_
          refine va_get (D := D) (ci := 7) (v := .ref a_history) (C := RX10) (T := TX10) (N := 17) hx hb hts qX10_remember_X10 hown hK hP 0 rfl rfl 1 (Nat.le_of_ble_eq_true rfl) (hts (.fieldLink RX10 13 "KnotDiagramModel" "history" "[I") qX10_remember_1) (fun _ h9 => h9) rfl dX10_remember_19 ?_
          refine lv_iload_n hx hb dX10_remember_22 rfl (lv_at hl 1 rfl) ?_
          refine lv_aload_n hx hb dX10_remember_23 rfl (lv_at hl 0 rfl) ?_
          refine va_get (D := D) (ci := 7) (v := .ref a_history) (C := RX10) (T := TX10) (N := 17) hx hb hts qX10_remember_X10 hown hK hP 0 rfl rfl 1 (Nat.le_of_ble_eq_true rfl) (hts (.fieldLink RX10 13 "KnotDiagramModel" "history" "[I") qX10_remember_1) (fun _ h9 => h9) rfl dX10_remember_24 ?_
          refine lv_iload_n hx hb dX10_remember_27 rfl (lv_at hl 1 rfl) ?_
          refine lv_bipush (v := 34) hx hb dX10_remember_28 (by decide) ?_
          refine lv_iadd hx hb dX10_remember_30 ?_
          obtain ⟨hi_4, hf⟩ := ck_s hf
          refine va_iald hx hb hK hP 2 0 rfl rfl hi_4 dX10_remember_31 ?_
          obtain ⟨hi_5, hf⟩ := ck_s hf
          refine va_iast hx hb hK hP hD hS 2 0 rfl rfl hi_5 dX10_remember_32 (fun H locs hP hD hS => ?_)
          replace hP : va_P D vwCl [(a_this, .inr (7, [.ref a_now, .ref a_history, .int i_saved, .ref a_kept, .ref a_isKept, .ref a_text, .int i_length, .int i_next, .ref a_read, .ref a_uses, .ref a_entry, .ref a_passed, .ref a_draft, .ref a_label, .ref a_met, .ref a_bracket, .ref a_matrix])), (a_now, .inl (cyI, 34, .inl f_now)), (a_history, .inl (cyI, 272, .inl (upd f_history_3 v1_3.toNatClampNeg (f_history_3 (v1_3 + 34).toNatClampNeg))))] H := hP
          replace hD : va_D A [(a_this, .inr (7, [.ref a_now, .ref a_history, .int i_saved, .ref a_kept, .ref a_isKept, .ref a_text, .int i_length, .int i_next, .ref a_read, .ref a_uses, .ref a_entry, .ref a_passed, .ref a_draft, .ref a_label, .ref a_met, .ref a_bracket, .ref a_matrix])), (a_now, .inl (cyI, 34, .inl f_now)), (a_history, .inl (cyI, 272, .inl (upd f_history_3 v1_3.toNatClampNeg (f_history_3 (v1_3 + 34).toNatClampNeg))))] := hD
          refine lv_iinc (v := (v1_3 + 1)) (lv' := [(1, .int (v1_3 + 1)), (0, .ref a_this)]) hx hb dX10_remember_33 hl (k := 1) rfl rfl (by decide) rfl (fun ls hl => ?_)
          refine lv_goto (tgt := 11) hx hb dX10_remember_36 (by decide) ?_
          exact ih_3 (v1_3 + 1) (upd f_history_3 v1_3.toNatClampNeg (f_history_3 (v1_3 + 34).toNatClampNeg)) H locs ls hf hP hD hS (lv_sub hl [1, 0] rfl)
    exact hL_3 400 0 f_history H locs ls hf hP hD hS (lv_sub hl [1, 0] rfl)
def kX10_become_L1 (v2 : Int32) (n_p1 : Nat) (f_p1 : Nat → Int32) (K_1 : Int32 → (Nat → Int32) → Option ((Nat → Int32))) (v3_1 : Int32) (f_now_1 : Nat → Int32) : Option ((Nat → Int32)) :=
  if 34 ≤ v3_1 then some f_now_1 else ck (v2 + v3_1) n_p1 (ck v3_1 34 (K_1 (v3_1 + 1) (upd f_now_1 v3_1.toNatClampNeg (f_p1 (v2 + v3_1).toNatClampNeg))))
def kX10_become (n_p1 : Nat) (v2 : Int32) (f_now : Nat → Int32) (f_p1 : Nat → Int32) : Option ((Nat → Int32)) :=
  it2 (kX10_become_L1 v2 n_p1 f_p1) 400 0 f_now
def rmX10_become : Room := { frames := 0, cells := 0, slots := 0, locals := 0 }
theorem qX10_become_0 : (.fieldLink RX10 7 "KnotDiagramModel" "now" "[I" : Cond) ∈ wsX10_become := by decide +kernel
theorem qX10_become_X10 : ∀ w ∈ wsX100, w ∈ wsX10_become := by decide +kernel
set_option maxHeartbeats 4000000 in
set_option maxRecDepth 100000 in
theorem mX10_become (l : Launch) (D : va_G) (cyI cyZ : ClassId) (sz : Nat) (a_this a_p1 a_now a_history a_kept a_isKept a_text a_read a_uses a_entry a_passed a_draft a_label a_met a_bracket a_matrix : Nat) (n_p1 : Nat) (v2 : Int32) (i_saved : Int32) (i_length : Int32) (i_next : Int32) (f_now : Nat → Int32) (f_p1 : Nat → Int32) (o_now : Nat → Int32) (hf : kX10_become n_p1 v2 f_now f_p1 = some o_now) : Met l yX10_become wsX10_become rmX10_become (kPre D cyI cyZ [.ref a_this, .ref a_p1, .int v2] [(a_this, .inr (7, [.ref a_now, .ref a_history, .int i_saved, .ref a_kept, .ref a_isKept, .ref a_text, .int i_length, .int i_next, .ref a_read, .ref a_uses, .ref a_entry, .ref a_passed, .ref a_draft, .ref a_label, .ref a_met, .ref a_bracket, .ref a_matrix])), (a_now, .inl (cyI, 34, .inl f_now)), (a_p1, .inl (cyI, n_p1, .inl f_p1))] sz) (kQv D cyI cyZ (va_A [(a_this, .inr (7, [.ref a_now, .ref a_history, .int i_saved, .ref a_kept, .ref a_isKept, .ref a_text, .int i_length, .int i_next, .ref a_read, .ref a_uses, .ref a_entry, .ref a_passed, .ref a_draft, .ref a_label, .ref a_met, .ref a_bracket, .ref a_matrix])), (a_now, .inl (cyI, 34, .inl f_now)), (a_p1, .inl (cyI, n_p1, .inl f_p1))] sz) [(a_this, .inr (7, [.ref a_now, .ref a_history, .int i_saved, .ref a_kept, .ref a_isKept, .ref a_text, .int i_length, .int i_next, .ref a_read, .ref a_uses, .ref a_entry, .ref a_passed, .ref a_draft, .ref a_label, .ref a_met, .ref a_bracket, .ref a_matrix])), (a_now, .inl (cyI, 34, .inl o_now)), (a_p1, .inl (cyI, n_p1, .inl f_p1))]) 0 0 (va_A [(a_this, .inr (7, [.ref a_now, .ref a_history, .int i_saved, .ref a_kept, .ref a_isKept, .ref a_text, .int i_length, .int i_next, .ref a_read, .ref a_uses, .ref a_entry, .ref a_passed, .ref a_draft, .ref a_label, .ref a_met, .ref a_bracket, .ref a_matrix])), (a_now, .inl (cyI, 34, .inl f_now)), (a_p1, .inl (cyI, n_p1, .inl f_p1))] sz) := by
  refine Met.ofW (cc := cX10_become) (maxL := 4) (ret := none) (by decide) rfl ?_
  intro p e s m args below meth c s₁ B hml hv
  obtain ⟨rfl, hsz, hP, hK, hD0, hN⟩ := hv
  have hx := B.exec
  have hb := B.bytes
  have hr := B.returns
  have hts := atoms_spec (ws := wsX10_become) B.pre
  have hown : s.vm.findClass RX10 = some m.cls := findClass_of_methodNamed B.named
  have hlocks := B.notSynchronized
  subst hsz
  have hD := hD0.self (sz := s.heap.size)
  generalize hAe : va_A [(a_this, .inr (7, [.ref a_now, .ref a_history, .int i_saved, .ref a_kept, .ref a_isKept, .ref a_text, .int i_length, .int i_next, .ref a_read, .ref a_uses, .ref a_entry, .ref a_passed, .ref a_draft, .ref a_label, .ref a_met, .ref a_bracket, .ref a_matrix])), (a_now, .inl (cyI, 34, .inl f_now)), (a_p1, .inl (cyI, n_p1, .inl f_p1))] s.heap.size = A at hD ⊢
  have hA : ∀ q : Nat, s.heap.size ≤ q → A q := fun q h => by rw [← hAe]; exact Or.inr h
  clear hAe hD0
  have hS : va_S A s.heap s.heap [] := va_S.rf
  have S : CallFix p m c cX10_become 4 s (([.ref a_this, .ref a_p1, .int v2] : List Value).toArray) wsX10_become RX10 := ⟨hx, hb, hml, hown, hts⟩
  have hl := lv_entry ([.ref a_this, .ref a_p1, .int v2]) (n := 4) (Nat.le_of_ble_eq_true rfl)
  rw [lg_entry_eq]
  generalize (lg_sl ([.ref a_this, .ref a_p1, .int v2]) ++ List.replicate (4 - (lg_sl ([.ref a_this, .ref a_p1, .int v2])).length) Slot.unset).toArray = ls at hl ⊢
  replace hl : lv_has ls 4 [(0, .ref a_this), (1, .ref a_p1), (2, .int v2)] := hl
  generalize ([] : List Loc) = locs at hS ⊢
  delta kX10_become at hf
  obtain ⟨H, hH⟩ : ∃ H, H = s.heap := ⟨_, rfl⟩
  have hS : va_S A s.heap H locs := by rw [hH]; exact hS
  have hP : va_P D vwCl [(a_this, .inr (7, [.ref a_now, .ref a_history, .int i_saved, .ref a_kept, .ref a_isKept, .ref a_text, .int i_length, .int i_next, .ref a_read, .ref a_uses, .ref a_entry, .ref a_passed, .ref a_draft, .ref a_label, .ref a_met, .ref a_bracket, .ref a_matrix])), (a_now, .inl (cyI, 34, .inl f_now)), (a_p1, .inl (cyI, n_p1, .inl f_p1))] H := by rw [hH]; exact hP
  suffices hgo : W p l e (headSpec wsX10_become rmX10_become).room s m (([.ref a_this, .ref a_p1, .int v2] : List Value).toArray) below meth c H locs 0 0 (MQ below (kQv D cyI cyZ A [(a_this, .inr (7, [.ref a_now, .ref a_history, .int i_saved, .ref a_kept, .ref a_isKept, .ref a_text, .int i_length, .int i_next, .ref a_read, .ref a_uses, .ref a_entry, .ref a_passed, .ref a_draft, .ref a_label, .ref a_met, .ref a_bracket, .ref a_matrix])), (a_now, .inl (cyI, 34, .inl o_now)), (a_p1, .inl (cyI, n_p1, .inl f_p1))]) (([.ref a_this, .ref a_p1, .int v2] : List Value).toArray) s 0 0 A) (F0 m 0 ls []) by rw [hH] at hgo; exact hgo
  clear hH
  refine lv_iconst (v := 0) hx hb dX10_become_0 (by decide) ?_
  refine lv_istore_n (lv' := [(3, .int 0), (0, .ref a_this), (1, .ref a_p1), (2, .int v2)]) hx hb dX10_become_1 rfl hl (by decide) rfl (fun ls hl => ?_)
  have hL_1 : ∀ (n : Nat) (v3_1 : Int32) (f_now_1 : Nat → Int32) (H : Heap) (locs : List Loc) (ls : Array Slot), it2 (kX10_become_L1 v2 n_p1 f_p1) n v3_1 f_now_1 = some o_now → va_P D vwCl [(a_this, .inr (7, [.ref a_now, .ref a_history, .int i_saved, .ref a_kept, .ref a_isKept, .ref a_text, .int i_length, .int i_next, .ref a_read, .ref a_uses, .ref a_entry, .ref a_passed, .ref a_draft, .ref a_label, .ref a_met, .ref a_bracket, .ref a_matrix])), (a_now, .inl (cyI, 34, .inl f_now_1)), (a_p1, .inl (cyI, n_p1, .inl f_p1))] H → va_D A [(a_this, .inr (7, [.ref a_now, .ref a_history, .int i_saved, .ref a_kept, .ref a_isKept, .ref a_text, .int i_length, .int i_next, .ref a_read, .ref a_uses, .ref a_entry, .ref a_passed, .ref a_draft, .ref a_label, .ref a_met, .ref a_bracket, .ref a_matrix])), (a_now, .inl (cyI, 34, .inl f_now_1)), (a_p1, .inl (cyI, n_p1, .inl f_p1))] → va_S A s.heap H locs → lv_has ls 4 [(0, .ref a_this), (1, .ref a_p1), (2, .int v2), (3, .int v3_1)] → W p l e (headSpec wsX10_become rmX10_become).room s m (([.ref a_this, .ref a_p1, .int v2] : List Value).toArray) below meth c H locs 0 0 (MQ below (kQv D cyI cyZ A [(a_this, .inr (7, [.ref a_now, .ref a_history, .int i_saved, .ref a_kept, .ref a_isKept, .ref a_text, .int i_length, .int i_next, .ref a_read, .ref a_uses, .ref a_entry, .ref a_passed, .ref a_draft, .ref a_label, .ref a_met, .ref a_bracket, .ref a_matrix])), (a_now, .inl (cyI, 34, .inl o_now)), (a_p1, .inl (cyI, n_p1, .inl f_p1))]) (([.ref a_this, .ref a_p1, .int v2] : List Value).toArray) s 0 0 A) (F0 m 2 ls []) := by
    intro n_1
    induction n_1 with
    | zero =>
      intro _ _ _ _ _ hf
      exact (it2_z hf).elim
    | succ n_1 ih_1 =>
      intro v3_1 f_now_1 H locs ls hf hP hD hS hl
      replace hf := it2_s hf
      rw [kX10_become_L1] at hf
      refine lv_iload_n hx hb dX10_become_2 rfl (lv_at hl 3 rfl) ?_
      refine lv_bipush (v := 34) hx hb dX10_become_3 (by decide) ?_
      refine lv_icmp_ge (tgt := 25) hx hb dX10_become_5 (by decide) (fun c_3 => ?_) (fun c_3 => ?_)
      · replace hf := kt_p hf c_3
        obtain rfl := some1_s hf
        exact kRv hx hb hr hlocks hP hK hD hS dX10_become_25
      · replace hf := kt_n hf c_3
        refine lv_aload_n hx hb dX10_become_8 rfl (lv_at hl 0 rfl) ?_
        refine va_get (D := D) (ci := 7) (v := .ref a_now) (C := RX10) (T := TX10) (N := 17) hx hb hts qX10_become_X10 hown hK hP 0 rfl rfl 0 (Nat.le_of_ble_eq_true rfl) (hts (.fieldLink RX10 7 "KnotDiagramModel" "now" "[I") qX10_become_0) (fun _ h9 => h9) rfl dX10_become_9 ?_
        refine lv_iload_n hx hb dX10_become_12 rfl (lv_at hl 3 rfl) ?_
        refine lv_aload_n hx hb dX10_become_13 rfl (lv_at hl 1 rfl) ?_
        refine lv_iload_n hx hb dX10_become_14 rfl (lv_at hl 2 rfl) ?_
        refine lv_iload_n hx hb dX10_become_15 rfl (lv_at hl 3 rfl) ?_
        refine lv_iadd hx hb dX10_become_16 ?_
        obtain ⟨hi_1, hf⟩ := ck_s hf
        refine va_iald hx hb hK hP 2 0 rfl rfl hi_1 dX10_become_17 ?_
        obtain ⟨hi_2, hf⟩ := ck_s hf
        refine va_iast hx hb hK hP hD hS 1 0 rfl rfl hi_2 dX10_become_18 (fun H locs hP hD hS => ?_)
        replace hP : va_P D vwCl [(a_this, .inr (7, [.ref a_now, .ref a_history, .int i_saved, .ref a_kept, .ref a_isKept, .ref a_text, .int i_length, .int i_next, .ref a_read, .ref a_uses, .ref a_entry, .ref a_passed, .ref a_draft, .ref a_label, .ref a_met, .ref a_bracket, .ref a_matrix])), (a_now, .inl (cyI, 34, .inl (upd f_now_1 v3_1.toNatClampNeg (f_p1 (v2 + v3_1).toNatClampNeg)))), (a_p1, .inl (cyI, n_p1, .inl f_p1))] H := hP
        replace hD : va_D A [(a_this, .inr (7, [.ref a_now, .ref a_history, .int i_saved, .ref a_kept, .ref a_isKept, .ref a_text, .int i_length, .int i_next, .ref a_read, .ref a_uses, .ref a_entry, .ref a_passed, .ref a_draft, .ref a_label, .ref a_met, .ref a_bracket, .ref a_matrix])), (a_now, .inl (cyI, 34, .inl (upd f_now_1 v3_1.toNatClampNeg (f_p1 (v2 + v3_1).toNatClampNeg)))), (a_p1, .inl (cyI, n_p1, .inl f_p1))] := hD
        refine lv_iinc (v := (v3_1 + 1)) (lv' := [(3, .int (v3_1 + 1)), (0, .ref a_this), (1, .ref a_p1), (2, .int v2)]) hx hb dX10_become_19 hl (k := 3) rfl rfl (by decide) rfl (fun ls hl => ?_)
        refine lv_goto (tgt := 2) hx hb dX10_become_22 (by decide) ?_
        exact ih_1 (v3_1 + 1) (upd f_now_1 v3_1.toNatClampNeg (f_p1 (v2 + v3_1).toNatClampNeg)) H locs ls hf hP hD hS (lv_sub hl [1, 2, 3, 0] rfl)
  exact hL_1 400 0 f_now H locs ls hf hP hD hS (lv_sub hl [1, 2, 3, 0] rfl)
def kX10_load (i_saved : Int32) (i_length : Int32) (i_next : Int32) (f_now : Nat → Int32) (f_history : Nat → Int32) (f_text : Nat → Int32) (f_read : Nat → Int32) (f_uses : Nat → Int32) : Option (Int32 × Int32 × Int32 × Int32 × (Nat → Int32) × (Nat → Int32) × (Nat → Int32) × (Nat → Int32)) :=
  bnd4 (kX10_readText i_length i_next f_text f_read f_uses) (fun r_1 o_next_1 o_read_1 o_uses_1 => if r_1 < 0 then bnd2 (kX10_remember i_saved f_now f_history) (fun o_saved_2 o_history_2 => bnd1 (kX10_become 34 0 f_now o_read_1) (fun o_now_3 => bnd1 (kX10_crossings o_now_3) (fun r_4 => some (r_4, o_saved_2, 0, o_next_1, o_now_3, o_history_2, o_read_1, o_uses_1)))) else some (((-10) - r_1), i_saved, i_length, o_next_1, f_now, f_history, o_read_1, o_uses_1))
def rmX10_load : Room := { frames := 5, cells := 0, slots := 0, locals := 111 }
theorem qX10_load_0 : (.fieldLink RX10 26 "KnotDiagramModel" "read" "[I" : Cond) ∈ wsX10_load := by decide +kernel
theorem qX10_load_1 : (.fieldLink RX10 69 "KnotDiagramModel" "length" "I" : Cond) ∈ wsX10_load := by decide +kernel
theorem qX10_load_X10 : ∀ w ∈ wsX100, w ∈ wsX10_load := by decide +kernel
set_option maxHeartbeats 4000000 in
set_option maxRecDepth 100000 in
theorem mX10_load (l : Launch) (D : va_G) (cyI cyZ : ClassId) (sz : Nat) (a_this a_now a_history a_kept a_isKept a_text a_read a_uses a_entry a_passed a_draft a_label a_met a_bracket a_matrix : Nat) (i_saved : Int32) (i_length : Int32) (i_next : Int32) (f_now : Nat → Int32) (f_history : Nat → Int32) (f_text : Nat → Int32) (f_read : Nat → Int32) (f_uses : Nat → Int32) (r : Int32) (o_saved : Int32) (o_length : Int32) (o_next : Int32) (o_now : Nat → Int32) (o_history : Nat → Int32) (o_read : Nat → Int32) (o_uses : Nat → Int32) (hf : kX10_load i_saved i_length i_next f_now f_history f_text f_read f_uses = some (r, o_saved, o_length, o_next, o_now, o_history, o_read, o_uses)) : Met l yX10_load wsX10_load rmX10_load (kPre D cyI cyZ [.ref a_this] [(a_this, .inr (7, [.ref a_now, .ref a_history, .int i_saved, .ref a_kept, .ref a_isKept, .ref a_text, .int i_length, .int i_next, .ref a_read, .ref a_uses, .ref a_entry, .ref a_passed, .ref a_draft, .ref a_label, .ref a_met, .ref a_bracket, .ref a_matrix])), (a_now, .inl (cyI, 34, .inl f_now)), (a_history, .inl (cyI, 272, .inl f_history)), (a_text, .inl (cyI, 160, .inl f_text)), (a_read, .inl (cyI, 34, .inl f_read)), (a_uses, .inl (cyI, 17, .inl f_uses))] sz) (kQi D cyI cyZ (va_A [(a_this, .inr (7, [.ref a_now, .ref a_history, .int i_saved, .ref a_kept, .ref a_isKept, .ref a_text, .int i_length, .int i_next, .ref a_read, .ref a_uses, .ref a_entry, .ref a_passed, .ref a_draft, .ref a_label, .ref a_met, .ref a_bracket, .ref a_matrix])), (a_now, .inl (cyI, 34, .inl f_now)), (a_history, .inl (cyI, 272, .inl f_history)), (a_text, .inl (cyI, 160, .inl f_text)), (a_read, .inl (cyI, 34, .inl f_read)), (a_uses, .inl (cyI, 17, .inl f_uses))] sz) [(a_this, .inr (7, [.ref a_now, .ref a_history, .int o_saved, .ref a_kept, .ref a_isKept, .ref a_text, .int o_length, .int o_next, .ref a_read, .ref a_uses, .ref a_entry, .ref a_passed, .ref a_draft, .ref a_label, .ref a_met, .ref a_bracket, .ref a_matrix])), (a_now, .inl (cyI, 34, .inl o_now)), (a_history, .inl (cyI, 272, .inl o_history)), (a_text, .inl (cyI, 160, .inl f_text)), (a_read, .inl (cyI, 34, .inl o_read)), (a_uses, .inl (cyI, 17, .inl o_uses))] r) 0 0 (va_A [(a_this, .inr (7, [.ref a_now, .ref a_history, .int i_saved, .ref a_kept, .ref a_isKept, .ref a_text, .int i_length, .int i_next, .ref a_read, .ref a_uses, .ref a_entry, .ref a_passed, .ref a_draft, .ref a_label, .ref a_met, .ref a_bracket, .ref a_matrix])), (a_now, .inl (cyI, 34, .inl f_now)), (a_history, .inl (cyI, 272, .inl f_history)), (a_text, .inl (cyI, 160, .inl f_text)), (a_read, .inl (cyI, 34, .inl f_read)), (a_uses, .inl (cyI, 17, .inl f_uses))] sz) := by
  refine Met.ofW (cc := cX10_load) (maxL := 2) (ret := (some .int)) (by decide) rfl ?_
  intro p e s m args below meth c s₁ B hml hv
  obtain ⟨rfl, hsz, hP, hK, hD0, hN⟩ := hv
  have hx := B.exec
  have hb := B.bytes
  have hr := B.returns
  have hts := atoms_spec (ws := wsX10_load) B.pre
  have hown : s.vm.findClass RX10 = some m.cls := findClass_of_methodNamed B.named
  have hlocks := B.notSynchronized
  subst hsz
  have hD := hD0.self (sz := s.heap.size)
  generalize hAe : va_A [(a_this, .inr (7, [.ref a_now, .ref a_history, .int i_saved, .ref a_kept, .ref a_isKept, .ref a_text, .int i_length, .int i_next, .ref a_read, .ref a_uses, .ref a_entry, .ref a_passed, .ref a_draft, .ref a_label, .ref a_met, .ref a_bracket, .ref a_matrix])), (a_now, .inl (cyI, 34, .inl f_now)), (a_history, .inl (cyI, 272, .inl f_history)), (a_text, .inl (cyI, 160, .inl f_text)), (a_read, .inl (cyI, 34, .inl f_read)), (a_uses, .inl (cyI, 17, .inl f_uses))] s.heap.size = A at hD ⊢
  have hA : ∀ q : Nat, s.heap.size ≤ q → A q := fun q h => by rw [← hAe]; exact Or.inr h
  clear hAe hD0
  have hS : va_S A s.heap s.heap [] := va_S.rf
  have S : CallFix p m c cX10_load 2 s (([.ref a_this] : List Value).toArray) wsX10_load RX10 := ⟨hx, hb, hml, hown, hts⟩
  have hl := lv_entry ([.ref a_this]) (n := 2) (Nat.le_of_ble_eq_true rfl)
  rw [lg_entry_eq]
  generalize (lg_sl ([.ref a_this]) ++ List.replicate (2 - (lg_sl ([.ref a_this])).length) Slot.unset).toArray = ls at hl ⊢
  replace hl : lv_has ls 2 [(0, .ref a_this)] := hl
  generalize ([] : List Loc) = locs at hS ⊢
  delta kX10_load at hf
  obtain ⟨H, hH⟩ : ∃ H, H = s.heap := ⟨_, rfl⟩
  have hS : va_S A s.heap H locs := by rw [hH]; exact hS
  have hP : va_P D vwCl [(a_this, .inr (7, [.ref a_now, .ref a_history, .int i_saved, .ref a_kept, .ref a_isKept, .ref a_text, .int i_length, .int i_next, .ref a_read, .ref a_uses, .ref a_entry, .ref a_passed, .ref a_draft, .ref a_label, .ref a_met, .ref a_bracket, .ref a_matrix])), (a_now, .inl (cyI, 34, .inl f_now)), (a_history, .inl (cyI, 272, .inl f_history)), (a_text, .inl (cyI, 160, .inl f_text)), (a_read, .inl (cyI, 34, .inl f_read)), (a_uses, .inl (cyI, 17, .inl f_uses))] H := by rw [hH]; exact hP
  suffices hgo : W p l e (headSpec wsX10_load rmX10_load).room s m (([.ref a_this] : List Value).toArray) below meth c H locs 0 0 (MQ below (kQi D cyI cyZ A [(a_this, .inr (7, [.ref a_now, .ref a_history, .int o_saved, .ref a_kept, .ref a_isKept, .ref a_text, .int o_length, .int o_next, .ref a_read, .ref a_uses, .ref a_entry, .ref a_passed, .ref a_draft, .ref a_label, .ref a_met, .ref a_bracket, .ref a_matrix])), (a_now, .inl (cyI, 34, .inl o_now)), (a_history, .inl (cyI, 272, .inl o_history)), (a_text, .inl (cyI, 160, .inl f_text)), (a_read, .inl (cyI, 34, .inl o_read)), (a_uses, .inl (cyI, 17, .inl o_uses))] r) (([.ref a_this] : List Value).toArray) s 0 0 A) (F0 m 0 ls []) by rw [hH] at hgo; exact hgo
  clear hH
  refine lv_aload_n hx hb dX10_load_0 rfl (lv_at hl 0 rfl) ?_
  obtain ⟨r_1, o_next_1, o_read_1, o_uses_1, hc_1, hf⟩ := bnd4_s hf
  refine kcVi (As := []) (rest := []) (w2 := [(a_this, .inr (7, [.ref a_now, .ref a_history, .int i_saved, .ref a_kept, .ref a_isKept, .ref a_text, .int i_length, .int o_next_1, .ref a_read, .ref a_uses, .ref a_entry, .ref a_passed, .ref a_draft, .ref a_label, .ref a_met, .ref a_bracket, .ref a_matrix])), (a_now, .inl (cyI, 34, .inl f_now)), (a_history, .inl (cyI, 272, .inl f_history)), (a_text, .inl (cyI, 160, .inl f_text)), (a_read, .inl (cyI, 34, .inl o_read_1)), (a_uses, .inl (cyI, 17, .inl o_uses_1))]) S hK hP hD hS hA hN (mX10_readText l D cyI cyZ H.size a_this a_now a_history a_kept a_isKept a_text a_read a_uses a_entry a_passed a_draft a_label a_met a_bracket a_matrix i_saved i_length i_next f_text f_read f_uses r_1 o_next_1 o_read_1 o_uses_1 hc_1) (cwV 0 hts gX10_load_X10_readText rfl rfl rfl (by decide +kernel) ⟨Nat.le_of_ble_eq_true rfl, Nat.le_of_ble_eq_true rfl⟩) 7 0 rfl rfl [0, 3, 4, 5] [1, 2] [2, 0, 1, 3, 4, 5] rfl rfl rfl rfl (by decide) rfl rfl hl.1 (Nat.le_of_ble_eq_true rfl) dX10_load_1 ⟨Nat.le_of_ble_eq_true rfl, Nat.le_of_ble_eq_true rfl⟩ (fun H locs hP hD hS => ?_)
  refine lv_istore_n (lv' := [(1, .int r_1), (0, .ref a_this)]) hx hb dX10_load_4 rfl hl (by decide) rfl (fun ls hl => ?_)
  refine lv_iload_n hx hb dX10_load_5 rfl (lv_at hl 0 rfl) ?_
  refine lv_if_lt (tgt := 14) hx hb dX10_load_6 (by decide) (fun c_5 => ?_) (fun c_5 => ?_)
  · replace hf := kt_p hf c_5
    refine lv_aload_n hx hb dX10_load_14 rfl (lv_at hl 1 rfl) ?_
    obtain ⟨o_saved_2, o_history_2, hc_2, hf⟩ := bnd2_s hf
    refine kcVv (As := []) (rest := []) (w2 := [(a_this, .inr (7, [.ref a_now, .ref a_history, .int o_saved_2, .ref a_kept, .ref a_isKept, .ref a_text, .int i_length, .int o_next_1, .ref a_read, .ref a_uses, .ref a_entry, .ref a_passed, .ref a_draft, .ref a_label, .ref a_met, .ref a_bracket, .ref a_matrix])), (a_now, .inl (cyI, 34, .inl f_now)), (a_history, .inl (cyI, 272, .inl o_history_2)), (a_text, .inl (cyI, 160, .inl f_text)), (a_read, .inl (cyI, 34, .inl o_read_1)), (a_uses, .inl (cyI, 17, .inl o_uses_1))]) S hK hP hD hS hA hN (mX10_remember l D cyI cyZ H.size a_this a_now a_history a_kept a_isKept a_text a_read a_uses a_entry a_passed a_draft a_label a_met a_bracket a_matrix i_saved i_length o_next_1 f_now f_history o_saved_2 o_history_2 hc_2) (cwV 0 hts gX10_load_X10_remember rfl rfl rfl (by decide +kernel) ⟨Nat.le_of_ble_eq_true rfl, Nat.le_of_ble_eq_true rfl⟩) 7 0 rfl rfl [0, 1, 2] [3, 4, 5] [3, 4, 5, 0, 1, 2] rfl rfl rfl rfl (by decide) rfl rfl hl.1 (Nat.le_of_ble_eq_true rfl) dX10_load_15 ⟨Nat.le_of_ble_eq_true rfl, Nat.le_of_ble_eq_true rfl⟩ (fun H locs hP hD hS => ?_)
    refine lv_aload_n hx hb dX10_load_18 rfl (lv_at hl 1 rfl) ?_
    refine lv_aload_n hx hb dX10_load_19 rfl (lv_at hl 1 rfl) ?_
    refine va_get (D := D) (ci := 7) (v := .ref a_read) (C := RX10) (T := TX10) (N := 17) hx hb hts qX10_load_X10 hown hK hP 0 rfl rfl 8 (Nat.le_of_ble_eq_true rfl) (hts (.fieldLink RX10 26 "KnotDiagramModel" "read" "[I") qX10_load_0) (fun _ h9 => h9) rfl dX10_load_20 ?_
    refine lv_iconst (v := 0) hx hb dX10_load_23 (by decide) ?_
    obtain ⟨o_now_3, hc_3, hf⟩ := bnd1_s hf
    refine kcVv (As := [.ref a_read, .int 0]) (rest := []) (w2 := [(a_this, .inr (7, [.ref a_now, .ref a_history, .int o_saved_2, .ref a_kept, .ref a_isKept, .ref a_text, .int i_length, .int o_next_1, .ref a_read, .ref a_uses, .ref a_entry, .ref a_passed, .ref a_draft, .ref a_label, .ref a_met, .ref a_bracket, .ref a_matrix])), (a_now, .inl (cyI, 34, .inl o_now_3)), (a_history, .inl (cyI, 272, .inl o_history_2)), (a_text, .inl (cyI, 160, .inl f_text)), (a_read, .inl (cyI, 34, .inl o_read_1)), (a_uses, .inl (cyI, 17, .inl o_uses_1))]) S hK hP hD hS hA hN (mX10_become l D cyI cyZ H.size a_this a_read a_now a_history a_kept a_isKept a_text a_read a_uses a_entry a_passed a_draft a_label a_met a_bracket a_matrix 34 0 o_saved_2 i_length o_next_1 f_now o_read_1 o_now_3 hc_3) (cwV 2 hts gX10_load_X10_become rfl rfl rfl (by decide +kernel) ⟨Nat.le_of_ble_eq_true rfl, Nat.le_of_ble_eq_true rfl⟩) 7 0 rfl rfl [0, 1, 4] [2, 3, 5] [3, 4, 0, 1, 5, 2] rfl rfl rfl rfl (by decide) rfl rfl hl.1 (Nat.le_of_ble_eq_true rfl) dX10_load_24 ⟨Nat.le_of_ble_eq_true rfl, Nat.le_of_ble_eq_true rfl⟩ (fun H locs hP hD hS => ?_)
    refine lv_aload_n hx hb dX10_load_27 rfl (lv_at hl 1 rfl) ?_
    refine lv_iconst (v := 0) hx hb dX10_load_28 (by decide) ?_
    refine va_put (D := D) (ci := 7) (v := .int 0) (ty := .int) (C := RX10) (T := TX10) (N := 17) hx hb hts qX10_load_X10 tyX10 tyX10_ok nmX10 hown hK hP hD hS 0 rfl rfl 6 (Nat.le_of_ble_eq_true rfl) (hts (.fieldLink RX10 69 "KnotDiagramModel" "length" "I") qX10_load_1) (fun _ h9 => h9) rfl (by decide +kernel) rfl rfl (Nat.le_of_ble_eq_true rfl) dX10_load_29 (fun H locs hP hD hS => ?_)
    replace hP : va_P D vwCl [(a_this, .inr (7, [.ref a_now, .ref a_history, .int o_saved_2, .ref a_kept, .ref a_isKept, .ref a_text, .int 0, .int o_next_1, .ref a_read, .ref a_uses, .ref a_entry, .ref a_passed, .ref a_draft, .ref a_label, .ref a_met, .ref a_bracket, .ref a_matrix])), (a_now, .inl (cyI, 34, .inl o_now_3)), (a_history, .inl (cyI, 272, .inl o_history_2)), (a_text, .inl (cyI, 160, .inl f_text)), (a_read, .inl (cyI, 34, .inl o_read_1)), (a_uses, .inl (cyI, 17, .inl o_uses_1))] H := hP
    replace hD : va_D A [(a_this, .inr (7, [.ref a_now, .ref a_history, .int o_saved_2, .ref a_kept, .ref a_isKept, .ref a_text, .int 0, .int o_next_1, .ref a_read, .ref a_uses, .ref a_entry, .ref a_passed, .ref a_draft, .ref a_label, .ref a_met, .ref a_bracket, .ref a_matrix])), (a_now, .inl (cyI, 34, .inl o_now_3)), (a_history, .inl (cyI, 272, .inl o_history_2)), (a_text, .inl (cyI, 160, .inl f_text)), (a_read, .inl (cyI, 34, .inl o_read_1)), (a_uses, .inl (cyI, 17, .inl o_uses_1))] := hD
    refine lv_aload_n hx hb dX10_load_32 rfl (lv_at hl 1 rfl) ?_
    obtain ⟨r_4, hc_4, hf⟩ := bnd1_s hf
    refine kcVi (As := []) (rest := []) (w2 := [(a_this, .inr (7, [.ref a_now, .ref a_history, .int o_saved_2, .ref a_kept, .ref a_isKept, .ref a_text, .int 0, .int o_next_1, .ref a_read, .ref a_uses, .ref a_entry, .ref a_passed, .ref a_draft, .ref a_label, .ref a_met, .ref a_bracket, .ref a_matrix])), (a_now, .inl (cyI, 34, .inl o_now_3)), (a_history, .inl (cyI, 272, .inl o_history_2)), (a_text, .inl (cyI, 160, .inl f_text)), (a_read, .inl (cyI, 34, .inl o_read_1)), (a_uses, .inl (cyI, 17, .inl o_uses_1))]) S hK hP hD hS hA hN (mX10_crossings l D cyI cyZ H.size a_this a_now a_history a_kept a_isKept a_text a_read a_uses a_entry a_passed a_draft a_label a_met a_bracket a_matrix o_saved_2 0 o_next_1 o_now_3 r_4 hc_4) (cwV 0 hts gX10_load_X10_crossings rfl rfl rfl (by decide +kernel) ⟨Nat.le_of_ble_eq_true rfl, Nat.le_of_ble_eq_true rfl⟩) 7 0 rfl rfl [0, 1] [2, 3, 4, 5] [4, 5, 0, 1, 2, 3] rfl rfl rfl rfl (by decide) rfl rfl hl.1 (Nat.le_of_ble_eq_true rfl) dX10_load_33 ⟨Nat.le_of_ble_eq_true rfl, Nat.le_of_ble_eq_true rfl⟩ (fun H locs hP hD hS => ?_)
    obtain ⟨rfl, rfl, rfl, rfl, rfl, rfl, rfl, rfl⟩ := some8_s hf
    exact kRi hx hb hr hlocks hP hK hD hS rfl dX10_load_36
  · replace hf := kt_n hf c_5
    refine lv_bipush (v := (-10)) hx hb dX10_load_9 (by decide) ?_
    refine lv_iload_n hx hb dX10_load_11 rfl (lv_at hl 0 rfl) ?_
    refine lv_isub hx hb dX10_load_12 ?_
    obtain ⟨rfl, rfl, rfl, rfl, rfl, rfl, rfl, rfl⟩ := some8_s hf
    exact kRi hx hb hr hlocks hP hK hD hS rfl dX10_load_13
def kX10_crossingCount (f_now : Nat → Int32) : Option (Int32) :=
  bnd1 (kX10_crossings f_now) (fun r_1 => some r_1)
def rmX10_crossingCount : Room := { frames := 1, cells := 0, slots := 0, locals := 20 }
set_option maxHeartbeats 4000000 in
set_option maxRecDepth 100000 in
theorem mX10_crossingCount (l : Launch) (D : va_G) (cyI cyZ : ClassId) (sz : Nat) (a_this a_now a_history a_kept a_isKept a_text a_read a_uses a_entry a_passed a_draft a_label a_met a_bracket a_matrix : Nat) (i_saved : Int32) (i_length : Int32) (i_next : Int32) (f_now : Nat → Int32) (r : Int32) (hf : kX10_crossingCount f_now = some r) : Met l yX10_crossingCount wsX10_crossingCount rmX10_crossingCount (kPre D cyI cyZ [.ref a_this] [(a_this, .inr (7, [.ref a_now, .ref a_history, .int i_saved, .ref a_kept, .ref a_isKept, .ref a_text, .int i_length, .int i_next, .ref a_read, .ref a_uses, .ref a_entry, .ref a_passed, .ref a_draft, .ref a_label, .ref a_met, .ref a_bracket, .ref a_matrix])), (a_now, .inl (cyI, 34, .inl f_now))] sz) (kQi D cyI cyZ (va_A [(a_this, .inr (7, [.ref a_now, .ref a_history, .int i_saved, .ref a_kept, .ref a_isKept, .ref a_text, .int i_length, .int i_next, .ref a_read, .ref a_uses, .ref a_entry, .ref a_passed, .ref a_draft, .ref a_label, .ref a_met, .ref a_bracket, .ref a_matrix])), (a_now, .inl (cyI, 34, .inl f_now))] sz) [(a_this, .inr (7, [.ref a_now, .ref a_history, .int i_saved, .ref a_kept, .ref a_isKept, .ref a_text, .int i_length, .int i_next, .ref a_read, .ref a_uses, .ref a_entry, .ref a_passed, .ref a_draft, .ref a_label, .ref a_met, .ref a_bracket, .ref a_matrix])), (a_now, .inl (cyI, 34, .inl f_now))] r) 0 0 (va_A [(a_this, .inr (7, [.ref a_now, .ref a_history, .int i_saved, .ref a_kept, .ref a_isKept, .ref a_text, .int i_length, .int i_next, .ref a_read, .ref a_uses, .ref a_entry, .ref a_passed, .ref a_draft, .ref a_label, .ref a_met, .ref a_bracket, .ref a_matrix])), (a_now, .inl (cyI, 34, .inl f_now))] sz) := by
  refine Met.ofW (cc := cX10_crossingCount) (maxL := 1) (ret := (some .int)) (by decide) rfl ?_
  intro p e s m args below meth c s₁ B hml hv
  obtain ⟨rfl, hsz, hP, hK, hD0, hN⟩ := hv
  have hx := B.exec
  have hb := B.bytes
  have hr := B.returns
  have hts := atoms_spec (ws := wsX10_crossingCount) B.pre
  have hown : s.vm.findClass RX10 = some m.cls := findClass_of_methodNamed B.named
  have hlocks := B.notSynchronized
  subst hsz
  have hD := hD0.self (sz := s.heap.size)
  generalize hAe : va_A [(a_this, .inr (7, [.ref a_now, .ref a_history, .int i_saved, .ref a_kept, .ref a_isKept, .ref a_text, .int i_length, .int i_next, .ref a_read, .ref a_uses, .ref a_entry, .ref a_passed, .ref a_draft, .ref a_label, .ref a_met, .ref a_bracket, .ref a_matrix])), (a_now, .inl (cyI, 34, .inl f_now))] s.heap.size = A at hD ⊢
  have hA : ∀ q : Nat, s.heap.size ≤ q → A q := fun q h => by rw [← hAe]; exact Or.inr h
  clear hAe hD0
  have hS : va_S A s.heap s.heap [] := va_S.rf
  have S : CallFix p m c cX10_crossingCount 1 s (([.ref a_this] : List Value).toArray) wsX10_crossingCount RX10 := ⟨hx, hb, hml, hown, hts⟩
  have hl := lv_entry ([.ref a_this]) (n := 1) (Nat.le_of_ble_eq_true rfl)
  rw [lg_entry_eq]
  generalize (lg_sl ([.ref a_this]) ++ List.replicate (1 - (lg_sl ([.ref a_this])).length) Slot.unset).toArray = ls at hl ⊢
  replace hl : lv_has ls 1 [(0, .ref a_this)] := hl
  generalize ([] : List Loc) = locs at hS ⊢
  delta kX10_crossingCount at hf
  obtain ⟨H, hH⟩ : ∃ H, H = s.heap := ⟨_, rfl⟩
  have hS : va_S A s.heap H locs := by rw [hH]; exact hS
  have hP : va_P D vwCl [(a_this, .inr (7, [.ref a_now, .ref a_history, .int i_saved, .ref a_kept, .ref a_isKept, .ref a_text, .int i_length, .int i_next, .ref a_read, .ref a_uses, .ref a_entry, .ref a_passed, .ref a_draft, .ref a_label, .ref a_met, .ref a_bracket, .ref a_matrix])), (a_now, .inl (cyI, 34, .inl f_now))] H := by rw [hH]; exact hP
  suffices hgo : W p l e (headSpec wsX10_crossingCount rmX10_crossingCount).room s m (([.ref a_this] : List Value).toArray) below meth c H locs 0 0 (MQ below (kQi D cyI cyZ A [(a_this, .inr (7, [.ref a_now, .ref a_history, .int i_saved, .ref a_kept, .ref a_isKept, .ref a_text, .int i_length, .int i_next, .ref a_read, .ref a_uses, .ref a_entry, .ref a_passed, .ref a_draft, .ref a_label, .ref a_met, .ref a_bracket, .ref a_matrix])), (a_now, .inl (cyI, 34, .inl f_now))] r) (([.ref a_this] : List Value).toArray) s 0 0 A) (F0 m 0 ls []) by rw [hH] at hgo; exact hgo
  clear hH
  refine lv_aload_n hx hb dX10_crossingCount_0 rfl (lv_at hl 0 rfl) ?_
  obtain ⟨r_1, hc_1, hf⟩ := bnd1_s hf
  refine kcVi (As := []) (rest := []) (w2 := [(a_this, .inr (7, [.ref a_now, .ref a_history, .int i_saved, .ref a_kept, .ref a_isKept, .ref a_text, .int i_length, .int i_next, .ref a_read, .ref a_uses, .ref a_entry, .ref a_passed, .ref a_draft, .ref a_label, .ref a_met, .ref a_bracket, .ref a_matrix])), (a_now, .inl (cyI, 34, .inl f_now))]) S hK hP hD hS hA hN (mX10_crossings l D cyI cyZ H.size a_this a_now a_history a_kept a_isKept a_text a_read a_uses a_entry a_passed a_draft a_label a_met a_bracket a_matrix i_saved i_length i_next f_now r_1 hc_1) (cwV 0 hts gX10_crossingCount_X10_crossings rfl rfl rfl (by decide +kernel) ⟨Nat.le_of_ble_eq_true rfl, Nat.le_of_ble_eq_true rfl⟩) 7 0 rfl rfl [0, 1] [] [0, 1] rfl rfl rfl rfl (by decide) rfl rfl hl.1 (Nat.le_of_ble_eq_true rfl) dX10_crossingCount_1 ⟨Nat.le_of_ble_eq_true rfl, Nat.le_of_ble_eq_true rfl⟩ (fun H locs hP hD hS => ?_)
  obtain rfl := some1_s hf
  exact kRi hx hb hr hlocks hP hK hD hS rfl dX10_crossingCount_4
def kX10_circleCount (f_now : Nat → Int32) : Option (Int32) :=
  ck 1 34 (some (f_now (1 : Int32).toNatClampNeg))
def rmX10_circleCount : Room := { frames := 0, cells := 0, slots := 0, locals := 0 }
theorem qX10_circleCount_0 : (.fieldLink RX10 7 "KnotDiagramModel" "now" "[I" : Cond) ∈ wsX10_circleCount := by decide +kernel
theorem qX10_circleCount_X10 : ∀ w ∈ wsX100, w ∈ wsX10_circleCount := by decide +kernel
set_option maxHeartbeats 4000000 in
set_option maxRecDepth 100000 in
theorem mX10_circleCount (l : Launch) (D : va_G) (cyI cyZ : ClassId) (sz : Nat) (a_this a_now a_history a_kept a_isKept a_text a_read a_uses a_entry a_passed a_draft a_label a_met a_bracket a_matrix : Nat) (i_saved : Int32) (i_length : Int32) (i_next : Int32) (f_now : Nat → Int32) (r : Int32) (hf : kX10_circleCount f_now = some r) : Met l yX10_circleCount wsX10_circleCount rmX10_circleCount (kPre D cyI cyZ [.ref a_this] [(a_this, .inr (7, [.ref a_now, .ref a_history, .int i_saved, .ref a_kept, .ref a_isKept, .ref a_text, .int i_length, .int i_next, .ref a_read, .ref a_uses, .ref a_entry, .ref a_passed, .ref a_draft, .ref a_label, .ref a_met, .ref a_bracket, .ref a_matrix])), (a_now, .inl (cyI, 34, .inl f_now))] sz) (kQi D cyI cyZ (va_A [(a_this, .inr (7, [.ref a_now, .ref a_history, .int i_saved, .ref a_kept, .ref a_isKept, .ref a_text, .int i_length, .int i_next, .ref a_read, .ref a_uses, .ref a_entry, .ref a_passed, .ref a_draft, .ref a_label, .ref a_met, .ref a_bracket, .ref a_matrix])), (a_now, .inl (cyI, 34, .inl f_now))] sz) [(a_this, .inr (7, [.ref a_now, .ref a_history, .int i_saved, .ref a_kept, .ref a_isKept, .ref a_text, .int i_length, .int i_next, .ref a_read, .ref a_uses, .ref a_entry, .ref a_passed, .ref a_draft, .ref a_label, .ref a_met, .ref a_bracket, .ref a_matrix])), (a_now, .inl (cyI, 34, .inl f_now))] r) 0 0 (va_A [(a_this, .inr (7, [.ref a_now, .ref a_history, .int i_saved, .ref a_kept, .ref a_isKept, .ref a_text, .int i_length, .int i_next, .ref a_read, .ref a_uses, .ref a_entry, .ref a_passed, .ref a_draft, .ref a_label, .ref a_met, .ref a_bracket, .ref a_matrix])), (a_now, .inl (cyI, 34, .inl f_now))] sz) := by
  refine Met.ofW (cc := cX10_circleCount) (maxL := 1) (ret := (some .int)) (by decide) rfl ?_
  intro p e s m args below meth c s₁ B hml hv
  obtain ⟨rfl, hsz, hP, hK, hD0, hN⟩ := hv
  have hx := B.exec
  have hb := B.bytes
  have hr := B.returns
  have hts := atoms_spec (ws := wsX10_circleCount) B.pre
  have hown : s.vm.findClass RX10 = some m.cls := findClass_of_methodNamed B.named
  have hlocks := B.notSynchronized
  subst hsz
  have hD := hD0.self (sz := s.heap.size)
  generalize hAe : va_A [(a_this, .inr (7, [.ref a_now, .ref a_history, .int i_saved, .ref a_kept, .ref a_isKept, .ref a_text, .int i_length, .int i_next, .ref a_read, .ref a_uses, .ref a_entry, .ref a_passed, .ref a_draft, .ref a_label, .ref a_met, .ref a_bracket, .ref a_matrix])), (a_now, .inl (cyI, 34, .inl f_now))] s.heap.size = A at hD ⊢
  have hA : ∀ q : Nat, s.heap.size ≤ q → A q := fun q h => by rw [← hAe]; exact Or.inr h
  clear hAe hD0
  have hS : va_S A s.heap s.heap [] := va_S.rf
  have S : CallFix p m c cX10_circleCount 1 s (([.ref a_this] : List Value).toArray) wsX10_circleCount RX10 := ⟨hx, hb, hml, hown, hts⟩
  have hl := lv_entry ([.ref a_this]) (n := 1) (Nat.le_of_ble_eq_true rfl)
  rw [lg_entry_eq]
  generalize (lg_sl ([.ref a_this]) ++ List.replicate (1 - (lg_sl ([.ref a_this])).length) Slot.unset).toArray = ls at hl ⊢
  replace hl : lv_has ls 1 [(0, .ref a_this)] := hl
  generalize ([] : List Loc) = locs at hS ⊢
  delta kX10_circleCount at hf
  obtain ⟨H, hH⟩ : ∃ H, H = s.heap := ⟨_, rfl⟩
  have hS : va_S A s.heap H locs := by rw [hH]; exact hS
  have hP : va_P D vwCl [(a_this, .inr (7, [.ref a_now, .ref a_history, .int i_saved, .ref a_kept, .ref a_isKept, .ref a_text, .int i_length, .int i_next, .ref a_read, .ref a_uses, .ref a_entry, .ref a_passed, .ref a_draft, .ref a_label, .ref a_met, .ref a_bracket, .ref a_matrix])), (a_now, .inl (cyI, 34, .inl f_now))] H := by rw [hH]; exact hP
  suffices hgo : W p l e (headSpec wsX10_circleCount rmX10_circleCount).room s m (([.ref a_this] : List Value).toArray) below meth c H locs 0 0 (MQ below (kQi D cyI cyZ A [(a_this, .inr (7, [.ref a_now, .ref a_history, .int i_saved, .ref a_kept, .ref a_isKept, .ref a_text, .int i_length, .int i_next, .ref a_read, .ref a_uses, .ref a_entry, .ref a_passed, .ref a_draft, .ref a_label, .ref a_met, .ref a_bracket, .ref a_matrix])), (a_now, .inl (cyI, 34, .inl f_now))] r) (([.ref a_this] : List Value).toArray) s 0 0 A) (F0 m 0 ls []) by rw [hH] at hgo; exact hgo
  clear hH
  refine lv_aload_n hx hb dX10_circleCount_0 rfl (lv_at hl 0 rfl) ?_
  refine va_get (D := D) (ci := 7) (v := .ref a_now) (C := RX10) (T := TX10) (N := 17) hx hb hts qX10_circleCount_X10 hown hK hP 0 rfl rfl 0 (Nat.le_of_ble_eq_true rfl) (hts (.fieldLink RX10 7 "KnotDiagramModel" "now" "[I") qX10_circleCount_0) (fun _ h9 => h9) rfl dX10_circleCount_1 ?_
  refine lv_iconst (v := 1) hx hb dX10_circleCount_4 (by decide) ?_
  obtain ⟨hi_1, hf⟩ := ck_s hf
  refine va_iald hx hb hK hP 1 0 rfl rfl hi_1 dX10_circleCount_5 ?_
  obtain rfl := some1_s hf
  exact kRi hx hb hr hlocks hP hK hD hS rfl dX10_circleCount_6
def kX10_arcAt_J1   : Option (Int32) :=
  some (-1000001)
def kX10_arcAt (v1 : Int32) (v2 : Int32) (f_now : Nat → Int32) : Option (Int32) :=
  bnd1 (kX10_isCrossing v1 f_now) (fun r_1 => if r_1 = 0 then kX10_arcAt_J1 else bnd1 (kX10_in v2 0 3) (fun r_2 => if r_2 = 0 then kX10_arcAt_J1 else bnd1 (kX10_arc ((4 * v1) + v2) f_now) (fun r_3 => some r_3)))
def rmX10_arcAt : Room := { frames := 2, cells := 0, slots := 0, locals := 43 }
theorem qX10_arcAt_0 : (.constant RX10 68 (-1000001) : Cond) ∈ wsX10_arcAt := by decide +kernel
set_option maxHeartbeats 4000000 in
set_option maxRecDepth 100000 in
theorem mX10_arcAt (l : Launch) (D : va_G) (cyI cyZ : ClassId) (sz : Nat) (a_this a_now a_history a_kept a_isKept a_text a_read a_uses a_entry a_passed a_draft a_label a_met a_bracket a_matrix : Nat) (v1 : Int32) (v2 : Int32) (i_saved : Int32) (i_length : Int32) (i_next : Int32) (f_now : Nat → Int32) (r : Int32) (hf : kX10_arcAt v1 v2 f_now = some r) : Met l yX10_arcAt wsX10_arcAt rmX10_arcAt (kPre D cyI cyZ [.ref a_this, .int v1, .int v2] [(a_this, .inr (7, [.ref a_now, .ref a_history, .int i_saved, .ref a_kept, .ref a_isKept, .ref a_text, .int i_length, .int i_next, .ref a_read, .ref a_uses, .ref a_entry, .ref a_passed, .ref a_draft, .ref a_label, .ref a_met, .ref a_bracket, .ref a_matrix])), (a_now, .inl (cyI, 34, .inl f_now))] sz) (kQi D cyI cyZ (va_A [(a_this, .inr (7, [.ref a_now, .ref a_history, .int i_saved, .ref a_kept, .ref a_isKept, .ref a_text, .int i_length, .int i_next, .ref a_read, .ref a_uses, .ref a_entry, .ref a_passed, .ref a_draft, .ref a_label, .ref a_met, .ref a_bracket, .ref a_matrix])), (a_now, .inl (cyI, 34, .inl f_now))] sz) [(a_this, .inr (7, [.ref a_now, .ref a_history, .int i_saved, .ref a_kept, .ref a_isKept, .ref a_text, .int i_length, .int i_next, .ref a_read, .ref a_uses, .ref a_entry, .ref a_passed, .ref a_draft, .ref a_label, .ref a_met, .ref a_bracket, .ref a_matrix])), (a_now, .inl (cyI, 34, .inl f_now))] r) 0 0 (va_A [(a_this, .inr (7, [.ref a_now, .ref a_history, .int i_saved, .ref a_kept, .ref a_isKept, .ref a_text, .int i_length, .int i_next, .ref a_read, .ref a_uses, .ref a_entry, .ref a_passed, .ref a_draft, .ref a_label, .ref a_met, .ref a_bracket, .ref a_matrix])), (a_now, .inl (cyI, 34, .inl f_now))] sz) := by
  refine Met.ofW (cc := cX10_arcAt) (maxL := 3) (ret := (some .int)) (by decide) rfl ?_
  intro p e s m args below meth c s₁ B hml hv
  obtain ⟨rfl, hsz, hP, hK, hD0, hN⟩ := hv
  have hx := B.exec
  have hb := B.bytes
  have hr := B.returns
  have hts := atoms_spec (ws := wsX10_arcAt) B.pre
  have hown : s.vm.findClass RX10 = some m.cls := findClass_of_methodNamed B.named
  have hlocks := B.notSynchronized
  subst hsz
  have hD := hD0.self (sz := s.heap.size)
  generalize hAe : va_A [(a_this, .inr (7, [.ref a_now, .ref a_history, .int i_saved, .ref a_kept, .ref a_isKept, .ref a_text, .int i_length, .int i_next, .ref a_read, .ref a_uses, .ref a_entry, .ref a_passed, .ref a_draft, .ref a_label, .ref a_met, .ref a_bracket, .ref a_matrix])), (a_now, .inl (cyI, 34, .inl f_now))] s.heap.size = A at hD ⊢
  have hA : ∀ q : Nat, s.heap.size ≤ q → A q := fun q h => by rw [← hAe]; exact Or.inr h
  clear hAe hD0
  have hS : va_S A s.heap s.heap [] := va_S.rf
  have S : CallFix p m c cX10_arcAt 3 s (([.ref a_this, .int v1, .int v2] : List Value).toArray) wsX10_arcAt RX10 := ⟨hx, hb, hml, hown, hts⟩
  have hl := lv_entry ([.ref a_this, .int v1, .int v2]) (n := 3) (Nat.le_of_ble_eq_true rfl)
  rw [lg_entry_eq]
  generalize (lg_sl ([.ref a_this, .int v1, .int v2]) ++ List.replicate (3 - (lg_sl ([.ref a_this, .int v1, .int v2])).length) Slot.unset).toArray = ls at hl ⊢
  replace hl : lv_has ls 3 [(0, .ref a_this), (1, .int v1), (2, .int v2)] := hl
  generalize ([] : List Loc) = locs at hS ⊢
  delta kX10_arcAt at hf
  obtain ⟨H, hH⟩ : ∃ H, H = s.heap := ⟨_, rfl⟩
  have hS : va_S A s.heap H locs := by rw [hH]; exact hS
  have hP : va_P D vwCl [(a_this, .inr (7, [.ref a_now, .ref a_history, .int i_saved, .ref a_kept, .ref a_isKept, .ref a_text, .int i_length, .int i_next, .ref a_read, .ref a_uses, .ref a_entry, .ref a_passed, .ref a_draft, .ref a_label, .ref a_met, .ref a_bracket, .ref a_matrix])), (a_now, .inl (cyI, 34, .inl f_now))] H := by rw [hH]; exact hP
  suffices hgo : W p l e (headSpec wsX10_arcAt rmX10_arcAt).room s m (([.ref a_this, .int v1, .int v2] : List Value).toArray) below meth c H locs 0 0 (MQ below (kQi D cyI cyZ A [(a_this, .inr (7, [.ref a_now, .ref a_history, .int i_saved, .ref a_kept, .ref a_isKept, .ref a_text, .int i_length, .int i_next, .ref a_read, .ref a_uses, .ref a_entry, .ref a_passed, .ref a_draft, .ref a_label, .ref a_met, .ref a_bracket, .ref a_matrix])), (a_now, .inl (cyI, 34, .inl f_now))] r) (([.ref a_this, .int v1, .int v2] : List Value).toArray) s 0 0 A) (F0 m 0 ls []) by rw [hH] at hgo; exact hgo
  clear hH
  refine lv_aload_n hx hb dX10_arcAt_0 rfl (lv_at hl 0 rfl) ?_
  refine lv_iload_n hx hb dX10_arcAt_1 rfl (lv_at hl 1 rfl) ?_
  obtain ⟨r_1, hc_1, hf⟩ := bnd1_s hf
  refine kcVi (As := [.int v1]) (rest := []) (w2 := [(a_this, .inr (7, [.ref a_now, .ref a_history, .int i_saved, .ref a_kept, .ref a_isKept, .ref a_text, .int i_length, .int i_next, .ref a_read, .ref a_uses, .ref a_entry, .ref a_passed, .ref a_draft, .ref a_label, .ref a_met, .ref a_bracket, .ref a_matrix])), (a_now, .inl (cyI, 34, .inl f_now))]) S hK hP hD hS hA hN (mX10_isCrossing l D cyI cyZ H.size a_this a_now a_history a_kept a_isKept a_text a_read a_uses a_entry a_passed a_draft a_label a_met a_bracket a_matrix v1 i_saved i_length i_next f_now r_1 hc_1) (cwV 1 hts gX10_arcAt_X10_isCrossing rfl rfl rfl (by decide +kernel) ⟨Nat.le_of_ble_eq_true rfl, Nat.le_of_ble_eq_true rfl⟩) 7 0 rfl rfl [0, 1] [] [0, 1] rfl rfl rfl rfl (by decide) rfl rfl hl.1 (Nat.le_of_ble_eq_true rfl) dX10_arcAt_2 ⟨Nat.le_of_ble_eq_true rfl, Nat.le_of_ble_eq_true rfl⟩ (fun H locs hP hD hS => ?_)
  have hJ_1 : ∀  (H : Heap) (locs : List Loc) (ls : Array Slot), kX10_arcAt_J1  = some r → va_P D vwCl [(a_this, .inr (7, [.ref a_now, .ref a_history, .int i_saved, .ref a_kept, .ref a_isKept, .ref a_text, .int i_length, .int i_next, .ref a_read, .ref a_uses, .ref a_entry, .ref a_passed, .ref a_draft, .ref a_label, .ref a_met, .ref a_bracket, .ref a_matrix])), (a_now, .inl (cyI, 34, .inl f_now))] H → va_D A [(a_this, .inr (7, [.ref a_now, .ref a_history, .int i_saved, .ref a_kept, .ref a_isKept, .ref a_text, .int i_length, .int i_next, .ref a_read, .ref a_uses, .ref a_entry, .ref a_passed, .ref a_draft, .ref a_label, .ref a_met, .ref a_bracket, .ref a_matrix])), (a_now, .inl (cyI, 34, .inl f_now))] → va_S A s.heap H locs → lv_has ls 3 [] → W p l e (headSpec wsX10_arcAt rmX10_arcAt).room s m (([.ref a_this, .int v1, .int v2] : List Value).toArray) below meth c H locs 0 0 (MQ below (kQi D cyI cyZ A [(a_this, .inr (7, [.ref a_now, .ref a_history, .int i_saved, .ref a_kept, .ref a_isKept, .ref a_text, .int i_length, .int i_next, .ref a_read, .ref a_uses, .ref a_entry, .ref a_passed, .ref a_draft, .ref a_label, .ref a_met, .ref a_bracket, .ref a_matrix])), (a_now, .inl (cyI, 34, .inl f_now))] r) (([.ref a_this, .int v1, .int v2] : List Value).toArray) s 0 0 A) (F0 m 29 ls []) := by
    intro  H locs ls hf hP hD hS hl
    delta kX10_arcAt_J1 at hf
    refine lv_ldc (v := (-1000001)) hx hb hown (hts (.constant RX10 68 (-1000001)) qX10_arcAt_0) dX10_arcAt_29 ?_
    obtain rfl := some1_s hf
    exact kRi hx hb hr hlocks hP hK hD hS rfl dX10_arcAt_31
  refine lv_if_eq (tgt := 29) hx hb dX10_arcAt_5 (by decide) (fun c_5 => ?_) (fun c_5 => ?_)
  · replace hf := kt_p hf c_5
    exact hJ_1 H locs ls hf hP hD hS (lv_sub hl [] rfl)
  · replace hf := kt_n hf c_5
    refine lv_iload_n hx hb dX10_arcAt_8 rfl (lv_at hl 2 rfl) ?_
    refine lv_iconst (v := 0) hx hb dX10_arcAt_9 (by decide) ?_
    refine lv_iconst (v := 3) hx hb dX10_arcAt_10 (by decide) ?_
    obtain ⟨r_2, hc_2, hf⟩ := bnd1_s hf
    refine kcSi (As := [.int v2, .int 0, .int 3]) (rest := []) (w2 := [(a_this, .inr (7, [.ref a_now, .ref a_history, .int i_saved, .ref a_kept, .ref a_isKept, .ref a_text, .int i_length, .int i_next, .ref a_read, .ref a_uses, .ref a_entry, .ref a_passed, .ref a_draft, .ref a_label, .ref a_met, .ref a_bracket, .ref a_matrix])), (a_now, .inl (cyI, 34, .inl f_now))]) S hK hP hD hS hA hN (mX10_in l D cyI cyZ H.size v2 0 3 r_2 hc_2) (va_cwS 3 hts gX10_arcAt_X10_in rfl rfl rfl (by decide +kernel) ⟨Nat.le_of_ble_eq_true rfl, Nat.le_of_ble_eq_true rfl⟩) [] [0, 1] [0, 1] rfl rfl rfl rfl (by decide) rfl rfl hl.1 (Nat.le_of_ble_eq_true rfl) dX10_arcAt_11 ⟨Nat.le_of_ble_eq_true rfl, Nat.le_of_ble_eq_true rfl⟩ (fun H locs hP hD hS => ?_)
    refine lv_if_eq (tgt := 29) hx hb dX10_arcAt_14 (by decide) (fun c_4 => ?_) (fun c_4 => ?_)
    · replace hf := kt_p hf c_4
      exact hJ_1 H locs ls hf hP hD hS (lv_sub hl [] rfl)
    · replace hf := kt_n hf c_4
      refine lv_aload_n hx hb dX10_arcAt_17 rfl (lv_at hl 0 rfl) ?_
      refine lv_iconst (v := 4) hx hb dX10_arcAt_18 (by decide) ?_
      refine lv_iload_n hx hb dX10_arcAt_19 rfl (lv_at hl 1 rfl) ?_
      refine lv_imul hx hb dX10_arcAt_20 ?_
      refine lv_iload_n hx hb dX10_arcAt_21 rfl (lv_at hl 2 rfl) ?_
      refine lv_iadd hx hb dX10_arcAt_22 ?_
      obtain ⟨r_3, hc_3, hf⟩ := bnd1_s hf
      refine kcVi (As := [.int ((4 * v1) + v2)]) (rest := []) (w2 := [(a_this, .inr (7, [.ref a_now, .ref a_history, .int i_saved, .ref a_kept, .ref a_isKept, .ref a_text, .int i_length, .int i_next, .ref a_read, .ref a_uses, .ref a_entry, .ref a_passed, .ref a_draft, .ref a_label, .ref a_met, .ref a_bracket, .ref a_matrix])), (a_now, .inl (cyI, 34, .inl f_now))]) S hK hP hD hS hA hN (mX10_arc l D cyI cyZ H.size a_this a_now a_history a_kept a_isKept a_text a_read a_uses a_entry a_passed a_draft a_label a_met a_bracket a_matrix ((4 * v1) + v2) i_saved i_length i_next f_now r_3 hc_3) (cwV 1 hts gX10_arcAt_X10_arc rfl rfl rfl (by decide +kernel) ⟨Nat.le_of_ble_eq_true rfl, Nat.le_of_ble_eq_true rfl⟩) 7 0 rfl rfl [0, 1] [] [0, 1] rfl rfl rfl rfl (by decide) rfl rfl hl.1 (Nat.le_of_ble_eq_true rfl) dX10_arcAt_23 ⟨Nat.le_of_ble_eq_true rfl, Nat.le_of_ble_eq_true rfl⟩ (fun H locs hP hD hS => ?_)
      refine lv_goto (tgt := 31) hx hb dX10_arcAt_26 (by decide) ?_
      obtain rfl := some1_s hf
      exact kRi hx hb hr hlocks hP hK hD hS rfl dX10_arcAt_31
def kX10_follow_L1 (f_now : Nat → Int32) (v1 : Int32) (K_1 : Int32 → Int32 → (Nat → Int32) → (Nat → Int32) → Option ((Nat → Int32) × (Nat → Int32))) (v2_1 : Int32) (v3_1 : Int32) (f_entry_1 : Nat → Int32) (f_passed_1 : Nat → Int32) : Option ((Nat → Int32) × (Nat → Int32)) :=
  if v3_1 = 0 then some (f_entry_1, f_passed_1) else ck (((v2_1 / 4) * 2) + (irem v2_1 2)) 16 (bnd1 (kX10_arc v2_1 f_now) (fun r_2 => ck r_2 17 (bnd1 (kX10_turn v2_1 2) (fun r_4 => bnd1 (kX10_other r_4 f_now) (fun r_5 => if r_5 = v1 then K_1 r_5 0 (upd f_entry_1 (((v2_1 / 4) * 2) + (irem v2_1 2)).toNatClampNeg (irem v2_1 4)) (upd f_passed_1 r_2.toNatClampNeg (1 &&& 1)) else K_1 r_5 1 (upd f_entry_1 (((v2_1 / 4) * 2) + (irem v2_1 2)).toNatClampNeg (irem v2_1 4)) (upd f_passed_1 r_2.toNatClampNeg (1 &&& 1)))))))
def kX10_follow (v1 : Int32) (f_now : Nat → Int32) (f_entry : Nat → Int32) (f_passed : Nat → Int32) : Option ((Nat → Int32) × (Nat → Int32)) :=
  it4 (kX10_follow_L1 f_now v1) 400 v1 1 f_entry f_passed
def rmX10_follow : Room := { frames := 2, cells := 0, slots := 0, locals := 44 }
theorem qX10_follow_0 : (.fieldLink RX10 32 "KnotDiagramModel" "entry" "[I" : Cond) ∈ wsX10_follow := by decide +kernel
theorem qX10_follow_1 : (.fieldLink RX10 35 "KnotDiagramModel" "passed" "[Z" : Cond) ∈ wsX10_follow := by decide +kernel
theorem qX10_follow_X10 : ∀ w ∈ wsX100, w ∈ wsX10_follow := by decide +kernel
set_option maxHeartbeats 4000000 in
set_option maxRecDepth 100000 in
theorem mX10_follow (l : Launch) (D : va_G) (cyI cyZ : ClassId) (sz : Nat) (a_this a_now a_history a_kept a_isKept a_text a_read a_uses a_entry a_passed a_draft a_label a_met a_bracket a_matrix : Nat) (v1 : Int32) (i_saved : Int32) (i_length : Int32) (i_next : Int32) (f_now : Nat → Int32) (f_entry : Nat → Int32) (f_passed : Nat → Int32) (o_entry : Nat → Int32) (o_passed : Nat → Int32) (hf : kX10_follow v1 f_now f_entry f_passed = some (o_entry, o_passed)) : Met l yX10_follow wsX10_follow rmX10_follow (kPre D cyI cyZ [.ref a_this, .int v1] [(a_this, .inr (7, [.ref a_now, .ref a_history, .int i_saved, .ref a_kept, .ref a_isKept, .ref a_text, .int i_length, .int i_next, .ref a_read, .ref a_uses, .ref a_entry, .ref a_passed, .ref a_draft, .ref a_label, .ref a_met, .ref a_bracket, .ref a_matrix])), (a_now, .inl (cyI, 34, .inl f_now)), (a_entry, .inl (cyI, 16, .inl f_entry)), (a_passed, .inl (cyZ, 17, .inl f_passed))] sz) (kQv D cyI cyZ (va_A [(a_this, .inr (7, [.ref a_now, .ref a_history, .int i_saved, .ref a_kept, .ref a_isKept, .ref a_text, .int i_length, .int i_next, .ref a_read, .ref a_uses, .ref a_entry, .ref a_passed, .ref a_draft, .ref a_label, .ref a_met, .ref a_bracket, .ref a_matrix])), (a_now, .inl (cyI, 34, .inl f_now)), (a_entry, .inl (cyI, 16, .inl f_entry)), (a_passed, .inl (cyZ, 17, .inl f_passed))] sz) [(a_this, .inr (7, [.ref a_now, .ref a_history, .int i_saved, .ref a_kept, .ref a_isKept, .ref a_text, .int i_length, .int i_next, .ref a_read, .ref a_uses, .ref a_entry, .ref a_passed, .ref a_draft, .ref a_label, .ref a_met, .ref a_bracket, .ref a_matrix])), (a_now, .inl (cyI, 34, .inl f_now)), (a_entry, .inl (cyI, 16, .inl o_entry)), (a_passed, .inl (cyZ, 17, .inl o_passed))]) 0 0 (va_A [(a_this, .inr (7, [.ref a_now, .ref a_history, .int i_saved, .ref a_kept, .ref a_isKept, .ref a_text, .int i_length, .int i_next, .ref a_read, .ref a_uses, .ref a_entry, .ref a_passed, .ref a_draft, .ref a_label, .ref a_met, .ref a_bracket, .ref a_matrix])), (a_now, .inl (cyI, 34, .inl f_now)), (a_entry, .inl (cyI, 16, .inl f_entry)), (a_passed, .inl (cyZ, 17, .inl f_passed))] sz) := by
  refine Met.ofW (cc := cX10_follow) (maxL := 4) (ret := none) (by decide) rfl ?_
  intro p e s m args below meth c s₁ B hml hv
  obtain ⟨rfl, hsz, hP, hK, hD0, hN⟩ := hv
  have hx := B.exec
  have hb := B.bytes
  have hr := B.returns
  have hts := atoms_spec (ws := wsX10_follow) B.pre
  have hown : s.vm.findClass RX10 = some m.cls := findClass_of_methodNamed B.named
  have hlocks := B.notSynchronized
  subst hsz
  have hD := hD0.self (sz := s.heap.size)
  generalize hAe : va_A [(a_this, .inr (7, [.ref a_now, .ref a_history, .int i_saved, .ref a_kept, .ref a_isKept, .ref a_text, .int i_length, .int i_next, .ref a_read, .ref a_uses, .ref a_entry, .ref a_passed, .ref a_draft, .ref a_label, .ref a_met, .ref a_bracket, .ref a_matrix])), (a_now, .inl (cyI, 34, .inl f_now)), (a_entry, .inl (cyI, 16, .inl f_entry)), (a_passed, .inl (cyZ, 17, .inl f_passed))] s.heap.size = A at hD ⊢
  have hA : ∀ q : Nat, s.heap.size ≤ q → A q := fun q h => by rw [← hAe]; exact Or.inr h
  clear hAe hD0
  have hS : va_S A s.heap s.heap [] := va_S.rf
  have S : CallFix p m c cX10_follow 4 s (([.ref a_this, .int v1] : List Value).toArray) wsX10_follow RX10 := ⟨hx, hb, hml, hown, hts⟩
  have hl := lv_entry ([.ref a_this, .int v1]) (n := 4) (Nat.le_of_ble_eq_true rfl)
  rw [lg_entry_eq]
  generalize (lg_sl ([.ref a_this, .int v1]) ++ List.replicate (4 - (lg_sl ([.ref a_this, .int v1])).length) Slot.unset).toArray = ls at hl ⊢
  replace hl : lv_has ls 4 [(0, .ref a_this), (1, .int v1)] := hl
  generalize ([] : List Loc) = locs at hS ⊢
  delta kX10_follow at hf
  obtain ⟨H, hH⟩ : ∃ H, H = s.heap := ⟨_, rfl⟩
  have hS : va_S A s.heap H locs := by rw [hH]; exact hS
  have hP : va_P D vwCl [(a_this, .inr (7, [.ref a_now, .ref a_history, .int i_saved, .ref a_kept, .ref a_isKept, .ref a_text, .int i_length, .int i_next, .ref a_read, .ref a_uses, .ref a_entry, .ref a_passed, .ref a_draft, .ref a_label, .ref a_met, .ref a_bracket, .ref a_matrix])), (a_now, .inl (cyI, 34, .inl f_now)), (a_entry, .inl (cyI, 16, .inl f_entry)), (a_passed, .inl (cyZ, 17, .inl f_passed))] H := by rw [hH]; exact hP
  suffices hgo : W p l e (headSpec wsX10_follow rmX10_follow).room s m (([.ref a_this, .int v1] : List Value).toArray) below meth c H locs 0 0 (MQ below (kQv D cyI cyZ A [(a_this, .inr (7, [.ref a_now, .ref a_history, .int i_saved, .ref a_kept, .ref a_isKept, .ref a_text, .int i_length, .int i_next, .ref a_read, .ref a_uses, .ref a_entry, .ref a_passed, .ref a_draft, .ref a_label, .ref a_met, .ref a_bracket, .ref a_matrix])), (a_now, .inl (cyI, 34, .inl f_now)), (a_entry, .inl (cyI, 16, .inl o_entry)), (a_passed, .inl (cyZ, 17, .inl o_passed))]) (([.ref a_this, .int v1] : List Value).toArray) s 0 0 A) (F0 m 0 ls []) by rw [hH] at hgo; exact hgo
  clear hH
  refine lv_iload_n hx hb dX10_follow_0 rfl (lv_at hl 1 rfl) ?_
  refine lv_istore_n (lv' := [(2, .int v1), (0, .ref a_this), (1, .int v1)]) hx hb dX10_follow_1 rfl hl (by decide) rfl (fun ls hl => ?_)
  refine lv_iconst (v := 1) hx hb dX10_follow_2 (by decide) ?_
  refine lv_istore_n (lv' := [(3, .int 1), (2, .int v1), (0, .ref a_this), (1, .int v1)]) hx hb dX10_follow_3 rfl hl (by decide) rfl (fun ls hl => ?_)
  have hL_1 : ∀ (n : Nat) (v2_1 : Int32) (v3_1 : Int32) (f_entry_1 : Nat → Int32) (f_passed_1 : Nat → Int32) (H : Heap) (locs : List Loc) (ls : Array Slot), it4 (kX10_follow_L1 f_now v1) n v2_1 v3_1 f_entry_1 f_passed_1 = some (o_entry, o_passed) → va_P D vwCl [(a_this, .inr (7, [.ref a_now, .ref a_history, .int i_saved, .ref a_kept, .ref a_isKept, .ref a_text, .int i_length, .int i_next, .ref a_read, .ref a_uses, .ref a_entry, .ref a_passed, .ref a_draft, .ref a_label, .ref a_met, .ref a_bracket, .ref a_matrix])), (a_now, .inl (cyI, 34, .inl f_now)), (a_entry, .inl (cyI, 16, .inl f_entry_1)), (a_passed, .inl (cyZ, 17, .inl f_passed_1))] H → va_D A [(a_this, .inr (7, [.ref a_now, .ref a_history, .int i_saved, .ref a_kept, .ref a_isKept, .ref a_text, .int i_length, .int i_next, .ref a_read, .ref a_uses, .ref a_entry, .ref a_passed, .ref a_draft, .ref a_label, .ref a_met, .ref a_bracket, .ref a_matrix])), (a_now, .inl (cyI, 34, .inl f_now)), (a_entry, .inl (cyI, 16, .inl f_entry_1)), (a_passed, .inl (cyZ, 17, .inl f_passed_1))] → va_S A s.heap H locs → lv_has ls 4 [(0, .ref a_this), (1, .int v1), (2, .int v2_1), (3, .int v3_1)] → W p l e (headSpec wsX10_follow rmX10_follow).room s m (([.ref a_this, .int v1] : List Value).toArray) below meth c H locs 0 0 (MQ below (kQv D cyI cyZ A [(a_this, .inr (7, [.ref a_now, .ref a_history, .int i_saved, .ref a_kept, .ref a_isKept, .ref a_text, .int i_length, .int i_next, .ref a_read, .ref a_uses, .ref a_entry, .ref a_passed, .ref a_draft, .ref a_label, .ref a_met, .ref a_bracket, .ref a_matrix])), (a_now, .inl (cyI, 34, .inl f_now)), (a_entry, .inl (cyI, 16, .inl o_entry)), (a_passed, .inl (cyZ, 17, .inl o_passed))]) (([.ref a_this, .int v1] : List Value).toArray) s 0 0 A) (F0 m 4 ls []) := by
    intro n_1
    induction n_1 with
    | zero =>
      intro _ _ _ _ _ _ _ hf
      exact (it4_z hf).elim
    | succ n_1 ih_1 =>
      intro v2_1 v3_1 f_entry_1 f_passed_1 H locs ls hf hP hD hS hl
      replace hf := it4_s hf
      rw [kX10_follow_L1] at hf
      refine lv_iload_n hx hb dX10_follow_4 rfl (lv_at hl 3 rfl) ?_
      refine lv_if_eq (tgt := 60) hx hb dX10_follow_5 (by decide) (fun c_7 => ?_) (fun c_7 => ?_)
      · replace hf := kt_p hf c_7
        obtain ⟨rfl, rfl⟩ := some2_s hf
        exact kRv hx hb hr hlocks hP hK hD hS dX10_follow_60
      · replace hf := kt_n hf c_7
        refine lv_aload_n hx hb dX10_follow_8 rfl (lv_at hl 0 rfl) ?_
        refine va_get (D := D) (ci := 7) (v := .ref a_entry) (C := RX10) (T := TX10) (N := 17) hx hb hts qX10_follow_X10 hown hK hP 0 rfl rfl 10 (Nat.le_of_ble_eq_true rfl) (hts (.fieldLink RX10 32 "KnotDiagramModel" "entry" "[I") qX10_follow_0) (fun _ h9 => h9) rfl dX10_follow_9 ?_
        refine lv_iload_n hx hb dX10_follow_12 rfl (lv_at hl 2 rfl) ?_
        refine lv_iconst (v := 4) hx hb dX10_follow_13 (by decide) ?_
        refine lv_idiv hx hb dX10_follow_14 (by decide) ?_
        refine lv_iconst (v := 2) hx hb dX10_follow_15 (by decide) ?_
        refine lv_imul hx hb dX10_follow_16 ?_
        refine lv_iload_n hx hb dX10_follow_17 rfl (lv_at hl 2 rfl) ?_
        refine lv_iconst (v := 2) hx hb dX10_follow_18 (by decide) ?_
        refine k_irem hx hb dX10_follow_19 (by decide) ?_
        refine lv_iadd hx hb dX10_follow_20 ?_
        refine lv_iload_n hx hb dX10_follow_21 rfl (lv_at hl 2 rfl) ?_
        refine lv_iconst (v := 4) hx hb dX10_follow_22 (by decide) ?_
        refine k_irem hx hb dX10_follow_23 (by decide) ?_
        obtain ⟨hi_1, hf⟩ := ck_s hf
        refine va_iast hx hb hK hP hD hS 2 0 rfl rfl hi_1 dX10_follow_24 (fun H locs hP hD hS => ?_)
        replace hP : va_P D vwCl [(a_this, .inr (7, [.ref a_now, .ref a_history, .int i_saved, .ref a_kept, .ref a_isKept, .ref a_text, .int i_length, .int i_next, .ref a_read, .ref a_uses, .ref a_entry, .ref a_passed, .ref a_draft, .ref a_label, .ref a_met, .ref a_bracket, .ref a_matrix])), (a_now, .inl (cyI, 34, .inl f_now)), (a_entry, .inl (cyI, 16, .inl (upd f_entry_1 (((v2_1 / 4) * 2) + (irem v2_1 2)).toNatClampNeg (irem v2_1 4)))), (a_passed, .inl (cyZ, 17, .inl f_passed_1))] H := hP
        replace hD : va_D A [(a_this, .inr (7, [.ref a_now, .ref a_history, .int i_saved, .ref a_kept, .ref a_isKept, .ref a_text, .int i_length, .int i_next, .ref a_read, .ref a_uses, .ref a_entry, .ref a_passed, .ref a_draft, .ref a_label, .ref a_met, .ref a_bracket, .ref a_matrix])), (a_now, .inl (cyI, 34, .inl f_now)), (a_entry, .inl (cyI, 16, .inl (upd f_entry_1 (((v2_1 / 4) * 2) + (irem v2_1 2)).toNatClampNeg (irem v2_1 4)))), (a_passed, .inl (cyZ, 17, .inl f_passed_1))] := hD
        refine lv_aload_n hx hb dX10_follow_25 rfl (lv_at hl 0 rfl) ?_
        refine va_get (D := D) (ci := 7) (v := .ref a_passed) (C := RX10) (T := TX10) (N := 17) hx hb hts qX10_follow_X10 hown hK hP 0 rfl rfl 11 (Nat.le_of_ble_eq_true rfl) (hts (.fieldLink RX10 35 "KnotDiagramModel" "passed" "[Z") qX10_follow_1) (fun _ h9 => h9) rfl dX10_follow_26 ?_
        refine lv_aload_n hx hb dX10_follow_29 rfl (lv_at hl 0 rfl) ?_
        refine lv_iload_n hx hb dX10_follow_30 rfl (lv_at hl 2 rfl) ?_
        obtain ⟨r_2, hc_2, hf⟩ := bnd1_s hf
        refine kcVi (As := [.int v2_1]) (rest := [.ref a_passed]) (w2 := [(a_this, .inr (7, [.ref a_now, .ref a_history, .int i_saved, .ref a_kept, .ref a_isKept, .ref a_text, .int i_length, .int i_next, .ref a_read, .ref a_uses, .ref a_entry, .ref a_passed, .ref a_draft, .ref a_label, .ref a_met, .ref a_bracket, .ref a_matrix])), (a_now, .inl (cyI, 34, .inl f_now)), (a_entry, .inl (cyI, 16, .inl (upd f_entry_1 (((v2_1 / 4) * 2) + (irem v2_1 2)).toNatClampNeg (irem v2_1 4)))), (a_passed, .inl (cyZ, 17, .inl f_passed_1))]) S hK hP hD hS hA hN (mX10_arc l D cyI cyZ H.size a_this a_now a_history a_kept a_isKept a_text a_read a_uses a_entry a_passed a_draft a_label a_met a_bracket a_matrix v2_1 i_saved i_length i_next f_now r_2 hc_2) (cwV 1 hts gX10_follow_X10_arc rfl rfl rfl (by decide +kernel) ⟨Nat.le_of_ble_eq_true rfl, Nat.le_of_ble_eq_true rfl⟩) 7 0 rfl rfl [0, 1] [2, 3] [2, 3, 0, 1] rfl rfl rfl rfl (by decide) rfl rfl hl.1 (Nat.le_of_ble_eq_true rfl) dX10_follow_31 ⟨Nat.le_of_ble_eq_true rfl, Nat.le_of_ble_eq_true rfl⟩ (fun H locs hP hD hS => ?_)
        refine lv_iconst (v := 1) hx hb dX10_follow_34 (by decide) ?_
        obtain ⟨hi_3, hf⟩ := ck_s hf
        refine va_zast hx hb hK hP hD hS 3 1 rfl rfl hi_3 dX10_follow_35 (fun H locs hP hD hS => ?_)
        replace hP : va_P D vwCl [(a_this, .inr (7, [.ref a_now, .ref a_history, .int i_saved, .ref a_kept, .ref a_isKept, .ref a_text, .int i_length, .int i_next, .ref a_read, .ref a_uses, .ref a_entry, .ref a_passed, .ref a_draft, .ref a_label, .ref a_met, .ref a_bracket, .ref a_matrix])), (a_now, .inl (cyI, 34, .inl f_now)), (a_entry, .inl (cyI, 16, .inl (upd f_entry_1 (((v2_1 / 4) * 2) + (irem v2_1 2)).toNatClampNeg (irem v2_1 4)))), (a_passed, .inl (cyZ, 17, .inl (upd f_passed_1 r_2.toNatClampNeg (1 &&& 1))))] H := hP
        replace hD : va_D A [(a_this, .inr (7, [.ref a_now, .ref a_history, .int i_saved, .ref a_kept, .ref a_isKept, .ref a_text, .int i_length, .int i_next, .ref a_read, .ref a_uses, .ref a_entry, .ref a_passed, .ref a_draft, .ref a_label, .ref a_met, .ref a_bracket, .ref a_matrix])), (a_now, .inl (cyI, 34, .inl f_now)), (a_entry, .inl (cyI, 16, .inl (upd f_entry_1 (((v2_1 / 4) * 2) + (irem v2_1 2)).toNatClampNeg (irem v2_1 4)))), (a_passed, .inl (cyZ, 17, .inl (upd f_passed_1 r_2.toNatClampNeg (1 &&& 1))))] := hD
        refine lv_aload_n hx hb dX10_follow_36 rfl (lv_at hl 0 rfl) ?_
        refine lv_iload_n hx hb dX10_follow_37 rfl (lv_at hl 2 rfl) ?_
        refine lv_iconst (v := 2) hx hb dX10_follow_38 (by decide) ?_
        obtain ⟨r_4, hc_4, hf⟩ := bnd1_s hf
        refine kcSi (As := [.int v2_1, .int 2]) (rest := [.ref a_this]) (w2 := [(a_this, .inr (7, [.ref a_now, .ref a_history, .int i_saved, .ref a_kept, .ref a_isKept, .ref a_text, .int i_length, .int i_next, .ref a_read, .ref a_uses, .ref a_entry, .ref a_passed, .ref a_draft, .ref a_label, .ref a_met, .ref a_bracket, .ref a_matrix])), (a_now, .inl (cyI, 34, .inl f_now)), (a_entry, .inl (cyI, 16, .inl (upd f_entry_1 (((v2_1 / 4) * 2) + (irem v2_1 2)).toNatClampNeg (irem v2_1 4)))), (a_passed, .inl (cyZ, 17, .inl (upd f_passed_1 r_2.toNatClampNeg (1 &&& 1))))]) S hK hP hD hS hA hN (mX10_turn l D cyI cyZ H.size v2_1 2 r_4 hc_4) (va_cwS 2 hts gX10_follow_X10_turn rfl rfl rfl (by decide +kernel) ⟨Nat.le_of_ble_eq_true rfl, Nat.le_of_ble_eq_true rfl⟩) [] [0, 1, 2, 3] [0, 1, 2, 3] rfl rfl rfl rfl (by decide) rfl rfl hl.1 (Nat.le_of_ble_eq_true rfl) dX10_follow_39 ⟨Nat.le_of_ble_eq_true rfl, Nat.le_of_ble_eq_true rfl⟩ (fun H locs hP hD hS => ?_)
        obtain ⟨r_5, hc_5, hf⟩ := bnd1_s hf
        refine kcVi (As := [.int r_4]) (rest := []) (w2 := [(a_this, .inr (7, [.ref a_now, .ref a_history, .int i_saved, .ref a_kept, .ref a_isKept, .ref a_text, .int i_length, .int i_next, .ref a_read, .ref a_uses, .ref a_entry, .ref a_passed, .ref a_draft, .ref a_label, .ref a_met, .ref a_bracket, .ref a_matrix])), (a_now, .inl (cyI, 34, .inl f_now)), (a_entry, .inl (cyI, 16, .inl (upd f_entry_1 (((v2_1 / 4) * 2) + (irem v2_1 2)).toNatClampNeg (irem v2_1 4)))), (a_passed, .inl (cyZ, 17, .inl (upd f_passed_1 r_2.toNatClampNeg (1 &&& 1))))]) S hK hP hD hS hA hN (mX10_other l D cyI cyZ H.size a_this a_now a_history a_kept a_isKept a_text a_read a_uses a_entry a_passed a_draft a_label a_met a_bracket a_matrix r_4 i_saved i_length i_next f_now r_5 hc_5) (cwV 1 hts gX10_follow_X10_other rfl rfl rfl (by decide +kernel) ⟨Nat.le_of_ble_eq_true rfl, Nat.le_of_ble_eq_true rfl⟩) 7 0 rfl rfl [0, 1] [2, 3] [2, 3, 0, 1] rfl rfl rfl rfl (by decide) rfl rfl hl.1 (Nat.le_of_ble_eq_true rfl) dX10_follow_42 ⟨Nat.le_of_ble_eq_true rfl, Nat.le_of_ble_eq_true rfl⟩ (fun H locs hP hD hS => ?_)
        refine lv_istore_n (lv' := [(2, .int r_5), (0, .ref a_this), (1, .int v1), (3, .int v3_1)]) hx hb dX10_follow_45 rfl hl (by decide) rfl (fun ls hl => ?_)
        refine lv_iload_n hx hb dX10_follow_46 rfl (lv_at hl 0 rfl) ?_
        refine lv_iload_n hx hb dX10_follow_47 rfl (lv_at hl 2 rfl) ?_
        refine lv_icmp_eq (tgt := 55) hx hb dX10_follow_48 (by decide) (fun c_6 => ?_) (fun c_6 => ?_)
        · replace hf := kt_p hf c_6
          refine lv_iconst (v := 0) hx hb dX10_follow_55 (by decide) ?_
          refine lv_istore_n (lv' := [(3, .int 0), (2, .int r_5), (0, .ref a_this), (1, .int v1)]) hx hb dX10_follow_56 rfl hl (by decide) rfl (fun ls hl => ?_)
          refine lv_goto (tgt := 4) hx hb dX10_follow_57 (by decide) ?_
          exact ih_1 r_5 0 (upd f_entry_1 (((v2_1 / 4) * 2) + (irem v2_1 2)).toNatClampNeg (irem v2_1 4)) (upd f_passed_1 r_2.toNatClampNeg (1 &&& 1)) H locs ls hf hP hD hS (lv_sub hl [2, 3, 1, 0] rfl)
        · replace hf := kt_n hf c_6
          refine lv_iconst (v := 1) hx hb dX10_follow_51 (by decide) ?_
          refine lv_goto (tgt := 56) hx hb dX10_follow_52 (by decide) ?_
          refine lv_istore_n (lv' := [(3, .int 1), (2, .int r_5), (0, .ref a_this), (1, .int v1)]) hx hb dX10_follow_56 rfl hl (by decide) rfl (fun ls hl => ?_)
          refine lv_goto (tgt := 4) hx hb dX10_follow_57 (by decide) ?_
          exact ih_1 r_5 1 (upd f_entry_1 (((v2_1 / 4) * 2) + (irem v2_1 2)).toNatClampNeg (irem v2_1 4)) (upd f_passed_1 r_2.toNatClampNeg (1 &&& 1)) H locs ls hf hP hD hS (lv_sub hl [2, 3, 1, 0] rfl)
  exact hL_1 400 v1 1 f_entry f_passed H locs ls hf hP hD hS (lv_sub hl [2, 3, 1, 0] rfl)
