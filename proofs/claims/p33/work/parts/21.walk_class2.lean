def kX1_cell_J1   : Option (Int32) :=
  some 0
def kX1_cell (v1 : Int32) (v2 : Int32) (f_cells : Nat → Int32) : Option (Int32) :=
  if ((v1 * 17) + v2) < 0 then kX1_cell_J1 else if 136 ≤ ((v1 * 17) + v2) then kX1_cell_J1 else ck ((v1 * 17) + v2) 136 (some (f_cells ((v1 * 17) + v2).toNatClampNeg))
def rmX1_cell : Room := { frames := 0, cells := 0, slots := 0, locals := 0 }
theorem qX1_cell_0 : (.fieldLink RX1 15 "KnotDiagram$Colouring" "cells" "[I" : Cond) ∈ wsX1_cell := by decide +kernel
theorem qX1_cell_X1 : ∀ w ∈ wsX10, w ∈ wsX1_cell := by decide +kernel
set_option maxHeartbeats 4000000 in
set_option maxRecDepth 100000 in
theorem mX1_cell (l : Launch) (D : va_G) (cyI cyZ : ClassId) (sz : Nat) (a_this a_classes a_cells : Nat) (v1 : Int32) (v2 : Int32) (f_cells : Nat → Int32) (r : Int32) (hf : kX1_cell v1 v2 f_cells = some r) : Met l yX1_cell wsX1_cell rmX1_cell (kPre D cyI cyZ [.ref a_this, .int v1, .int v2] [(a_this, .inr (1, [.ref a_classes, .ref a_cells])), (a_cells, .inl (cyI, 136, .inl f_cells))] sz) (kQi D cyI cyZ (va_A [(a_this, .inr (1, [.ref a_classes, .ref a_cells])), (a_cells, .inl (cyI, 136, .inl f_cells))] sz) [(a_this, .inr (1, [.ref a_classes, .ref a_cells])), (a_cells, .inl (cyI, 136, .inl f_cells))] r) 0 0 (va_A [(a_this, .inr (1, [.ref a_classes, .ref a_cells])), (a_cells, .inl (cyI, 136, .inl f_cells))] sz) := by
  refine Met.ofW (cc := cX1_cell) (maxL := 4) (ret := (some .int)) (by decide) rfl ?_
  intro p e s m args below meth c s₁ B hml hv
  obtain ⟨rfl, hsz, hP, hK, hD0, hN⟩ := hv
  have hx := B.exec
  have hb := B.bytes
  have hr := B.returns
  have hts := atoms_spec (ws := wsX1_cell) B.pre
  have hown : s.vm.findClass RX1 = some m.cls := findClass_of_methodNamed B.named
  have hlocks := B.notSynchronized
  subst hsz
  have hD := hD0.self (sz := s.heap.size)
  generalize hAe : va_A [(a_this, .inr (1, [.ref a_classes, .ref a_cells])), (a_cells, .inl (cyI, 136, .inl f_cells))] s.heap.size = A at hD ⊢
  have hA : ∀ q : Nat, s.heap.size ≤ q → A q := fun q h => by rw [← hAe]; exact Or.inr h
  clear hAe hD0
  have hS : va_S A s.heap s.heap [] := va_S.rf
  have S : CallFix p m c cX1_cell 4 s (([.ref a_this, .int v1, .int v2] : List Value).toArray) wsX1_cell RX1 := ⟨hx, hb, hml, hown, hts⟩
  have hl := lv_entry ([.ref a_this, .int v1, .int v2]) (n := 4) (Nat.le_of_ble_eq_true rfl)
  rw [lg_entry_eq]
  generalize (lg_sl ([.ref a_this, .int v1, .int v2]) ++ List.replicate (4 - (lg_sl ([.ref a_this, .int v1, .int v2])).length) Slot.unset).toArray = ls at hl ⊢
  replace hl : lv_has ls 4 [(0, .ref a_this), (1, .int v1), (2, .int v2)] := hl
  generalize ([] : List Loc) = locs at hS ⊢
  delta kX1_cell at hf
  obtain ⟨H, hH⟩ : ∃ H, H = s.heap := ⟨_, rfl⟩
  have hS : va_S A s.heap H locs := by rw [hH]; exact hS
  have hP : va_P D vwCl [(a_this, .inr (1, [.ref a_classes, .ref a_cells])), (a_cells, .inl (cyI, 136, .inl f_cells))] H := by rw [hH]; exact hP
  suffices hgo : W p l e (headSpec wsX1_cell rmX1_cell).room s m (([.ref a_this, .int v1, .int v2] : List Value).toArray) below meth c H locs 0 0 (MQ below (kQi D cyI cyZ A [(a_this, .inr (1, [.ref a_classes, .ref a_cells])), (a_cells, .inl (cyI, 136, .inl f_cells))] r) (([.ref a_this, .int v1, .int v2] : List Value).toArray) s 0 0 A) (F0 m 0 ls []) by rw [hH] at hgo; exact hgo
  clear hH
  refine lv_iload_n hx hb dX1_cell_0 rfl (lv_at hl 1 rfl) ?_
  refine lv_bipush (v := 17) hx hb dX1_cell_1 (by decide) ?_
  refine lv_imul hx hb dX1_cell_3 ?_
  refine lv_iload_n hx hb dX1_cell_4 rfl (lv_at hl 2 rfl) ?_
  refine lv_iadd hx hb dX1_cell_5 ?_
  refine lv_istore_n (lv' := [(3, .int ((v1 * 17) + v2)), (0, .ref a_this), (1, .int v1), (2, .int v2)]) hx hb dX1_cell_6 rfl hl (by decide) rfl (fun ls hl => ?_)
  refine lv_iload_n hx hb dX1_cell_7 rfl (lv_at hl 0 rfl) ?_
  have hJ_1 : ∀  (H : Heap) (locs : List Loc) (ls : Array Slot), kX1_cell_J1  = some r → va_P D vwCl [(a_this, .inr (1, [.ref a_classes, .ref a_cells])), (a_cells, .inl (cyI, 136, .inl f_cells))] H → va_D A [(a_this, .inr (1, [.ref a_classes, .ref a_cells])), (a_cells, .inl (cyI, 136, .inl f_cells))] → va_S A s.heap H locs → lv_has ls 4 [] → W p l e (headSpec wsX1_cell rmX1_cell).room s m (([.ref a_this, .int v1, .int v2] : List Value).toArray) below meth c H locs 0 0 (MQ below (kQi D cyI cyZ A [(a_this, .inr (1, [.ref a_classes, .ref a_cells])), (a_cells, .inl (cyI, 136, .inl f_cells))] r) (([.ref a_this, .int v1, .int v2] : List Value).toArray) s 0 0 A) (F0 m 27 ls []) := by
    intro  H locs ls hf hP hD hS hl
    delta kX1_cell_J1 at hf
    refine lv_iconst (v := 0) hx hb dX1_cell_27 (by decide) ?_
    obtain rfl := some1_s hf
    exact kRi hx hb hr hlocks hP hK hD hS rfl dX1_cell_28
  refine lv_if_lt (tgt := 27) hx hb dX1_cell_8 (by decide) (fun c_3 => ?_) (fun c_3 => ?_)
  · replace hf := kt_p hf c_3
    exact hJ_1 H locs ls hf hP hD hS (lv_sub hl [] rfl)
  · replace hf := kt_n hf c_3
    refine lv_iload_n hx hb dX1_cell_11 rfl (lv_at hl 0 rfl) ?_
    refine lv_sipush (v := 136) hx hb dX1_cell_12 (by decide) ?_
    refine lv_icmp_ge (tgt := 27) hx hb dX1_cell_15 (by decide) (fun c_2 => ?_) (fun c_2 => ?_)
    · replace hf := kt_p hf c_2
      exact hJ_1 H locs ls hf hP hD hS (lv_sub hl [] rfl)
    · replace hf := kt_n hf c_2
      refine lv_aload_n hx hb dX1_cell_18 rfl (lv_at hl 1 rfl) ?_
      refine va_get (D := D) (ci := 1) (v := .ref a_cells) (C := RX1) (T := TX1) (N := 2) hx hb hts qX1_cell_X1 hown hK hP 0 rfl rfl 1 (Nat.le_of_ble_eq_true rfl) (hts (.fieldLink RX1 15 "KnotDiagram$Colouring" "cells" "[I") qX1_cell_0) (fun _ h9 => h9) rfl dX1_cell_19 ?_
      refine lv_iload_n hx hb dX1_cell_22 rfl (lv_at hl 0 rfl) ?_
      obtain ⟨hi_1, hf⟩ := ck_s hf
      refine va_iald hx hb hK hP 1 0 rfl rfl hi_1 dX1_cell_23 ?_
      refine lv_goto (tgt := 28) hx hb dX1_cell_24 (by decide) ?_
      obtain rfl := some1_s hf
      exact kRi hx hb hr hlocks hP hK hD hS rfl dX1_cell_28
def kX1_setCell (v1 : Int32) (v2 : Int32) (v3 : Int32) (v4 : Int32) (f_cells : Nat → Int32) : Option ((Nat → Int32)) :=
  if ((v1 * 17) + v2) < 0 then some f_cells else if 136 ≤ ((v1 * 17) + v2) then some f_cells else if v4 ≤ 0 then some f_cells else bnd1 (kJ9_floorMod_7cf53 v3 v4) (fun r_1 => ck ((v1 * 17) + v2) 136 (some (upd f_cells ((v1 * 17) + v2).toNatClampNeg r_1)))
def rmX1_setCell : Room := { frames := 1, cells := 0, slots := 0, locals := 22 }
theorem qX1_setCell_0 : (.fieldLink RX1 15 "KnotDiagram$Colouring" "cells" "[I" : Cond) ∈ wsX1_setCell := by decide +kernel
theorem qX1_setCell_X1 : ∀ w ∈ wsX10, w ∈ wsX1_setCell := by decide +kernel
set_option maxHeartbeats 4000000 in
set_option maxRecDepth 100000 in
theorem mX1_setCell (l : Launch) (D : va_G) (cyI cyZ : ClassId) (sz : Nat) (a_this a_classes a_cells : Nat) (v1 : Int32) (v2 : Int32) (v3 : Int32) (v4 : Int32) (f_cells : Nat → Int32) (o_cells : Nat → Int32) (hf : kX1_setCell v1 v2 v3 v4 f_cells = some o_cells) : Met l yX1_setCell wsX1_setCell rmX1_setCell (kPre D cyI cyZ [.ref a_this, .int v1, .int v2, .int v3, .int v4] [(a_this, .inr (1, [.ref a_classes, .ref a_cells])), (a_cells, .inl (cyI, 136, .inl f_cells))] sz) (kQv D cyI cyZ (va_A [(a_this, .inr (1, [.ref a_classes, .ref a_cells])), (a_cells, .inl (cyI, 136, .inl f_cells))] sz) [(a_this, .inr (1, [.ref a_classes, .ref a_cells])), (a_cells, .inl (cyI, 136, .inl o_cells))]) 0 0 (va_A [(a_this, .inr (1, [.ref a_classes, .ref a_cells])), (a_cells, .inl (cyI, 136, .inl f_cells))] sz) := by
  refine Met.ofW (cc := cX1_setCell) (maxL := 6) (ret := none) (by decide) rfl ?_
  intro p e s m args below meth c s₁ B hml hv
  obtain ⟨rfl, hsz, hP, hK, hD0, hN⟩ := hv
  have hx := B.exec
  have hb := B.bytes
  have hr := B.returns
  have hts := atoms_spec (ws := wsX1_setCell) B.pre
  have hown : s.vm.findClass RX1 = some m.cls := findClass_of_methodNamed B.named
  have hlocks := B.notSynchronized
  subst hsz
  have hD := hD0.self (sz := s.heap.size)
  generalize hAe : va_A [(a_this, .inr (1, [.ref a_classes, .ref a_cells])), (a_cells, .inl (cyI, 136, .inl f_cells))] s.heap.size = A at hD ⊢
  have hA : ∀ q : Nat, s.heap.size ≤ q → A q := fun q h => by rw [← hAe]; exact Or.inr h
  clear hAe hD0
  have hS : va_S A s.heap s.heap [] := va_S.rf
  have S : CallFix p m c cX1_setCell 6 s (([.ref a_this, .int v1, .int v2, .int v3, .int v4] : List Value).toArray) wsX1_setCell RX1 := ⟨hx, hb, hml, hown, hts⟩
  have hl := lv_entry ([.ref a_this, .int v1, .int v2, .int v3, .int v4]) (n := 6) (Nat.le_of_ble_eq_true rfl)
  rw [lg_entry_eq]
  generalize (lg_sl ([.ref a_this, .int v1, .int v2, .int v3, .int v4]) ++ List.replicate (6 - (lg_sl ([.ref a_this, .int v1, .int v2, .int v3, .int v4])).length) Slot.unset).toArray = ls at hl ⊢
  replace hl : lv_has ls 6 [(0, .ref a_this), (1, .int v1), (2, .int v2), (3, .int v3), (4, .int v4)] := hl
  generalize ([] : List Loc) = locs at hS ⊢
  delta kX1_setCell at hf
  obtain ⟨H, hH⟩ : ∃ H, H = s.heap := ⟨_, rfl⟩
  have hS : va_S A s.heap H locs := by rw [hH]; exact hS
  have hP : va_P D vwCl [(a_this, .inr (1, [.ref a_classes, .ref a_cells])), (a_cells, .inl (cyI, 136, .inl f_cells))] H := by rw [hH]; exact hP
  suffices hgo : W p l e (headSpec wsX1_setCell rmX1_setCell).room s m (([.ref a_this, .int v1, .int v2, .int v3, .int v4] : List Value).toArray) below meth c H locs 0 0 (MQ below (kQv D cyI cyZ A [(a_this, .inr (1, [.ref a_classes, .ref a_cells])), (a_cells, .inl (cyI, 136, .inl o_cells))]) (([.ref a_this, .int v1, .int v2, .int v3, .int v4] : List Value).toArray) s 0 0 A) (F0 m 0 ls []) by rw [hH] at hgo; exact hgo
  clear hH
  refine lv_iload_n hx hb dX1_setCell_0 rfl (lv_at hl 1 rfl) ?_
  refine lv_bipush (v := 17) hx hb dX1_setCell_1 (by decide) ?_
  refine lv_imul hx hb dX1_setCell_3 ?_
  refine lv_iload_n hx hb dX1_setCell_4 rfl (lv_at hl 2 rfl) ?_
  refine lv_iadd hx hb dX1_setCell_5 ?_
  refine lv_istore (lv' := [(5, .int ((v1 * 17) + v2)), (0, .ref a_this), (1, .int v1), (2, .int v2), (3, .int v3), (4, .int v4)]) hx hb dX1_setCell_6 hl (by decide) rfl (fun ls hl => ?_)
  refine lv_iload hx hb dX1_setCell_8 (lv_at hl 0 rfl) ?_
  refine lv_if_lt (tgt := 39) hx hb dX1_setCell_10 (by decide) (fun c_5 => ?_) (fun c_5 => ?_)
  · replace hf := kt_p hf c_5
    obtain rfl := some1_s hf
    exact kRv hx hb hr hlocks hP hK hD hS dX1_setCell_39
  · replace hf := kt_n hf c_5
    refine lv_iload hx hb dX1_setCell_13 (lv_at hl 0 rfl) ?_
    refine lv_sipush (v := 136) hx hb dX1_setCell_15 (by decide) ?_
    refine lv_icmp_ge (tgt := 39) hx hb dX1_setCell_18 (by decide) (fun c_4 => ?_) (fun c_4 => ?_)
    · replace hf := kt_p hf c_4
      obtain rfl := some1_s hf
      exact kRv hx hb hr hlocks hP hK hD hS dX1_setCell_39
    · replace hf := kt_n hf c_4
      refine lv_iload hx hb dX1_setCell_21 (lv_at hl 5 rfl) ?_
      refine lv_if_le (tgt := 39) hx hb dX1_setCell_23 (by decide) (fun c_3 => ?_) (fun c_3 => ?_)
      · replace hf := kt_p hf c_3
        obtain rfl := some1_s hf
        exact kRv hx hb hr hlocks hP hK hD hS dX1_setCell_39
      · replace hf := kt_n hf c_3
        refine lv_aload_n hx hb dX1_setCell_26 rfl (lv_at hl 1 rfl) ?_
        refine va_get (D := D) (ci := 1) (v := .ref a_cells) (C := RX1) (T := TX1) (N := 2) hx hb hts qX1_setCell_X1 hown hK hP 0 rfl rfl 1 (Nat.le_of_ble_eq_true rfl) (hts (.fieldLink RX1 15 "KnotDiagram$Colouring" "cells" "[I") qX1_setCell_0) (fun _ h9 => h9) rfl dX1_setCell_27 ?_
        refine lv_iload hx hb dX1_setCell_30 (lv_at hl 0 rfl) ?_
        refine lv_iload_n hx hb dX1_setCell_32 rfl (lv_at hl 4 rfl) ?_
        refine lv_iload hx hb dX1_setCell_33 (lv_at hl 5 rfl) ?_
        obtain ⟨r_1, hc_1, hf⟩ := bnd1_s hf
        refine kcSi (As := [.int v3, .int v4]) (rest := [.int ((v1 * 17) + v2), .ref a_cells]) (w2 := [(a_this, .inr (1, [.ref a_classes, .ref a_cells])), (a_cells, .inl (cyI, 136, .inl f_cells))]) S hK hP hD hS hA hN (mJ9_floorMod_7cf53 l D cyI cyZ H.size v3 v4 r_1 hc_1) (va_cwS 2 hts gX1_setCell_J9_floorMod_7cf53 rfl rfl rfl (by decide +kernel) ⟨Nat.le_of_ble_eq_true rfl, Nat.le_of_ble_eq_true rfl⟩) [] [0, 1] [0, 1] rfl rfl rfl rfl (by decide) rfl rfl hl.1 (Nat.le_of_ble_eq_true rfl) dX1_setCell_35 ⟨Nat.le_of_ble_eq_true rfl, Nat.le_of_ble_eq_true rfl⟩ (fun H locs hP hD hS => ?_)
        obtain ⟨hi_2, hf⟩ := ck_s hf
        refine va_iast hx hb hK hP hD hS 1 0 rfl rfl hi_2 dX1_setCell_38 (fun H locs hP hD hS => ?_)
        replace hP : va_P D vwCl [(a_this, .inr (1, [.ref a_classes, .ref a_cells])), (a_cells, .inl (cyI, 136, .inl (upd f_cells ((v1 * 17) + v2).toNatClampNeg r_1)))] H := hP
        replace hD : va_D A [(a_this, .inr (1, [.ref a_classes, .ref a_cells])), (a_cells, .inl (cyI, 136, .inl (upd f_cells ((v1 * 17) + v2).toNatClampNeg r_1)))] := hD
        obtain rfl := some1_s hf
        exact kRv hx hb hr hlocks hP hK hD hS dX1_setCell_39
def kX1_addTerm (v1 : Int32) (v2 : Int32) (v3 : Int32) (v4 : Int32) (f_classes : Nat → Int32) (f_cells : Nat → Int32) : Option ((Nat → Int32)) :=
  bnd1 (kX1_classOf v2 f_classes) (fun r_1 => bnd1 (kX1_cell v1 r_1 f_cells) (fun r_2 => bnd1 (kX1_setCell v1 r_1 (r_2 + v3) v4 f_cells) (fun o_cells_3 => some o_cells_3)))
def rmX1_addTerm : Room := { frames := 2, cells := 0, slots := 0, locals := 47 }
set_option maxHeartbeats 4000000 in
set_option maxRecDepth 100000 in
theorem mX1_addTerm (l : Launch) (D : va_G) (cyI cyZ : ClassId) (sz : Nat) (a_this a_classes a_cells : Nat) (v1 : Int32) (v2 : Int32) (v3 : Int32) (v4 : Int32) (f_classes : Nat → Int32) (f_cells : Nat → Int32) (o_cells : Nat → Int32) (hf : kX1_addTerm v1 v2 v3 v4 f_classes f_cells = some o_cells) : Met l yX1_addTerm wsX1_addTerm rmX1_addTerm (kPre D cyI cyZ [.ref a_this, .int v1, .int v2, .int v3, .int v4] [(a_this, .inr (1, [.ref a_classes, .ref a_cells])), (a_classes, .inl (cyI, 17, .inl f_classes)), (a_cells, .inl (cyI, 136, .inl f_cells))] sz) (kQv D cyI cyZ (va_A [(a_this, .inr (1, [.ref a_classes, .ref a_cells])), (a_classes, .inl (cyI, 17, .inl f_classes)), (a_cells, .inl (cyI, 136, .inl f_cells))] sz) [(a_this, .inr (1, [.ref a_classes, .ref a_cells])), (a_classes, .inl (cyI, 17, .inl f_classes)), (a_cells, .inl (cyI, 136, .inl o_cells))]) 0 0 (va_A [(a_this, .inr (1, [.ref a_classes, .ref a_cells])), (a_classes, .inl (cyI, 17, .inl f_classes)), (a_cells, .inl (cyI, 136, .inl f_cells))] sz) := by
  refine Met.ofW (cc := cX1_addTerm) (maxL := 6) (ret := none) (by decide) rfl ?_
  intro p e s m args below meth c s₁ B hml hv
  obtain ⟨rfl, hsz, hP, hK, hD0, hN⟩ := hv
  have hx := B.exec
  have hb := B.bytes
  have hr := B.returns
  have hts := atoms_spec (ws := wsX1_addTerm) B.pre
  have hown : s.vm.findClass RX1 = some m.cls := findClass_of_methodNamed B.named
  have hlocks := B.notSynchronized
  subst hsz
  have hD := hD0.self (sz := s.heap.size)
  generalize hAe : va_A [(a_this, .inr (1, [.ref a_classes, .ref a_cells])), (a_classes, .inl (cyI, 17, .inl f_classes)), (a_cells, .inl (cyI, 136, .inl f_cells))] s.heap.size = A at hD ⊢
  have hA : ∀ q : Nat, s.heap.size ≤ q → A q := fun q h => by rw [← hAe]; exact Or.inr h
  clear hAe hD0
  have hS : va_S A s.heap s.heap [] := va_S.rf
  have S : CallFix p m c cX1_addTerm 6 s (([.ref a_this, .int v1, .int v2, .int v3, .int v4] : List Value).toArray) wsX1_addTerm RX1 := ⟨hx, hb, hml, hown, hts⟩
  have hl := lv_entry ([.ref a_this, .int v1, .int v2, .int v3, .int v4]) (n := 6) (Nat.le_of_ble_eq_true rfl)
  rw [lg_entry_eq]
  generalize (lg_sl ([.ref a_this, .int v1, .int v2, .int v3, .int v4]) ++ List.replicate (6 - (lg_sl ([.ref a_this, .int v1, .int v2, .int v3, .int v4])).length) Slot.unset).toArray = ls at hl ⊢
  replace hl : lv_has ls 6 [(0, .ref a_this), (1, .int v1), (2, .int v2), (3, .int v3), (4, .int v4)] := hl
  generalize ([] : List Loc) = locs at hS ⊢
  delta kX1_addTerm at hf
  obtain ⟨H, hH⟩ : ∃ H, H = s.heap := ⟨_, rfl⟩
  have hS : va_S A s.heap H locs := by rw [hH]; exact hS
  have hP : va_P D vwCl [(a_this, .inr (1, [.ref a_classes, .ref a_cells])), (a_classes, .inl (cyI, 17, .inl f_classes)), (a_cells, .inl (cyI, 136, .inl f_cells))] H := by rw [hH]; exact hP
  suffices hgo : W p l e (headSpec wsX1_addTerm rmX1_addTerm).room s m (([.ref a_this, .int v1, .int v2, .int v3, .int v4] : List Value).toArray) below meth c H locs 0 0 (MQ below (kQv D cyI cyZ A [(a_this, .inr (1, [.ref a_classes, .ref a_cells])), (a_classes, .inl (cyI, 17, .inl f_classes)), (a_cells, .inl (cyI, 136, .inl o_cells))]) (([.ref a_this, .int v1, .int v2, .int v3, .int v4] : List Value).toArray) s 0 0 A) (F0 m 0 ls []) by rw [hH] at hgo; exact hgo
  clear hH
  refine lv_aload_n hx hb dX1_addTerm_0 rfl (lv_at hl 0 rfl) ?_
  refine lv_iload_n hx hb dX1_addTerm_1 rfl (lv_at hl 2 rfl) ?_
  obtain ⟨r_1, hc_1, hf⟩ := bnd1_s hf
  refine kcVi (As := [.int v2]) (rest := []) (w2 := [(a_this, .inr (1, [.ref a_classes, .ref a_cells])), (a_classes, .inl (cyI, 17, .inl f_classes)), (a_cells, .inl (cyI, 136, .inl f_cells))]) S hK hP hD hS hA hN (mX1_classOf l D cyI cyZ H.size a_this a_classes a_cells v2 f_classes r_1 hc_1) (cwV 1 hts gX1_addTerm_X1_classOf rfl rfl rfl (by decide +kernel) ⟨Nat.le_of_ble_eq_true rfl, Nat.le_of_ble_eq_true rfl⟩) 1 0 rfl rfl [0, 1] [2] [1, 2, 0] rfl rfl rfl rfl (by decide) rfl rfl hl.1 (Nat.le_of_ble_eq_true rfl) dX1_addTerm_2 ⟨Nat.le_of_ble_eq_true rfl, Nat.le_of_ble_eq_true rfl⟩ (fun H locs hP hD hS => ?_)
  refine lv_istore (lv' := [(5, .int r_1), (0, .ref a_this), (1, .int v1), (2, .int v2), (3, .int v3), (4, .int v4)]) hx hb dX1_addTerm_5 hl (by decide) rfl (fun ls hl => ?_)
  refine lv_aload_n hx hb dX1_addTerm_7 rfl (lv_at hl 1 rfl) ?_
  refine lv_iload_n hx hb dX1_addTerm_8 rfl (lv_at hl 2 rfl) ?_
  refine lv_iload hx hb dX1_addTerm_9 (lv_at hl 0 rfl) ?_
  refine lv_aload_n hx hb dX1_addTerm_11 rfl (lv_at hl 1 rfl) ?_
  refine lv_iload_n hx hb dX1_addTerm_12 rfl (lv_at hl 2 rfl) ?_
  refine lv_iload hx hb dX1_addTerm_13 (lv_at hl 0 rfl) ?_
  obtain ⟨r_2, hc_2, hf⟩ := bnd1_s hf
  refine kcVi (As := [.int v1, .int r_1]) (rest := [.int r_1, .int v1, .ref a_this]) (w2 := [(a_this, .inr (1, [.ref a_classes, .ref a_cells])), (a_classes, .inl (cyI, 17, .inl f_classes)), (a_cells, .inl (cyI, 136, .inl f_cells))]) S hK hP hD hS hA hN (mX1_cell l D cyI cyZ H.size a_this a_classes a_cells v1 r_1 f_cells r_2 hc_2) (cwV 2 hts gX1_addTerm_X1_cell rfl rfl rfl (by decide +kernel) ⟨Nat.le_of_ble_eq_true rfl, Nat.le_of_ble_eq_true rfl⟩) 1 0 rfl rfl [0, 2] [1] [1, 0, 2] rfl rfl rfl rfl (by decide) rfl rfl hl.1 (Nat.le_of_ble_eq_true rfl) dX1_addTerm_15 ⟨Nat.le_of_ble_eq_true rfl, Nat.le_of_ble_eq_true rfl⟩ (fun H locs hP hD hS => ?_)
  refine lv_iload_n hx hb dX1_addTerm_18 rfl (lv_at hl 4 rfl) ?_
  refine lv_iadd hx hb dX1_addTerm_19 ?_
  refine lv_iload hx hb dX1_addTerm_20 (lv_at hl 5 rfl) ?_
  obtain ⟨o_cells_3, hc_3, hf⟩ := bnd1_s hf
  refine kcVv (As := [.int v1, .int r_1, .int (r_2 + v3), .int v4]) (rest := []) (w2 := [(a_this, .inr (1, [.ref a_classes, .ref a_cells])), (a_classes, .inl (cyI, 17, .inl f_classes)), (a_cells, .inl (cyI, 136, .inl o_cells_3))]) S hK hP hD hS hA hN (mX1_setCell l D cyI cyZ H.size a_this a_classes a_cells v1 r_1 (r_2 + v3) v4 f_cells o_cells_3 hc_3) (cwV 4 hts gX1_addTerm_X1_setCell rfl rfl rfl (by decide +kernel) ⟨Nat.le_of_ble_eq_true rfl, Nat.le_of_ble_eq_true rfl⟩) 1 0 rfl rfl [0, 2] [1] [1, 0, 2] rfl rfl rfl rfl (by decide) rfl rfl hl.1 (Nat.le_of_ble_eq_true rfl) dX1_addTerm_22 ⟨Nat.le_of_ble_eq_true rfl, Nat.le_of_ble_eq_true rfl⟩ (fun H locs hP hD hS => ?_)
  obtain rfl := some1_s hf
  exact kRv hx hb hr hlocks hP hK hD hS dX1_addTerm_25
def kX1_writeEquations_L2 (i_p1_crossings : Int32) (f_p1_arcs : Nat → Int32) (v2 : Int32) (f_classes : Nat → Int32) (K_2 : Int32 → (Nat → Int32) → Option ((Nat → Int32))) (v4_2 : Int32) (f_cells_2 : Nat → Int32) : Option ((Nat → Int32)) :=
  if i_p1_crossings ≤ v4_2 then some f_cells_2 else bnd1 (kX2_arc (4 * v4_2) f_p1_arcs) (fun r_1 => bnd1 (kX1_addTerm v4_2 r_1 1 v2 f_classes f_cells_2) (fun o_cells_2 => bnd1 (kX2_arc ((4 * v4_2) + 2) f_p1_arcs) (fun r_3 => bnd1 (kX1_addTerm v4_2 r_3 1 v2 f_classes o_cells_2) (fun o_cells_4 => bnd1 (kX2_arc ((4 * v4_2) + 1) f_p1_arcs) (fun r_5 => bnd1 (kX1_addTerm v4_2 r_5 (-2) v2 f_classes o_cells_4) (fun o_cells_6 => K_2 (v4_2 + 1) o_cells_6))))))
def kX1_writeEquations_L1 (i_p1_crossings : Int32) (f_p1_arcs : Nat → Int32) (v2 : Int32) (f_classes : Nat → Int32) (K_1 : Int32 → (Nat → Int32) → Option ((Nat → Int32))) (v3_1 : Int32) (f_cells_1 : Nat → Int32) : Option ((Nat → Int32)) :=
  if 136 ≤ v3_1 then it2 (kX1_writeEquations_L2 i_p1_crossings f_p1_arcs v2 f_classes) 400 0 f_cells_1 else ck v3_1 136 (K_1 (v3_1 + 1) (upd f_cells_1 v3_1.toNatClampNeg 0))
def kX1_writeEquations (v2 : Int32) (f_classes : Nat → Int32) (f_cells : Nat → Int32) (i_p1_crossings : Int32) (f_p1_arcs : Nat → Int32) : Option ((Nat → Int32)) :=
  it2 (kX1_writeEquations_L1 i_p1_crossings f_p1_arcs v2 f_classes) 400 0 f_cells
def rmX1_writeEquations : Room := { frames := 3, cells := 0, slots := 0, locals := 72 }
theorem qX1_writeEquations_0 : (.fieldLink RX1 36 "KnotDiagram$Diagram" "crossings" "I" : Cond) ∈ wsX1_writeEquations := by decide +kernel
theorem qX1_writeEquations_1 : (.fieldLink RX1 15 "KnotDiagram$Colouring" "cells" "[I" : Cond) ∈ wsX1_writeEquations := by decide +kernel
theorem qX1_writeEquations_X2 : ∀ w ∈ wsX20, w ∈ wsX1_writeEquations := by decide +kernel
theorem qX1_writeEquations_X1 : ∀ w ∈ wsX10, w ∈ wsX1_writeEquations := by decide +kernel
set_option maxHeartbeats 4000000 in
set_option maxRecDepth 100000 in
theorem mX1_writeEquations (l : Launch) (D : va_G) (cyI cyZ : ClassId) (sz : Nat) (a_this a_p1 a_classes a_cells a_p1_arcs : Nat) (v2 : Int32) (f_classes : Nat → Int32) (f_cells : Nat → Int32) (i_p1_crossings : Int32) (i_p1_circles : Int32) (f_p1_arcs : Nat → Int32) (o_cells : Nat → Int32) (hf : kX1_writeEquations v2 f_classes f_cells i_p1_crossings f_p1_arcs = some o_cells) : Met l yX1_writeEquations wsX1_writeEquations rmX1_writeEquations (kPre D cyI cyZ [.ref a_this, .ref a_p1, .int v2] [(a_this, .inr (1, [.ref a_classes, .ref a_cells])), (a_classes, .inl (cyI, 17, .inl f_classes)), (a_cells, .inl (cyI, 136, .inl f_cells)), (a_p1, .inr (2, [.int i_p1_crossings, .int i_p1_circles, .ref a_p1_arcs])), (a_p1_arcs, .inl (cyI, 32, .inl f_p1_arcs))] sz) (kQv D cyI cyZ (va_A [(a_this, .inr (1, [.ref a_classes, .ref a_cells])), (a_classes, .inl (cyI, 17, .inl f_classes)), (a_cells, .inl (cyI, 136, .inl f_cells)), (a_p1, .inr (2, [.int i_p1_crossings, .int i_p1_circles, .ref a_p1_arcs])), (a_p1_arcs, .inl (cyI, 32, .inl f_p1_arcs))] sz) [(a_this, .inr (1, [.ref a_classes, .ref a_cells])), (a_classes, .inl (cyI, 17, .inl f_classes)), (a_cells, .inl (cyI, 136, .inl o_cells)), (a_p1, .inr (2, [.int i_p1_crossings, .int i_p1_circles, .ref a_p1_arcs])), (a_p1_arcs, .inl (cyI, 32, .inl f_p1_arcs))]) 0 0 (va_A [(a_this, .inr (1, [.ref a_classes, .ref a_cells])), (a_classes, .inl (cyI, 17, .inl f_classes)), (a_cells, .inl (cyI, 136, .inl f_cells)), (a_p1, .inr (2, [.int i_p1_crossings, .int i_p1_circles, .ref a_p1_arcs])), (a_p1_arcs, .inl (cyI, 32, .inl f_p1_arcs))] sz) := by
  refine Met.ofW (cc := cX1_writeEquations) (maxL := 5) (ret := none) (by decide) rfl ?_
  intro p e s m args below meth c s₁ B hml hv
  obtain ⟨rfl, hsz, hP, hK, hD0, hN⟩ := hv
  have hx := B.exec
  have hb := B.bytes
  have hr := B.returns
  have hts := atoms_spec (ws := wsX1_writeEquations) B.pre
  have hown : s.vm.findClass RX1 = some m.cls := findClass_of_methodNamed B.named
  have hlocks := B.notSynchronized
  subst hsz
  have hD := hD0.self (sz := s.heap.size)
  generalize hAe : va_A [(a_this, .inr (1, [.ref a_classes, .ref a_cells])), (a_classes, .inl (cyI, 17, .inl f_classes)), (a_cells, .inl (cyI, 136, .inl f_cells)), (a_p1, .inr (2, [.int i_p1_crossings, .int i_p1_circles, .ref a_p1_arcs])), (a_p1_arcs, .inl (cyI, 32, .inl f_p1_arcs))] s.heap.size = A at hD ⊢
  have hA : ∀ q : Nat, s.heap.size ≤ q → A q := fun q h => by rw [← hAe]; exact Or.inr h
  clear hAe hD0
  have hS : va_S A s.heap s.heap [] := va_S.rf
  have S : CallFix p m c cX1_writeEquations 5 s (([.ref a_this, .ref a_p1, .int v2] : List Value).toArray) wsX1_writeEquations RX1 := ⟨hx, hb, hml, hown, hts⟩
  have hl := lv_entry ([.ref a_this, .ref a_p1, .int v2]) (n := 5) (Nat.le_of_ble_eq_true rfl)
  rw [lg_entry_eq]
  generalize (lg_sl ([.ref a_this, .ref a_p1, .int v2]) ++ List.replicate (5 - (lg_sl ([.ref a_this, .ref a_p1, .int v2])).length) Slot.unset).toArray = ls at hl ⊢
  replace hl : lv_has ls 5 [(0, .ref a_this), (1, .ref a_p1), (2, .int v2)] := hl
  generalize ([] : List Loc) = locs at hS ⊢
  delta kX1_writeEquations at hf
  obtain ⟨H, hH⟩ : ∃ H, H = s.heap := ⟨_, rfl⟩
  have hS : va_S A s.heap H locs := by rw [hH]; exact hS
  have hP : va_P D vwCl [(a_this, .inr (1, [.ref a_classes, .ref a_cells])), (a_classes, .inl (cyI, 17, .inl f_classes)), (a_cells, .inl (cyI, 136, .inl f_cells)), (a_p1, .inr (2, [.int i_p1_crossings, .int i_p1_circles, .ref a_p1_arcs])), (a_p1_arcs, .inl (cyI, 32, .inl f_p1_arcs))] H := by rw [hH]; exact hP
  suffices hgo : W p l e (headSpec wsX1_writeEquations rmX1_writeEquations).room s m (([.ref a_this, .ref a_p1, .int v2] : List Value).toArray) below meth c H locs 0 0 (MQ below (kQv D cyI cyZ A [(a_this, .inr (1, [.ref a_classes, .ref a_cells])), (a_classes, .inl (cyI, 17, .inl f_classes)), (a_cells, .inl (cyI, 136, .inl o_cells)), (a_p1, .inr (2, [.int i_p1_crossings, .int i_p1_circles, .ref a_p1_arcs])), (a_p1_arcs, .inl (cyI, 32, .inl f_p1_arcs))]) (([.ref a_this, .ref a_p1, .int v2] : List Value).toArray) s 0 0 A) (F0 m 0 ls []) by rw [hH] at hgo; exact hgo
  clear hH
  refine lv_iconst (v := 0) hx hb dX1_writeEquations_0 (by decide) ?_
  refine lv_istore_n (lv' := [(3, .int 0), (0, .ref a_this), (1, .ref a_p1), (2, .int v2)]) hx hb dX1_writeEquations_1 rfl hl (by decide) rfl (fun ls hl => ?_)
  have hL_1 : ∀ (n : Nat) (v3_1 : Int32) (f_cells_1 : Nat → Int32) (H : Heap) (locs : List Loc) (ls : Array Slot), it2 (kX1_writeEquations_L1 i_p1_crossings f_p1_arcs v2 f_classes) n v3_1 f_cells_1 = some o_cells → va_P D vwCl [(a_this, .inr (1, [.ref a_classes, .ref a_cells])), (a_classes, .inl (cyI, 17, .inl f_classes)), (a_cells, .inl (cyI, 136, .inl f_cells_1)), (a_p1, .inr (2, [.int i_p1_crossings, .int i_p1_circles, .ref a_p1_arcs])), (a_p1_arcs, .inl (cyI, 32, .inl f_p1_arcs))] H → va_D A [(a_this, .inr (1, [.ref a_classes, .ref a_cells])), (a_classes, .inl (cyI, 17, .inl f_classes)), (a_cells, .inl (cyI, 136, .inl f_cells_1)), (a_p1, .inr (2, [.int i_p1_crossings, .int i_p1_circles, .ref a_p1_arcs])), (a_p1_arcs, .inl (cyI, 32, .inl f_p1_arcs))] → va_S A s.heap H locs → lv_has ls 5 [(0, .ref a_this), (1, .ref a_p1), (2, .int v2), (3, .int v3_1)] → W p l e (headSpec wsX1_writeEquations rmX1_writeEquations).room s m (([.ref a_this, .ref a_p1, .int v2] : List Value).toArray) below meth c H locs 0 0 (MQ below (kQv D cyI cyZ A [(a_this, .inr (1, [.ref a_classes, .ref a_cells])), (a_classes, .inl (cyI, 17, .inl f_classes)), (a_cells, .inl (cyI, 136, .inl o_cells)), (a_p1, .inr (2, [.int i_p1_crossings, .int i_p1_circles, .ref a_p1_arcs])), (a_p1_arcs, .inl (cyI, 32, .inl f_p1_arcs))]) (([.ref a_this, .ref a_p1, .int v2] : List Value).toArray) s 0 0 A) (F0 m 2 ls []) := by
    intro n_1
    induction n_1 with
    | zero =>
      intro _ _ _ _ _ hf
      exact (it2_z hf).elim
    | succ n_1 ih_1 =>
      intro v3_1 f_cells_1 H locs ls hf hP hD hS hl
      replace hf := it2_s hf
      rw [kX1_writeEquations_L1] at hf
      refine lv_iload_n hx hb dX1_writeEquations_2 rfl (lv_at hl 3 rfl) ?_
      refine lv_sipush (v := 136) hx hb dX1_writeEquations_3 (by decide) ?_
      refine lv_icmp_ge (tgt := 22) hx hb dX1_writeEquations_6 (by decide) (fun c_9 => ?_) (fun c_9 => ?_)
      · replace hf := kt_p hf c_9
        refine lv_aload_n hx hb dX1_writeEquations_22 rfl (lv_at hl 1 rfl) ?_
        refine va_get (D := D) (ci := 2) (v := .int i_p1_crossings) (C := RX2) (T := TX2) (N := 3) hx hb hts qX1_writeEquations_X2 hown hK hP 3 rfl rfl 0 (Nat.le_of_ble_eq_true rfl) (hts (.fieldLink RX1 36 "KnotDiagram$Diagram" "crossings" "I") qX1_writeEquations_0) (fun _ h9 => h9) rfl dX1_writeEquations_23 ?_
        refine lv_istore_n (lv' := [(3, .int i_p1_crossings), (0, .ref a_this), (1, .ref a_p1), (2, .int v2)]) hx hb dX1_writeEquations_26 rfl hl (by decide) rfl (fun ls hl => ?_)
        refine lv_iconst (v := 0) hx hb dX1_writeEquations_27 (by decide) ?_
        refine lv_istore (lv' := [(4, .int 0), (3, .int i_p1_crossings), (0, .ref a_this), (1, .ref a_p1), (2, .int v2)]) hx hb dX1_writeEquations_28 hl (by decide) rfl (fun ls hl => ?_)
        have hL_2 : ∀ (n : Nat) (v4_2 : Int32) (f_cells_2 : Nat → Int32) (H : Heap) (locs : List Loc) (ls : Array Slot), it2 (kX1_writeEquations_L2 i_p1_crossings f_p1_arcs v2 f_classes) n v4_2 f_cells_2 = some o_cells → va_P D vwCl [(a_this, .inr (1, [.ref a_classes, .ref a_cells])), (a_classes, .inl (cyI, 17, .inl f_classes)), (a_cells, .inl (cyI, 136, .inl f_cells_2)), (a_p1, .inr (2, [.int i_p1_crossings, .int i_p1_circles, .ref a_p1_arcs])), (a_p1_arcs, .inl (cyI, 32, .inl f_p1_arcs))] H → va_D A [(a_this, .inr (1, [.ref a_classes, .ref a_cells])), (a_classes, .inl (cyI, 17, .inl f_classes)), (a_cells, .inl (cyI, 136, .inl f_cells_2)), (a_p1, .inr (2, [.int i_p1_crossings, .int i_p1_circles, .ref a_p1_arcs])), (a_p1_arcs, .inl (cyI, 32, .inl f_p1_arcs))] → va_S A s.heap H locs → lv_has ls 5 [(0, .ref a_this), (1, .ref a_p1), (2, .int v2), (3, .int i_p1_crossings), (4, .int v4_2)] → W p l e (headSpec wsX1_writeEquations rmX1_writeEquations).room s m (([.ref a_this, .ref a_p1, .int v2] : List Value).toArray) below meth c H locs 0 0 (MQ below (kQv D cyI cyZ A [(a_this, .inr (1, [.ref a_classes, .ref a_cells])), (a_classes, .inl (cyI, 17, .inl f_classes)), (a_cells, .inl (cyI, 136, .inl o_cells)), (a_p1, .inr (2, [.int i_p1_crossings, .int i_p1_circles, .ref a_p1_arcs])), (a_p1_arcs, .inl (cyI, 32, .inl f_p1_arcs))]) (([.ref a_this, .ref a_p1, .int v2] : List Value).toArray) s 0 0 A) (F0 m 30 ls []) := by
          intro n_2
          induction n_2 with
          | zero =>
            intro _ _ _ _ _ hf
            exact (it2_z hf).elim
          | succ n_2 ih_2 =>
            intro v4_2 f_cells_2 H locs ls hf hP hD hS hl
            replace hf := it2_s hf
            rw [kX1_writeEquations_L2] at hf
            refine lv_iload hx hb dX1_writeEquations_30 (lv_at hl 4 rfl) ?_
            refine lv_iload_n hx hb dX1_writeEquations_32 rfl (lv_at hl 3 rfl) ?_
            refine lv_icmp_ge (tgt := 95) hx hb dX1_writeEquations_33 (by decide) (fun c_7 => ?_) (fun c_7 => ?_)
            · replace hf := kt_p hf c_7
              obtain rfl := some1_s hf
              exact kRv hx hb hr hlocks hP hK hD hS dX1_writeEquations_95
            · replace hf := kt_n hf c_7
              refine lv_aload_n hx hb dX1_writeEquations_36 rfl (lv_at hl 0 rfl) ?_
              refine lv_iload hx hb dX1_writeEquations_37 (lv_at hl 4 rfl) ?_
              refine lv_aload_n hx hb dX1_writeEquations_39 rfl (lv_at hl 1 rfl) ?_
              refine lv_iconst (v := 4) hx hb dX1_writeEquations_40 (by decide) ?_
              refine lv_iload hx hb dX1_writeEquations_41 (lv_at hl 4 rfl) ?_
              refine lv_imul hx hb dX1_writeEquations_43 ?_
              obtain ⟨r_1, hc_1, hf⟩ := bnd1_s hf
              refine kcVi (As := [.int (4 * v4_2)]) (rest := [.int v4_2, .ref a_this]) (w2 := [(a_this, .inr (1, [.ref a_classes, .ref a_cells])), (a_classes, .inl (cyI, 17, .inl f_classes)), (a_cells, .inl (cyI, 136, .inl f_cells_2)), (a_p1, .inr (2, [.int i_p1_crossings, .int i_p1_circles, .ref a_p1_arcs])), (a_p1_arcs, .inl (cyI, 32, .inl f_p1_arcs))]) S hK hP hD hS hA hN (mX2_arc l D cyI cyZ H.size a_p1 a_p1_arcs (4 * v4_2) i_p1_crossings i_p1_circles f_p1_arcs r_1 hc_1) (cwV 1 hts gX1_writeEquations_X2_arc rfl rfl rfl (by decide +kernel) ⟨Nat.le_of_ble_eq_true rfl, Nat.le_of_ble_eq_true rfl⟩) 2 3 rfl rfl [3, 4] [0, 1, 2] [0, 1, 2, 3, 4] rfl rfl rfl rfl (by decide) rfl rfl hl.1 (Nat.le_of_ble_eq_true rfl) dX1_writeEquations_44 ⟨Nat.le_of_ble_eq_true rfl, Nat.le_of_ble_eq_true rfl⟩ (fun H locs hP hD hS => ?_)
              refine lv_iconst (v := 1) hx hb dX1_writeEquations_47 (by decide) ?_
              refine lv_iload_n hx hb dX1_writeEquations_48 rfl (lv_at hl 2 rfl) ?_
              obtain ⟨o_cells_2, hc_2, hf⟩ := bnd1_s hf
              refine kcVv (As := [.int v4_2, .int r_1, .int 1, .int v2]) (rest := []) (w2 := [(a_this, .inr (1, [.ref a_classes, .ref a_cells])), (a_classes, .inl (cyI, 17, .inl f_classes)), (a_cells, .inl (cyI, 136, .inl o_cells_2)), (a_p1, .inr (2, [.int i_p1_crossings, .int i_p1_circles, .ref a_p1_arcs])), (a_p1_arcs, .inl (cyI, 32, .inl f_p1_arcs))]) S hK hP hD hS hA hN (mX1_addTerm l D cyI cyZ H.size a_this a_classes a_cells v4_2 r_1 1 v2 f_classes f_cells_2 o_cells_2 hc_2) (cwV 4 hts gX1_writeEquations_X1_addTerm rfl rfl rfl (by decide +kernel) ⟨Nat.le_of_ble_eq_true rfl, Nat.le_of_ble_eq_true rfl⟩) 1 0 rfl rfl [0, 1, 2] [3, 4] [2, 3, 4, 0, 1] rfl rfl rfl rfl (by decide) rfl rfl hl.1 (Nat.le_of_ble_eq_true rfl) dX1_writeEquations_49 ⟨Nat.le_of_ble_eq_true rfl, Nat.le_of_ble_eq_true rfl⟩ (fun H locs hP hD hS => ?_)
              refine lv_aload_n hx hb dX1_writeEquations_52 rfl (lv_at hl 0 rfl) ?_
              refine lv_iload hx hb dX1_writeEquations_53 (lv_at hl 4 rfl) ?_
              refine lv_aload_n hx hb dX1_writeEquations_55 rfl (lv_at hl 1 rfl) ?_
              refine lv_iconst (v := 4) hx hb dX1_writeEquations_56 (by decide) ?_
              refine lv_iload hx hb dX1_writeEquations_57 (lv_at hl 4 rfl) ?_
              refine lv_imul hx hb dX1_writeEquations_59 ?_
              refine lv_iconst (v := 2) hx hb dX1_writeEquations_60 (by decide) ?_
              refine lv_iadd hx hb dX1_writeEquations_61 ?_
              obtain ⟨r_3, hc_3, hf⟩ := bnd1_s hf
              refine kcVi (As := [.int ((4 * v4_2) + 2)]) (rest := [.int v4_2, .ref a_this]) (w2 := [(a_this, .inr (1, [.ref a_classes, .ref a_cells])), (a_classes, .inl (cyI, 17, .inl f_classes)), (a_cells, .inl (cyI, 136, .inl o_cells_2)), (a_p1, .inr (2, [.int i_p1_crossings, .int i_p1_circles, .ref a_p1_arcs])), (a_p1_arcs, .inl (cyI, 32, .inl f_p1_arcs))]) S hK hP hD hS hA hN (mX2_arc l D cyI cyZ H.size a_p1 a_p1_arcs ((4 * v4_2) + 2) i_p1_crossings i_p1_circles f_p1_arcs r_3 hc_3) (cwV 1 hts gX1_writeEquations_X2_arc rfl rfl rfl (by decide +kernel) ⟨Nat.le_of_ble_eq_true rfl, Nat.le_of_ble_eq_true rfl⟩) 2 3 rfl rfl [3, 4] [0, 1, 2] [0, 1, 2, 3, 4] rfl rfl rfl rfl (by decide) rfl rfl hl.1 (Nat.le_of_ble_eq_true rfl) dX1_writeEquations_62 ⟨Nat.le_of_ble_eq_true rfl, Nat.le_of_ble_eq_true rfl⟩ (fun H locs hP hD hS => ?_)
              refine lv_iconst (v := 1) hx hb dX1_writeEquations_65 (by decide) ?_
              refine lv_iload_n hx hb dX1_writeEquations_66 rfl (lv_at hl 2 rfl) ?_
              obtain ⟨o_cells_4, hc_4, hf⟩ := bnd1_s hf
              refine kcVv (As := [.int v4_2, .int r_3, .int 1, .int v2]) (rest := []) (w2 := [(a_this, .inr (1, [.ref a_classes, .ref a_cells])), (a_classes, .inl (cyI, 17, .inl f_classes)), (a_cells, .inl (cyI, 136, .inl o_cells_4)), (a_p1, .inr (2, [.int i_p1_crossings, .int i_p1_circles, .ref a_p1_arcs])), (a_p1_arcs, .inl (cyI, 32, .inl f_p1_arcs))]) S hK hP hD hS hA hN (mX1_addTerm l D cyI cyZ H.size a_this a_classes a_cells v4_2 r_3 1 v2 f_classes o_cells_2 o_cells_4 hc_4) (cwV 4 hts gX1_writeEquations_X1_addTerm rfl rfl rfl (by decide +kernel) ⟨Nat.le_of_ble_eq_true rfl, Nat.le_of_ble_eq_true rfl⟩) 1 0 rfl rfl [0, 1, 2] [3, 4] [2, 3, 4, 0, 1] rfl rfl rfl rfl (by decide) rfl rfl hl.1 (Nat.le_of_ble_eq_true rfl) dX1_writeEquations_67 ⟨Nat.le_of_ble_eq_true rfl, Nat.le_of_ble_eq_true rfl⟩ (fun H locs hP hD hS => ?_)
              refine lv_aload_n hx hb dX1_writeEquations_70 rfl (lv_at hl 0 rfl) ?_
              refine lv_iload hx hb dX1_writeEquations_71 (lv_at hl 4 rfl) ?_
              refine lv_aload_n hx hb dX1_writeEquations_73 rfl (lv_at hl 1 rfl) ?_
              refine lv_iconst (v := 4) hx hb dX1_writeEquations_74 (by decide) ?_
              refine lv_iload hx hb dX1_writeEquations_75 (lv_at hl 4 rfl) ?_
              refine lv_imul hx hb dX1_writeEquations_77 ?_
              refine lv_iconst (v := 1) hx hb dX1_writeEquations_78 (by decide) ?_
              refine lv_iadd hx hb dX1_writeEquations_79 ?_
              obtain ⟨r_5, hc_5, hf⟩ := bnd1_s hf
              refine kcVi (As := [.int ((4 * v4_2) + 1)]) (rest := [.int v4_2, .ref a_this]) (w2 := [(a_this, .inr (1, [.ref a_classes, .ref a_cells])), (a_classes, .inl (cyI, 17, .inl f_classes)), (a_cells, .inl (cyI, 136, .inl o_cells_4)), (a_p1, .inr (2, [.int i_p1_crossings, .int i_p1_circles, .ref a_p1_arcs])), (a_p1_arcs, .inl (cyI, 32, .inl f_p1_arcs))]) S hK hP hD hS hA hN (mX2_arc l D cyI cyZ H.size a_p1 a_p1_arcs ((4 * v4_2) + 1) i_p1_crossings i_p1_circles f_p1_arcs r_5 hc_5) (cwV 1 hts gX1_writeEquations_X2_arc rfl rfl rfl (by decide +kernel) ⟨Nat.le_of_ble_eq_true rfl, Nat.le_of_ble_eq_true rfl⟩) 2 3 rfl rfl [3, 4] [0, 1, 2] [0, 1, 2, 3, 4] rfl rfl rfl rfl (by decide) rfl rfl hl.1 (Nat.le_of_ble_eq_true rfl) dX1_writeEquations_80 ⟨Nat.le_of_ble_eq_true rfl, Nat.le_of_ble_eq_true rfl⟩ (fun H locs hP hD hS => ?_)
              refine lv_bipush (v := (-2)) hx hb dX1_writeEquations_83 (by decide) ?_
              refine lv_iload_n hx hb dX1_writeEquations_85 rfl (lv_at hl 2 rfl) ?_
              obtain ⟨o_cells_6, hc_6, hf⟩ := bnd1_s hf
              refine kcVv (As := [.int v4_2, .int r_5, .int (-2), .int v2]) (rest := []) (w2 := [(a_this, .inr (1, [.ref a_classes, .ref a_cells])), (a_classes, .inl (cyI, 17, .inl f_classes)), (a_cells, .inl (cyI, 136, .inl o_cells_6)), (a_p1, .inr (2, [.int i_p1_crossings, .int i_p1_circles, .ref a_p1_arcs])), (a_p1_arcs, .inl (cyI, 32, .inl f_p1_arcs))]) S hK hP hD hS hA hN (mX1_addTerm l D cyI cyZ H.size a_this a_classes a_cells v4_2 r_5 (-2) v2 f_classes o_cells_4 o_cells_6 hc_6) (cwV 4 hts gX1_writeEquations_X1_addTerm rfl rfl rfl (by decide +kernel) ⟨Nat.le_of_ble_eq_true rfl, Nat.le_of_ble_eq_true rfl⟩) 1 0 rfl rfl [0, 1, 2] [3, 4] [2, 3, 4, 0, 1] rfl rfl rfl rfl (by decide) rfl rfl hl.1 (Nat.le_of_ble_eq_true rfl) dX1_writeEquations_86 ⟨Nat.le_of_ble_eq_true rfl, Nat.le_of_ble_eq_true rfl⟩ (fun H locs hP hD hS => ?_)
              refine lv_iinc (v := (v4_2 + 1)) (lv' := [(4, .int (v4_2 + 1)), (0, .ref a_this), (1, .ref a_p1), (2, .int v2), (3, .int i_p1_crossings)]) hx hb dX1_writeEquations_89 hl (k := 4) rfl rfl (by decide) rfl (fun ls hl => ?_)
              refine lv_goto (tgt := 30) hx hb dX1_writeEquations_92 (by decide) ?_
              exact ih_2 (v4_2 + 1) o_cells_6 H locs ls hf hP hD hS (lv_sub hl [1, 2, 3, 4, 0] rfl)
        exact hL_2 400 0 f_cells_1 H locs ls hf hP hD hS (lv_sub hl [2, 3, 4, 1, 0] rfl)
      · replace hf := kt_n hf c_9
        refine lv_aload_n hx hb dX1_writeEquations_9 rfl (lv_at hl 0 rfl) ?_
        refine va_get (D := D) (ci := 1) (v := .ref a_cells) (C := RX1) (T := TX1) (N := 2) hx hb hts qX1_writeEquations_X1 hown hK hP 0 rfl rfl 1 (Nat.le_of_ble_eq_true rfl) (hts (.fieldLink RX1 15 "KnotDiagram$Colouring" "cells" "[I") qX1_writeEquations_1) (fun _ h9 => h9) rfl dX1_writeEquations_10 ?_
        refine lv_iload_n hx hb dX1_writeEquations_13 rfl (lv_at hl 3 rfl) ?_
        refine lv_iconst (v := 0) hx hb dX1_writeEquations_14 (by decide) ?_
        obtain ⟨hi_8, hf⟩ := ck_s hf
        refine va_iast hx hb hK hP hD hS 2 0 rfl rfl hi_8 dX1_writeEquations_15 (fun H locs hP hD hS => ?_)
        replace hP : va_P D vwCl [(a_this, .inr (1, [.ref a_classes, .ref a_cells])), (a_classes, .inl (cyI, 17, .inl f_classes)), (a_cells, .inl (cyI, 136, .inl (upd f_cells_1 v3_1.toNatClampNeg 0))), (a_p1, .inr (2, [.int i_p1_crossings, .int i_p1_circles, .ref a_p1_arcs])), (a_p1_arcs, .inl (cyI, 32, .inl f_p1_arcs))] H := hP
        replace hD : va_D A [(a_this, .inr (1, [.ref a_classes, .ref a_cells])), (a_classes, .inl (cyI, 17, .inl f_classes)), (a_cells, .inl (cyI, 136, .inl (upd f_cells_1 v3_1.toNatClampNeg 0))), (a_p1, .inr (2, [.int i_p1_crossings, .int i_p1_circles, .ref a_p1_arcs])), (a_p1_arcs, .inl (cyI, 32, .inl f_p1_arcs))] := hD
        refine lv_iinc (v := (v3_1 + 1)) (lv' := [(3, .int (v3_1 + 1)), (0, .ref a_this), (1, .ref a_p1), (2, .int v2)]) hx hb dX1_writeEquations_16 hl (k := 3) rfl rfl (by decide) rfl (fun ls hl => ?_)
        refine lv_goto (tgt := 2) hx hb dX1_writeEquations_19 (by decide) ?_
        exact ih_1 (v3_1 + 1) (upd f_cells_1 v3_1.toNatClampNeg 0) H locs ls hf hP hD hS (lv_sub hl [1, 2, 3, 0] rfl)
  exact hL_1 400 0 f_cells H locs ls hf hP hD hS (lv_sub hl [1, 2, 3, 0] rfl)
def kX2_firstEnd_L1 (r_1 : Int32) (f_arcs : Nat → Int32) (v1 : Int32) (K_1 : Int32 → Option (Int32)) (v3_1 : Int32) : Option (Int32) :=
  if r_1 ≤ v3_1 then some (-1) else bnd1 (kX2_arc v3_1 f_arcs) (fun r_2 => if r_2 = v1 then some v3_1 else K_1 (v3_1 + 1))
def kX2_firstEnd (v1 : Int32) (i_crossings : Int32) (f_arcs : Nat → Int32) : Option (Int32) :=
  bnd1 (kX2_endCount i_crossings) (fun r_1 => it1 (kX2_firstEnd_L1 r_1 f_arcs v1) 400 0)
def rmX2_firstEnd : Room := { frames := 1, cells := 0, slots := 0, locals := 21 }
set_option maxHeartbeats 4000000 in
set_option maxRecDepth 100000 in
theorem mX2_firstEnd (l : Launch) (D : va_G) (cyI cyZ : ClassId) (sz : Nat) (a_this a_arcs : Nat) (v1 : Int32) (i_crossings : Int32) (i_circles : Int32) (f_arcs : Nat → Int32) (r : Int32) (hf : kX2_firstEnd v1 i_crossings f_arcs = some r) : Met l yX2_firstEnd wsX2_firstEnd rmX2_firstEnd (kPre D cyI cyZ [.ref a_this, .int v1] [(a_this, .inr (2, [.int i_crossings, .int i_circles, .ref a_arcs])), (a_arcs, .inl (cyI, 32, .inl f_arcs))] sz) (kQi D cyI cyZ (va_A [(a_this, .inr (2, [.int i_crossings, .int i_circles, .ref a_arcs])), (a_arcs, .inl (cyI, 32, .inl f_arcs))] sz) [(a_this, .inr (2, [.int i_crossings, .int i_circles, .ref a_arcs])), (a_arcs, .inl (cyI, 32, .inl f_arcs))] r) 0 0 (va_A [(a_this, .inr (2, [.int i_crossings, .int i_circles, .ref a_arcs])), (a_arcs, .inl (cyI, 32, .inl f_arcs))] sz) := by
  refine Met.ofW (cc := cX2_firstEnd) (maxL := 4) (ret := (some .int)) (by decide) rfl ?_
  intro p e s m args below meth c s₁ B hml hv
  obtain ⟨rfl, hsz, hP, hK, hD0, hN⟩ := hv
  have hx := B.exec
  have hb := B.bytes
  have hr := B.returns
  have hts := atoms_spec (ws := wsX2_firstEnd) B.pre
  have hown : s.vm.findClass RX2 = some m.cls := findClass_of_methodNamed B.named
  have hlocks := B.notSynchronized
  subst hsz
  have hD := hD0.self (sz := s.heap.size)
  generalize hAe : va_A [(a_this, .inr (2, [.int i_crossings, .int i_circles, .ref a_arcs])), (a_arcs, .inl (cyI, 32, .inl f_arcs))] s.heap.size = A at hD ⊢
  have hA : ∀ q : Nat, s.heap.size ≤ q → A q := fun q h => by rw [← hAe]; exact Or.inr h
  clear hAe hD0
  have hS : va_S A s.heap s.heap [] := va_S.rf
  have S : CallFix p m c cX2_firstEnd 4 s (([.ref a_this, .int v1] : List Value).toArray) wsX2_firstEnd RX2 := ⟨hx, hb, hml, hown, hts⟩
  have hl := lv_entry ([.ref a_this, .int v1]) (n := 4) (Nat.le_of_ble_eq_true rfl)
  rw [lg_entry_eq]
  generalize (lg_sl ([.ref a_this, .int v1]) ++ List.replicate (4 - (lg_sl ([.ref a_this, .int v1])).length) Slot.unset).toArray = ls at hl ⊢
  replace hl : lv_has ls 4 [(0, .ref a_this), (1, .int v1)] := hl
  generalize ([] : List Loc) = locs at hS ⊢
  delta kX2_firstEnd at hf
  obtain ⟨H, hH⟩ : ∃ H, H = s.heap := ⟨_, rfl⟩
  have hS : va_S A s.heap H locs := by rw [hH]; exact hS
  have hP : va_P D vwCl [(a_this, .inr (2, [.int i_crossings, .int i_circles, .ref a_arcs])), (a_arcs, .inl (cyI, 32, .inl f_arcs))] H := by rw [hH]; exact hP
  suffices hgo : W p l e (headSpec wsX2_firstEnd rmX2_firstEnd).room s m (([.ref a_this, .int v1] : List Value).toArray) below meth c H locs 0 0 (MQ below (kQi D cyI cyZ A [(a_this, .inr (2, [.int i_crossings, .int i_circles, .ref a_arcs])), (a_arcs, .inl (cyI, 32, .inl f_arcs))] r) (([.ref a_this, .int v1] : List Value).toArray) s 0 0 A) (F0 m 0 ls []) by rw [hH] at hgo; exact hgo
  clear hH
  refine lv_aload_n hx hb dX2_firstEnd_0 rfl (lv_at hl 0 rfl) ?_
  obtain ⟨r_1, hc_1, hf⟩ := bnd1_s hf
  refine kcVi (As := []) (rest := []) (w2 := [(a_this, .inr (2, [.int i_crossings, .int i_circles, .ref a_arcs])), (a_arcs, .inl (cyI, 32, .inl f_arcs))]) S hK hP hD hS hA hN (mX2_endCount l D cyI cyZ H.size a_this a_arcs i_crossings i_circles r_1 hc_1) (cwV 0 hts gX2_firstEnd_X2_endCount rfl rfl rfl (by decide +kernel) ⟨Nat.le_of_ble_eq_true rfl, Nat.le_of_ble_eq_true rfl⟩) 2 0 rfl rfl [0] [1] [1, 0] rfl rfl rfl rfl (by decide) rfl rfl hl.1 (Nat.le_of_ble_eq_true rfl) dX2_firstEnd_1 ⟨Nat.le_of_ble_eq_true rfl, Nat.le_of_ble_eq_true rfl⟩ (fun H locs hP hD hS => ?_)
  refine lv_istore_n (lv' := [(2, .int r_1), (0, .ref a_this), (1, .int v1)]) hx hb dX2_firstEnd_4 rfl hl (by decide) rfl (fun ls hl => ?_)
  refine lv_iconst (v := 0) hx hb dX2_firstEnd_5 (by decide) ?_
  refine lv_istore_n (lv' := [(3, .int 0), (2, .int r_1), (0, .ref a_this), (1, .int v1)]) hx hb dX2_firstEnd_6 rfl hl (by decide) rfl (fun ls hl => ?_)
  have hL_1 : ∀ (n : Nat) (v3_1 : Int32) (H : Heap) (locs : List Loc) (ls : Array Slot), it1 (kX2_firstEnd_L1 r_1 f_arcs v1) n v3_1 = some r → va_P D vwCl [(a_this, .inr (2, [.int i_crossings, .int i_circles, .ref a_arcs])), (a_arcs, .inl (cyI, 32, .inl f_arcs))] H → va_D A [(a_this, .inr (2, [.int i_crossings, .int i_circles, .ref a_arcs])), (a_arcs, .inl (cyI, 32, .inl f_arcs))] → va_S A s.heap H locs → lv_has ls 4 [(0, .ref a_this), (1, .int v1), (2, .int r_1), (3, .int v3_1)] → W p l e (headSpec wsX2_firstEnd rmX2_firstEnd).room s m (([.ref a_this, .int v1] : List Value).toArray) below meth c H locs 0 0 (MQ below (kQi D cyI cyZ A [(a_this, .inr (2, [.int i_crossings, .int i_circles, .ref a_arcs])), (a_arcs, .inl (cyI, 32, .inl f_arcs))] r) (([.ref a_this, .int v1] : List Value).toArray) s 0 0 A) (F0 m 7 ls []) := by
    intro n_1
    induction n_1 with
    | zero =>
      intro _ _ _ _ hf
      exact (it1_z hf).elim
    | succ n_1 ih_1 =>
      intro v3_1 H locs ls hf hP hD hS hl
      replace hf := it1_s hf
      rw [kX2_firstEnd_L1] at hf
      refine lv_iload_n hx hb dX2_firstEnd_7 rfl (lv_at hl 3 rfl) ?_
      refine lv_iload_n hx hb dX2_firstEnd_8 rfl (lv_at hl 2 rfl) ?_
      refine lv_icmp_ge (tgt := 29) hx hb dX2_firstEnd_9 (by decide) (fun c_4 => ?_) (fun c_4 => ?_)
      · replace hf := kt_p hf c_4
        refine lv_iconst (v := (-1)) hx hb dX2_firstEnd_29 (by decide) ?_
        obtain rfl := some1_s hf
        exact kRi hx hb hr hlocks hP hK hD hS rfl dX2_firstEnd_30
      · replace hf := kt_n hf c_4
        refine lv_aload_n hx hb dX2_firstEnd_12 rfl (lv_at hl 0 rfl) ?_
        refine lv_iload_n hx hb dX2_firstEnd_13 rfl (lv_at hl 3 rfl) ?_
        obtain ⟨r_2, hc_2, hf⟩ := bnd1_s hf
        refine kcVi (As := [.int v3_1]) (rest := []) (w2 := [(a_this, .inr (2, [.int i_crossings, .int i_circles, .ref a_arcs])), (a_arcs, .inl (cyI, 32, .inl f_arcs))]) S hK hP hD hS hA hN (mX2_arc l D cyI cyZ H.size a_this a_arcs v3_1 i_crossings i_circles f_arcs r_2 hc_2) (cwV 1 hts gX2_firstEnd_X2_arc rfl rfl rfl (by decide +kernel) ⟨Nat.le_of_ble_eq_true rfl, Nat.le_of_ble_eq_true rfl⟩) 2 0 rfl rfl [0, 1] [] [0, 1] rfl rfl rfl rfl (by decide) rfl rfl hl.1 (Nat.le_of_ble_eq_true rfl) dX2_firstEnd_14 ⟨Nat.le_of_ble_eq_true rfl, Nat.le_of_ble_eq_true rfl⟩ (fun H locs hP hD hS => ?_)
        refine lv_iload_n hx hb dX2_firstEnd_17 rfl (lv_at hl 1 rfl) ?_
        refine lv_icmp_ne (tgt := 23) hx hb dX2_firstEnd_18 (by decide) (fun c_3 => ?_) (fun c_3 => ?_)
        · replace hf := kt_n hf c_3
          refine lv_iinc (v := (v3_1 + 1)) (lv' := [(3, .int (v3_1 + 1)), (0, .ref a_this), (1, .int v1), (2, .int r_1)]) hx hb dX2_firstEnd_23 hl (k := 3) rfl rfl (by decide) rfl (fun ls hl => ?_)
          refine lv_goto (tgt := 7) hx hb dX2_firstEnd_26 (by decide) ?_
          exact ih_1 (v3_1 + 1) H locs ls hf hP hD hS (lv_sub hl [1, 2, 3, 0] rfl)
        · replace hf := kt_p hf c_3
          refine lv_iload_n hx hb dX2_firstEnd_21 rfl (lv_at hl 3 rfl) ?_
          obtain rfl := some1_s hf
          exact kRi hx hb hr hlocks hP hK hD hS rfl dX2_firstEnd_22
  exact hL_1 400 0 H locs ls hf hP hD hS (lv_sub hl [2, 3, 1, 0] rfl)
def kX1_countClasses_L1 (f_classes : Nat → Int32) (i_p1_crossings : Int32) (f_p1_arcs : Nat → Int32) (K_1 : Int32 → Int32 → Option (Int32)) (v2_1 : Int32) (v3_1 : Int32) : Option (Int32) :=
  if 16 < v3_1 then some v2_1 else bnd1 (kX1_classOf v3_1 f_classes) (fun r_1 => if r_1 = v3_1 then bnd1 (kX2_firstEnd v3_1 i_p1_crossings f_p1_arcs) (fun r_2 => if r_2 < 0 then K_1 v2_1 (v3_1 + 1) else K_1 (v2_1 + 1) (v3_1 + 1)) else K_1 v2_1 (v3_1 + 1))
def kX1_countClasses (f_classes : Nat → Int32) (i_p1_crossings : Int32) (f_p1_arcs : Nat → Int32) : Option (Int32) :=
  it2 (kX1_countClasses_L1 f_classes i_p1_crossings f_p1_arcs) 400 0 1
def rmX1_countClasses : Room := { frames := 2, cells := 0, slots := 0, locals := 44 }
set_option maxHeartbeats 4000000 in
set_option maxRecDepth 100000 in
theorem mX1_countClasses (l : Launch) (D : va_G) (cyI cyZ : ClassId) (sz : Nat) (a_this a_p1 a_classes a_cells a_p1_arcs : Nat) (f_classes : Nat → Int32) (i_p1_crossings : Int32) (i_p1_circles : Int32) (f_p1_arcs : Nat → Int32) (r : Int32) (hf : kX1_countClasses f_classes i_p1_crossings f_p1_arcs = some r) : Met l yX1_countClasses wsX1_countClasses rmX1_countClasses (kPre D cyI cyZ [.ref a_this, .ref a_p1] [(a_this, .inr (1, [.ref a_classes, .ref a_cells])), (a_classes, .inl (cyI, 17, .inl f_classes)), (a_p1, .inr (2, [.int i_p1_crossings, .int i_p1_circles, .ref a_p1_arcs])), (a_p1_arcs, .inl (cyI, 32, .inl f_p1_arcs))] sz) (kQi D cyI cyZ (va_A [(a_this, .inr (1, [.ref a_classes, .ref a_cells])), (a_classes, .inl (cyI, 17, .inl f_classes)), (a_p1, .inr (2, [.int i_p1_crossings, .int i_p1_circles, .ref a_p1_arcs])), (a_p1_arcs, .inl (cyI, 32, .inl f_p1_arcs))] sz) [(a_this, .inr (1, [.ref a_classes, .ref a_cells])), (a_classes, .inl (cyI, 17, .inl f_classes)), (a_p1, .inr (2, [.int i_p1_crossings, .int i_p1_circles, .ref a_p1_arcs])), (a_p1_arcs, .inl (cyI, 32, .inl f_p1_arcs))] r) 0 0 (va_A [(a_this, .inr (1, [.ref a_classes, .ref a_cells])), (a_classes, .inl (cyI, 17, .inl f_classes)), (a_p1, .inr (2, [.int i_p1_crossings, .int i_p1_circles, .ref a_p1_arcs])), (a_p1_arcs, .inl (cyI, 32, .inl f_p1_arcs))] sz) := by
  refine Met.ofW (cc := cX1_countClasses) (maxL := 4) (ret := (some .int)) (by decide) rfl ?_
  intro p e s m args below meth c s₁ B hml hv
  obtain ⟨rfl, hsz, hP, hK, hD0, hN⟩ := hv
  have hx := B.exec
  have hb := B.bytes
  have hr := B.returns
  have hts := atoms_spec (ws := wsX1_countClasses) B.pre
  have hown : s.vm.findClass RX1 = some m.cls := findClass_of_methodNamed B.named
  have hlocks := B.notSynchronized
  subst hsz
  have hD := hD0.self (sz := s.heap.size)
  generalize hAe : va_A [(a_this, .inr (1, [.ref a_classes, .ref a_cells])), (a_classes, .inl (cyI, 17, .inl f_classes)), (a_p1, .inr (2, [.int i_p1_crossings, .int i_p1_circles, .ref a_p1_arcs])), (a_p1_arcs, .inl (cyI, 32, .inl f_p1_arcs))] s.heap.size = A at hD ⊢
  have hA : ∀ q : Nat, s.heap.size ≤ q → A q := fun q h => by rw [← hAe]; exact Or.inr h
  clear hAe hD0
  have hS : va_S A s.heap s.heap [] := va_S.rf
  have S : CallFix p m c cX1_countClasses 4 s (([.ref a_this, .ref a_p1] : List Value).toArray) wsX1_countClasses RX1 := ⟨hx, hb, hml, hown, hts⟩
  have hl := lv_entry ([.ref a_this, .ref a_p1]) (n := 4) (Nat.le_of_ble_eq_true rfl)
  rw [lg_entry_eq]
  generalize (lg_sl ([.ref a_this, .ref a_p1]) ++ List.replicate (4 - (lg_sl ([.ref a_this, .ref a_p1])).length) Slot.unset).toArray = ls at hl ⊢
  replace hl : lv_has ls 4 [(0, .ref a_this), (1, .ref a_p1)] := hl
  generalize ([] : List Loc) = locs at hS ⊢
  delta kX1_countClasses at hf
  obtain ⟨H, hH⟩ : ∃ H, H = s.heap := ⟨_, rfl⟩
  have hS : va_S A s.heap H locs := by rw [hH]; exact hS
  have hP : va_P D vwCl [(a_this, .inr (1, [.ref a_classes, .ref a_cells])), (a_classes, .inl (cyI, 17, .inl f_classes)), (a_p1, .inr (2, [.int i_p1_crossings, .int i_p1_circles, .ref a_p1_arcs])), (a_p1_arcs, .inl (cyI, 32, .inl f_p1_arcs))] H := by rw [hH]; exact hP
  suffices hgo : W p l e (headSpec wsX1_countClasses rmX1_countClasses).room s m (([.ref a_this, .ref a_p1] : List Value).toArray) below meth c H locs 0 0 (MQ below (kQi D cyI cyZ A [(a_this, .inr (1, [.ref a_classes, .ref a_cells])), (a_classes, .inl (cyI, 17, .inl f_classes)), (a_p1, .inr (2, [.int i_p1_crossings, .int i_p1_circles, .ref a_p1_arcs])), (a_p1_arcs, .inl (cyI, 32, .inl f_p1_arcs))] r) (([.ref a_this, .ref a_p1] : List Value).toArray) s 0 0 A) (F0 m 0 ls []) by rw [hH] at hgo; exact hgo
  clear hH
  refine lv_iconst (v := 0) hx hb dX1_countClasses_0 (by decide) ?_
  refine lv_istore_n (lv' := [(2, .int 0), (0, .ref a_this), (1, .ref a_p1)]) hx hb dX1_countClasses_1 rfl hl (by decide) rfl (fun ls hl => ?_)
  refine lv_iconst (v := 1) hx hb dX1_countClasses_2 (by decide) ?_
  refine lv_istore_n (lv' := [(3, .int 1), (2, .int 0), (0, .ref a_this), (1, .ref a_p1)]) hx hb dX1_countClasses_3 rfl hl (by decide) rfl (fun ls hl => ?_)
  have hL_1 : ∀ (n : Nat) (v2_1 : Int32) (v3_1 : Int32) (H : Heap) (locs : List Loc) (ls : Array Slot), it2 (kX1_countClasses_L1 f_classes i_p1_crossings f_p1_arcs) n v2_1 v3_1 = some r → va_P D vwCl [(a_this, .inr (1, [.ref a_classes, .ref a_cells])), (a_classes, .inl (cyI, 17, .inl f_classes)), (a_p1, .inr (2, [.int i_p1_crossings, .int i_p1_circles, .ref a_p1_arcs])), (a_p1_arcs, .inl (cyI, 32, .inl f_p1_arcs))] H → va_D A [(a_this, .inr (1, [.ref a_classes, .ref a_cells])), (a_classes, .inl (cyI, 17, .inl f_classes)), (a_p1, .inr (2, [.int i_p1_crossings, .int i_p1_circles, .ref a_p1_arcs])), (a_p1_arcs, .inl (cyI, 32, .inl f_p1_arcs))] → va_S A s.heap H locs → lv_has ls 4 [(0, .ref a_this), (1, .ref a_p1), (2, .int v2_1), (3, .int v3_1)] → W p l e (headSpec wsX1_countClasses rmX1_countClasses).room s m (([.ref a_this, .ref a_p1] : List Value).toArray) below meth c H locs 0 0 (MQ below (kQi D cyI cyZ A [(a_this, .inr (1, [.ref a_classes, .ref a_cells])), (a_classes, .inl (cyI, 17, .inl f_classes)), (a_p1, .inr (2, [.int i_p1_crossings, .int i_p1_circles, .ref a_p1_arcs])), (a_p1_arcs, .inl (cyI, 32, .inl f_p1_arcs))] r) (([.ref a_this, .ref a_p1] : List Value).toArray) s 0 0 A) (F0 m 4 ls []) := by
    intro n_1
    induction n_1 with
    | zero =>
      intro _ _ _ _ _ hf
      exact (it2_z hf).elim
    | succ n_1 ih_1 =>
      intro v2_1 v3_1 H locs ls hf hP hD hS hl
      replace hf := it2_s hf
      rw [kX1_countClasses_L1] at hf
      refine lv_iload_n hx hb dX1_countClasses_4 rfl (lv_at hl 3 rfl) ?_
      refine lv_bipush (v := 16) hx hb dX1_countClasses_5 (by decide) ?_
      refine lv_icmp_gt (tgt := 36) hx hb dX1_countClasses_7 (by decide) (fun c_5 => ?_) (fun c_5 => ?_)
      · replace hf := kt_p hf c_5
        refine lv_iload_n hx hb dX1_countClasses_36 rfl (lv_at hl 2 rfl) ?_
        obtain rfl := some1_s hf
        exact kRi hx hb hr hlocks hP hK hD hS rfl dX1_countClasses_37
      · replace hf := kt_n hf c_5
        refine lv_aload_n hx hb dX1_countClasses_10 rfl (lv_at hl 0 rfl) ?_
        refine lv_iload_n hx hb dX1_countClasses_11 rfl (lv_at hl 3 rfl) ?_
        obtain ⟨r_1, hc_1, hf⟩ := bnd1_s hf
        refine kcVi (As := [.int v3_1]) (rest := []) (w2 := [(a_this, .inr (1, [.ref a_classes, .ref a_cells])), (a_classes, .inl (cyI, 17, .inl f_classes)), (a_p1, .inr (2, [.int i_p1_crossings, .int i_p1_circles, .ref a_p1_arcs])), (a_p1_arcs, .inl (cyI, 32, .inl f_p1_arcs))]) S hK hP hD hS hA hN (mX1_classOf l D cyI cyZ H.size a_this a_classes a_cells v3_1 f_classes r_1 hc_1) (cwV 1 hts gX1_countClasses_X1_classOf rfl rfl rfl (by decide +kernel) ⟨Nat.le_of_ble_eq_true rfl, Nat.le_of_ble_eq_true rfl⟩) 1 0 rfl rfl [0, 1] [2, 3] [2, 3, 0, 1] rfl rfl rfl rfl (by decide) rfl rfl hl.1 (Nat.le_of_ble_eq_true rfl) dX1_countClasses_12 ⟨Nat.le_of_ble_eq_true rfl, Nat.le_of_ble_eq_true rfl⟩ (fun H locs hP hD hS => ?_)
        refine lv_iload_n hx hb dX1_countClasses_15 rfl (lv_at hl 3 rfl) ?_
        refine lv_icmp_ne (tgt := 30) hx hb dX1_countClasses_16 (by decide) (fun c_4 => ?_) (fun c_4 => ?_)
        · replace hf := kt_n hf c_4
          refine lv_iinc (v := (v3_1 + 1)) (lv' := [(3, .int (v3_1 + 1)), (0, .ref a_this), (1, .ref a_p1), (2, .int v2_1)]) hx hb dX1_countClasses_30 hl (k := 3) rfl rfl (by decide) rfl (fun ls hl => ?_)
          refine lv_goto (tgt := 4) hx hb dX1_countClasses_33 (by decide) ?_
          exact ih_1 v2_1 (v3_1 + 1) H locs ls hf hP hD hS (lv_sub hl [1, 2, 3, 0] rfl)
        · replace hf := kt_p hf c_4
          refine lv_aload_n hx hb dX1_countClasses_19 rfl (lv_at hl 1 rfl) ?_
          refine lv_iload_n hx hb dX1_countClasses_20 rfl (lv_at hl 3 rfl) ?_
          obtain ⟨r_2, hc_2, hf⟩ := bnd1_s hf
          refine kcVi (As := [.int v3_1]) (rest := []) (w2 := [(a_this, .inr (1, [.ref a_classes, .ref a_cells])), (a_classes, .inl (cyI, 17, .inl f_classes)), (a_p1, .inr (2, [.int i_p1_crossings, .int i_p1_circles, .ref a_p1_arcs])), (a_p1_arcs, .inl (cyI, 32, .inl f_p1_arcs))]) S hK hP hD hS hA hN (mX2_firstEnd l D cyI cyZ H.size a_p1 a_p1_arcs v3_1 i_p1_crossings i_p1_circles f_p1_arcs r_2 hc_2) (cwV 1 hts gX1_countClasses_X2_firstEnd rfl rfl rfl (by decide +kernel) ⟨Nat.le_of_ble_eq_true rfl, Nat.le_of_ble_eq_true rfl⟩) 2 2 rfl rfl [2, 3] [0, 1] [0, 1, 2, 3] rfl rfl rfl rfl (by decide) rfl rfl hl.1 (Nat.le_of_ble_eq_true rfl) dX1_countClasses_21 ⟨Nat.le_of_ble_eq_true rfl, Nat.le_of_ble_eq_true rfl⟩ (fun H locs hP hD hS => ?_)
          refine lv_if_lt (tgt := 30) hx hb dX1_countClasses_24 (by decide) (fun c_3 => ?_) (fun c_3 => ?_)
          · replace hf := kt_p hf c_3
            refine lv_iinc (v := (v3_1 + 1)) (lv' := [(3, .int (v3_1 + 1)), (0, .ref a_this), (1, .ref a_p1), (2, .int v2_1)]) hx hb dX1_countClasses_30 hl (k := 3) rfl rfl (by decide) rfl (fun ls hl => ?_)
            refine lv_goto (tgt := 4) hx hb dX1_countClasses_33 (by decide) ?_
            exact ih_1 v2_1 (v3_1 + 1) H locs ls hf hP hD hS (lv_sub hl [1, 2, 3, 0] rfl)
          · replace hf := kt_n hf c_3
            refine lv_iinc (v := (v2_1 + 1)) (lv' := [(2, .int (v2_1 + 1)), (0, .ref a_this), (1, .ref a_p1), (3, .int v3_1)]) hx hb dX1_countClasses_27 hl (k := 2) rfl rfl (by decide) rfl (fun ls hl => ?_)
            refine lv_iinc (v := (v3_1 + 1)) (lv' := [(3, .int (v3_1 + 1)), (2, .int (v2_1 + 1)), (0, .ref a_this), (1, .ref a_p1)]) hx hb dX1_countClasses_30 hl (k := 3) rfl rfl (by decide) rfl (fun ls hl => ?_)
            refine lv_goto (tgt := 4) hx hb dX1_countClasses_33 (by decide) ?_
            exact ih_1 (v2_1 + 1) (v3_1 + 1) H locs ls hf hP hD hS (lv_sub hl [2, 3, 1, 0] rfl)
  exact hL_1 400 0 1 H locs ls hf hP hD hS (lv_sub hl [2, 3, 1, 0] rfl)
def kX1_pivotRow_L1 (v2 : Int32) (v3 : Int32) (f_cells : Nat → Int32) (K_1 : Int32 → Option (Int32)) (v4_1 : Int32) : Option (Int32) :=
  if v2 ≤ v4_1 then some (-1) else bnd1 (kX1_cell v4_1 v3 f_cells) (fun r_1 => if r_1 = 0 then K_1 (v4_1 + 1) else some v4_1)
def kX1_pivotRow (v1 : Int32) (v2 : Int32) (v3 : Int32) (f_cells : Nat → Int32) : Option (Int32) :=
  it1 (kX1_pivotRow_L1 v2 v3 f_cells) 400 v1
def rmX1_pivotRow : Room := { frames := 1, cells := 0, slots := 0, locals := 23 }
set_option maxHeartbeats 4000000 in
set_option maxRecDepth 100000 in
theorem mX1_pivotRow (l : Launch) (D : va_G) (cyI cyZ : ClassId) (sz : Nat) (a_this a_classes a_cells : Nat) (v1 : Int32) (v2 : Int32) (v3 : Int32) (f_cells : Nat → Int32) (r : Int32) (hf : kX1_pivotRow v1 v2 v3 f_cells = some r) : Met l yX1_pivotRow wsX1_pivotRow rmX1_pivotRow (kPre D cyI cyZ [.ref a_this, .int v1, .int v2, .int v3] [(a_this, .inr (1, [.ref a_classes, .ref a_cells])), (a_cells, .inl (cyI, 136, .inl f_cells))] sz) (kQi D cyI cyZ (va_A [(a_this, .inr (1, [.ref a_classes, .ref a_cells])), (a_cells, .inl (cyI, 136, .inl f_cells))] sz) [(a_this, .inr (1, [.ref a_classes, .ref a_cells])), (a_cells, .inl (cyI, 136, .inl f_cells))] r) 0 0 (va_A [(a_this, .inr (1, [.ref a_classes, .ref a_cells])), (a_cells, .inl (cyI, 136, .inl f_cells))] sz) := by
  refine Met.ofW (cc := cX1_pivotRow) (maxL := 5) (ret := (some .int)) (by decide) rfl ?_
  intro p e s m args below meth c s₁ B hml hv
  obtain ⟨rfl, hsz, hP, hK, hD0, hN⟩ := hv
  have hx := B.exec
  have hb := B.bytes
  have hr := B.returns
  have hts := atoms_spec (ws := wsX1_pivotRow) B.pre
  have hown : s.vm.findClass RX1 = some m.cls := findClass_of_methodNamed B.named
  have hlocks := B.notSynchronized
  subst hsz
  have hD := hD0.self (sz := s.heap.size)
  generalize hAe : va_A [(a_this, .inr (1, [.ref a_classes, .ref a_cells])), (a_cells, .inl (cyI, 136, .inl f_cells))] s.heap.size = A at hD ⊢
  have hA : ∀ q : Nat, s.heap.size ≤ q → A q := fun q h => by rw [← hAe]; exact Or.inr h
  clear hAe hD0
  have hS : va_S A s.heap s.heap [] := va_S.rf
  have S : CallFix p m c cX1_pivotRow 5 s (([.ref a_this, .int v1, .int v2, .int v3] : List Value).toArray) wsX1_pivotRow RX1 := ⟨hx, hb, hml, hown, hts⟩
  have hl := lv_entry ([.ref a_this, .int v1, .int v2, .int v3]) (n := 5) (Nat.le_of_ble_eq_true rfl)
  rw [lg_entry_eq]
  generalize (lg_sl ([.ref a_this, .int v1, .int v2, .int v3]) ++ List.replicate (5 - (lg_sl ([.ref a_this, .int v1, .int v2, .int v3])).length) Slot.unset).toArray = ls at hl ⊢
  replace hl : lv_has ls 5 [(0, .ref a_this), (1, .int v1), (2, .int v2), (3, .int v3)] := hl
  generalize ([] : List Loc) = locs at hS ⊢
  delta kX1_pivotRow at hf
  obtain ⟨H, hH⟩ : ∃ H, H = s.heap := ⟨_, rfl⟩
  have hS : va_S A s.heap H locs := by rw [hH]; exact hS
  have hP : va_P D vwCl [(a_this, .inr (1, [.ref a_classes, .ref a_cells])), (a_cells, .inl (cyI, 136, .inl f_cells))] H := by rw [hH]; exact hP
  suffices hgo : W p l e (headSpec wsX1_pivotRow rmX1_pivotRow).room s m (([.ref a_this, .int v1, .int v2, .int v3] : List Value).toArray) below meth c H locs 0 0 (MQ below (kQi D cyI cyZ A [(a_this, .inr (1, [.ref a_classes, .ref a_cells])), (a_cells, .inl (cyI, 136, .inl f_cells))] r) (([.ref a_this, .int v1, .int v2, .int v3] : List Value).toArray) s 0 0 A) (F0 m 0 ls []) by rw [hH] at hgo; exact hgo
  clear hH
  refine lv_iload_n hx hb dX1_pivotRow_0 rfl (lv_at hl 1 rfl) ?_
  refine lv_istore (lv' := [(4, .int v1), (0, .ref a_this), (1, .int v1), (2, .int v2), (3, .int v3)]) hx hb dX1_pivotRow_1 hl (by decide) rfl (fun ls hl => ?_)
  have hL_1 : ∀ (n : Nat) (v4_1 : Int32) (H : Heap) (locs : List Loc) (ls : Array Slot), it1 (kX1_pivotRow_L1 v2 v3 f_cells) n v4_1 = some r → va_P D vwCl [(a_this, .inr (1, [.ref a_classes, .ref a_cells])), (a_cells, .inl (cyI, 136, .inl f_cells))] H → va_D A [(a_this, .inr (1, [.ref a_classes, .ref a_cells])), (a_cells, .inl (cyI, 136, .inl f_cells))] → va_S A s.heap H locs → lv_has ls 5 [(0, .ref a_this), (2, .int v2), (3, .int v3), (4, .int v4_1)] → W p l e (headSpec wsX1_pivotRow rmX1_pivotRow).room s m (([.ref a_this, .int v1, .int v2, .int v3] : List Value).toArray) below meth c H locs 0 0 (MQ below (kQi D cyI cyZ A [(a_this, .inr (1, [.ref a_classes, .ref a_cells])), (a_cells, .inl (cyI, 136, .inl f_cells))] r) (([.ref a_this, .int v1, .int v2, .int v3] : List Value).toArray) s 0 0 A) (F0 m 3 ls []) := by
    intro n_1
    induction n_1 with
    | zero =>
      intro _ _ _ _ hf
      exact (it1_z hf).elim
    | succ n_1 ih_1 =>
      intro v4_1 H locs ls hf hP hD hS hl
      replace hf := it1_s hf
      rw [kX1_pivotRow_L1] at hf
      refine lv_iload hx hb dX1_pivotRow_3 (lv_at hl 3 rfl) ?_
      refine lv_iload_n hx hb dX1_pivotRow_5 rfl (lv_at hl 1 rfl) ?_
      refine lv_icmp_ge (tgt := 28) hx hb dX1_pivotRow_6 (by decide) (fun c_3 => ?_) (fun c_3 => ?_)
      · replace hf := kt_p hf c_3
        refine lv_iconst (v := (-1)) hx hb dX1_pivotRow_28 (by decide) ?_
        obtain rfl := some1_s hf
        exact kRi hx hb hr hlocks hP hK hD hS rfl dX1_pivotRow_29
      · replace hf := kt_n hf c_3
        refine lv_aload_n hx hb dX1_pivotRow_9 rfl (lv_at hl 0 rfl) ?_
        refine lv_iload hx hb dX1_pivotRow_10 (lv_at hl 3 rfl) ?_
        refine lv_iload_n hx hb dX1_pivotRow_12 rfl (lv_at hl 2 rfl) ?_
        obtain ⟨r_1, hc_1, hf⟩ := bnd1_s hf
        refine kcVi (As := [.int v4_1, .int v3]) (rest := []) (w2 := [(a_this, .inr (1, [.ref a_classes, .ref a_cells])), (a_cells, .inl (cyI, 136, .inl f_cells))]) S hK hP hD hS hA hN (mX1_cell l D cyI cyZ H.size a_this a_classes a_cells v4_1 v3 f_cells r_1 hc_1) (cwV 2 hts gX1_pivotRow_X1_cell rfl rfl rfl (by decide +kernel) ⟨Nat.le_of_ble_eq_true rfl, Nat.le_of_ble_eq_true rfl⟩) 1 0 rfl rfl [0, 1] [] [0, 1] rfl rfl rfl rfl (by decide) rfl rfl hl.1 (Nat.le_of_ble_eq_true rfl) dX1_pivotRow_13 ⟨Nat.le_of_ble_eq_true rfl, Nat.le_of_ble_eq_true rfl⟩ (fun H locs hP hD hS => ?_)
        refine lv_if_eq (tgt := 22) hx hb dX1_pivotRow_16 (by decide) (fun c_2 => ?_) (fun c_2 => ?_)
        · replace hf := kt_p hf c_2
          refine lv_iinc (v := (v4_1 + 1)) (lv' := [(4, .int (v4_1 + 1)), (0, .ref a_this), (2, .int v2), (3, .int v3)]) hx hb dX1_pivotRow_22 hl (k := 3) rfl rfl (by decide) rfl (fun ls hl => ?_)
          refine lv_goto (tgt := 3) hx hb dX1_pivotRow_25 (by decide) ?_
          exact ih_1 (v4_1 + 1) H locs ls hf hP hD hS (lv_sub hl [1, 2, 3, 0] rfl)
        · replace hf := kt_n hf c_2
          refine lv_iload hx hb dX1_pivotRow_19 (lv_at hl 3 rfl) ?_
          obtain rfl := some1_s hf
          exact kRi hx hb hr hlocks hP hK hD hS rfl dX1_pivotRow_21
  exact hL_1 400 v1 H locs ls hf hP hD hS (lv_sub hl [1, 3, 4, 0] rfl)
def kX1_exchangeRows_L1 (v1 : Int32) (v2 : Int32) (v3 : Int32) (K_1 : Int32 → (Nat → Int32) → Option ((Nat → Int32))) (v4_1 : Int32) (f_cells_1 : Nat → Int32) : Option ((Nat → Int32)) :=
  if 17 ≤ v4_1 then some f_cells_1 else bnd1 (kX1_cell v1 v4_1 f_cells_1) (fun r_1 => bnd1 (kX1_cell v2 v4_1 f_cells_1) (fun r_2 => bnd1 (kX1_setCell v1 v4_1 r_2 v3 f_cells_1) (fun o_cells_3 => bnd1 (kX1_setCell v2 v4_1 r_1 v3 o_cells_3) (fun o_cells_4 => K_1 (v4_1 + 1) o_cells_4))))
def kX1_exchangeRows (v1 : Int32) (v2 : Int32) (v3 : Int32) (f_cells : Nat → Int32) : Option ((Nat → Int32)) :=
  it2 (kX1_exchangeRows_L1 v1 v2 v3) 400 0 f_cells
def rmX1_exchangeRows : Room := { frames := 2, cells := 0, slots := 0, locals := 47 }
set_option maxHeartbeats 4000000 in
set_option maxRecDepth 100000 in
theorem mX1_exchangeRows (l : Launch) (D : va_G) (cyI cyZ : ClassId) (sz : Nat) (a_this a_classes a_cells : Nat) (v1 : Int32) (v2 : Int32) (v3 : Int32) (f_cells : Nat → Int32) (o_cells : Nat → Int32) (hf : kX1_exchangeRows v1 v2 v3 f_cells = some o_cells) : Met l yX1_exchangeRows wsX1_exchangeRows rmX1_exchangeRows (kPre D cyI cyZ [.ref a_this, .int v1, .int v2, .int v3] [(a_this, .inr (1, [.ref a_classes, .ref a_cells])), (a_cells, .inl (cyI, 136, .inl f_cells))] sz) (kQv D cyI cyZ (va_A [(a_this, .inr (1, [.ref a_classes, .ref a_cells])), (a_cells, .inl (cyI, 136, .inl f_cells))] sz) [(a_this, .inr (1, [.ref a_classes, .ref a_cells])), (a_cells, .inl (cyI, 136, .inl o_cells))]) 0 0 (va_A [(a_this, .inr (1, [.ref a_classes, .ref a_cells])), (a_cells, .inl (cyI, 136, .inl f_cells))] sz) := by
  refine Met.ofW (cc := cX1_exchangeRows) (maxL := 6) (ret := none) (by decide) rfl ?_
  intro p e s m args below meth c s₁ B hml hv
  obtain ⟨rfl, hsz, hP, hK, hD0, hN⟩ := hv
  have hx := B.exec
  have hb := B.bytes
  have hr := B.returns
  have hts := atoms_spec (ws := wsX1_exchangeRows) B.pre
  have hown : s.vm.findClass RX1 = some m.cls := findClass_of_methodNamed B.named
  have hlocks := B.notSynchronized
  subst hsz
  have hD := hD0.self (sz := s.heap.size)
  generalize hAe : va_A [(a_this, .inr (1, [.ref a_classes, .ref a_cells])), (a_cells, .inl (cyI, 136, .inl f_cells))] s.heap.size = A at hD ⊢
  have hA : ∀ q : Nat, s.heap.size ≤ q → A q := fun q h => by rw [← hAe]; exact Or.inr h
  clear hAe hD0
  have hS : va_S A s.heap s.heap [] := va_S.rf
  have S : CallFix p m c cX1_exchangeRows 6 s (([.ref a_this, .int v1, .int v2, .int v3] : List Value).toArray) wsX1_exchangeRows RX1 := ⟨hx, hb, hml, hown, hts⟩
  have hl := lv_entry ([.ref a_this, .int v1, .int v2, .int v3]) (n := 6) (Nat.le_of_ble_eq_true rfl)
  rw [lg_entry_eq]
  generalize (lg_sl ([.ref a_this, .int v1, .int v2, .int v3]) ++ List.replicate (6 - (lg_sl ([.ref a_this, .int v1, .int v2, .int v3])).length) Slot.unset).toArray = ls at hl ⊢
  replace hl : lv_has ls 6 [(0, .ref a_this), (1, .int v1), (2, .int v2), (3, .int v3)] := hl
  generalize ([] : List Loc) = locs at hS ⊢
  delta kX1_exchangeRows at hf
  obtain ⟨H, hH⟩ : ∃ H, H = s.heap := ⟨_, rfl⟩
  have hS : va_S A s.heap H locs := by rw [hH]; exact hS
  have hP : va_P D vwCl [(a_this, .inr (1, [.ref a_classes, .ref a_cells])), (a_cells, .inl (cyI, 136, .inl f_cells))] H := by rw [hH]; exact hP
  suffices hgo : W p l e (headSpec wsX1_exchangeRows rmX1_exchangeRows).room s m (([.ref a_this, .int v1, .int v2, .int v3] : List Value).toArray) below meth c H locs 0 0 (MQ below (kQv D cyI cyZ A [(a_this, .inr (1, [.ref a_classes, .ref a_cells])), (a_cells, .inl (cyI, 136, .inl o_cells))]) (([.ref a_this, .int v1, .int v2, .int v3] : List Value).toArray) s 0 0 A) (F0 m 0 ls []) by rw [hH] at hgo; exact hgo
  clear hH
  refine lv_iconst (v := 0) hx hb dX1_exchangeRows_0 (by decide) ?_
  refine lv_istore (lv' := [(4, .int 0), (0, .ref a_this), (1, .int v1), (2, .int v2), (3, .int v3)]) hx hb dX1_exchangeRows_1 hl (by decide) rfl (fun ls hl => ?_)
  have hL_1 : ∀ (n : Nat) (v4_1 : Int32) (f_cells_1 : Nat → Int32) (H : Heap) (locs : List Loc) (ls : Array Slot), it2 (kX1_exchangeRows_L1 v1 v2 v3) n v4_1 f_cells_1 = some o_cells → va_P D vwCl [(a_this, .inr (1, [.ref a_classes, .ref a_cells])), (a_cells, .inl (cyI, 136, .inl f_cells_1))] H → va_D A [(a_this, .inr (1, [.ref a_classes, .ref a_cells])), (a_cells, .inl (cyI, 136, .inl f_cells_1))] → va_S A s.heap H locs → lv_has ls 6 [(0, .ref a_this), (1, .int v1), (2, .int v2), (3, .int v3), (4, .int v4_1)] → W p l e (headSpec wsX1_exchangeRows rmX1_exchangeRows).room s m (([.ref a_this, .int v1, .int v2, .int v3] : List Value).toArray) below meth c H locs 0 0 (MQ below (kQv D cyI cyZ A [(a_this, .inr (1, [.ref a_classes, .ref a_cells])), (a_cells, .inl (cyI, 136, .inl o_cells))]) (([.ref a_this, .int v1, .int v2, .int v3] : List Value).toArray) s 0 0 A) (F0 m 3 ls []) := by
    intro n_1
    induction n_1 with
    | zero =>
      intro _ _ _ _ _ hf
      exact (it2_z hf).elim
    | succ n_1 ih_1 =>
      intro v4_1 f_cells_1 H locs ls hf hP hD hS hl
      replace hf := it2_s hf
      rw [kX1_exchangeRows_L1] at hf
      refine lv_iload hx hb dX1_exchangeRows_3 (lv_at hl 4 rfl) ?_
      refine lv_bipush (v := 17) hx hb dX1_exchangeRows_5 (by decide) ?_
      refine lv_icmp_ge (tgt := 50) hx hb dX1_exchangeRows_7 (by decide) (fun c_5 => ?_) (fun c_5 => ?_)
      · replace hf := kt_p hf c_5
        obtain rfl := some1_s hf
        exact kRv hx hb hr hlocks hP hK hD hS dX1_exchangeRows_50
      · replace hf := kt_n hf c_5
        refine lv_aload_n hx hb dX1_exchangeRows_10 rfl (lv_at hl 0 rfl) ?_
        refine lv_iload_n hx hb dX1_exchangeRows_11 rfl (lv_at hl 1 rfl) ?_
        refine lv_iload hx hb dX1_exchangeRows_12 (lv_at hl 4 rfl) ?_
        obtain ⟨r_1, hc_1, hf⟩ := bnd1_s hf
        refine kcVi (As := [.int v1, .int v4_1]) (rest := []) (w2 := [(a_this, .inr (1, [.ref a_classes, .ref a_cells])), (a_cells, .inl (cyI, 136, .inl f_cells_1))]) S hK hP hD hS hA hN (mX1_cell l D cyI cyZ H.size a_this a_classes a_cells v1 v4_1 f_cells_1 r_1 hc_1) (cwV 2 hts gX1_exchangeRows_X1_cell rfl rfl rfl (by decide +kernel) ⟨Nat.le_of_ble_eq_true rfl, Nat.le_of_ble_eq_true rfl⟩) 1 0 rfl rfl [0, 1] [] [0, 1] rfl rfl rfl rfl (by decide) rfl rfl hl.1 (Nat.le_of_ble_eq_true rfl) dX1_exchangeRows_14 ⟨Nat.le_of_ble_eq_true rfl, Nat.le_of_ble_eq_true rfl⟩ (fun H locs hP hD hS => ?_)
        refine lv_istore (lv' := [(5, .int r_1), (0, .ref a_this), (1, .int v1), (2, .int v2), (3, .int v3), (4, .int v4_1)]) hx hb dX1_exchangeRows_17 hl (by decide) rfl (fun ls hl => ?_)
        refine lv_aload_n hx hb dX1_exchangeRows_19 rfl (lv_at hl 1 rfl) ?_
        refine lv_iload_n hx hb dX1_exchangeRows_20 rfl (lv_at hl 2 rfl) ?_
        refine lv_iload hx hb dX1_exchangeRows_21 (lv_at hl 5 rfl) ?_
        refine lv_aload_n hx hb dX1_exchangeRows_23 rfl (lv_at hl 1 rfl) ?_
        refine lv_iload_n hx hb dX1_exchangeRows_24 rfl (lv_at hl 3 rfl) ?_
        refine lv_iload hx hb dX1_exchangeRows_25 (lv_at hl 5 rfl) ?_
        obtain ⟨r_2, hc_2, hf⟩ := bnd1_s hf
        refine kcVi (As := [.int v2, .int v4_1]) (rest := [.int v4_1, .int v1, .ref a_this]) (w2 := [(a_this, .inr (1, [.ref a_classes, .ref a_cells])), (a_cells, .inl (cyI, 136, .inl f_cells_1))]) S hK hP hD hS hA hN (mX1_cell l D cyI cyZ H.size a_this a_classes a_cells v2 v4_1 f_cells_1 r_2 hc_2) (cwV 2 hts gX1_exchangeRows_X1_cell rfl rfl rfl (by decide +kernel) ⟨Nat.le_of_ble_eq_true rfl, Nat.le_of_ble_eq_true rfl⟩) 1 0 rfl rfl [0, 1] [] [0, 1] rfl rfl rfl rfl (by decide) rfl rfl hl.1 (Nat.le_of_ble_eq_true rfl) dX1_exchangeRows_27 ⟨Nat.le_of_ble_eq_true rfl, Nat.le_of_ble_eq_true rfl⟩ (fun H locs hP hD hS => ?_)
        refine lv_iload_n hx hb dX1_exchangeRows_30 rfl (lv_at hl 4 rfl) ?_
        obtain ⟨o_cells_3, hc_3, hf⟩ := bnd1_s hf
        refine kcVv (As := [.int v1, .int v4_1, .int r_2, .int v3]) (rest := []) (w2 := [(a_this, .inr (1, [.ref a_classes, .ref a_cells])), (a_cells, .inl (cyI, 136, .inl o_cells_3))]) S hK hP hD hS hA hN (mX1_setCell l D cyI cyZ H.size a_this a_classes a_cells v1 v4_1 r_2 v3 f_cells_1 o_cells_3 hc_3) (cwV 4 hts gX1_exchangeRows_X1_setCell rfl rfl rfl (by decide +kernel) ⟨Nat.le_of_ble_eq_true rfl, Nat.le_of_ble_eq_true rfl⟩) 1 0 rfl rfl [0, 1] [] [0, 1] rfl rfl rfl rfl (by decide) rfl rfl hl.1 (Nat.le_of_ble_eq_true rfl) dX1_exchangeRows_31 ⟨Nat.le_of_ble_eq_true rfl, Nat.le_of_ble_eq_true rfl⟩ (fun H locs hP hD hS => ?_)
        refine lv_aload_n hx hb dX1_exchangeRows_34 rfl (lv_at hl 1 rfl) ?_
        refine lv_iload_n hx hb dX1_exchangeRows_35 rfl (lv_at hl 3 rfl) ?_
        refine lv_iload hx hb dX1_exchangeRows_36 (lv_at hl 5 rfl) ?_
        refine lv_iload hx hb dX1_exchangeRows_38 (lv_at hl 0 rfl) ?_
        refine lv_iload_n hx hb dX1_exchangeRows_40 rfl (lv_at hl 4 rfl) ?_
        obtain ⟨o_cells_4, hc_4, hf⟩ := bnd1_s hf
        refine kcVv (As := [.int v2, .int v4_1, .int r_1, .int v3]) (rest := []) (w2 := [(a_this, .inr (1, [.ref a_classes, .ref a_cells])), (a_cells, .inl (cyI, 136, .inl o_cells_4))]) S hK hP hD hS hA hN (mX1_setCell l D cyI cyZ H.size a_this a_classes a_cells v2 v4_1 r_1 v3 o_cells_3 o_cells_4 hc_4) (cwV 4 hts gX1_exchangeRows_X1_setCell rfl rfl rfl (by decide +kernel) ⟨Nat.le_of_ble_eq_true rfl, Nat.le_of_ble_eq_true rfl⟩) 1 0 rfl rfl [0, 1] [] [0, 1] rfl rfl rfl rfl (by decide) rfl rfl hl.1 (Nat.le_of_ble_eq_true rfl) dX1_exchangeRows_41 ⟨Nat.le_of_ble_eq_true rfl, Nat.le_of_ble_eq_true rfl⟩ (fun H locs hP hD hS => ?_)
        refine lv_iinc (v := (v4_1 + 1)) (lv' := [(4, .int (v4_1 + 1)), (5, .int r_1), (0, .ref a_this), (1, .int v1), (2, .int v2), (3, .int v3)]) hx hb dX1_exchangeRows_44 hl (k := 5) rfl rfl (by decide) rfl (fun ls hl => ?_)
        refine lv_goto (tgt := 3) hx hb dX1_exchangeRows_47 (by decide) ?_
        exact ih_1 (v4_1 + 1) o_cells_4 H locs ls hf hP hD hS (lv_sub hl [2, 3, 4, 5, 0] rfl)
  exact hL_1 400 0 f_cells H locs ls hf hP hD hS (lv_sub hl [1, 2, 3, 4, 0] rfl)
def kX1_clearBelow_L2 (K_1 : Int32 → (Nat → Int32) → Option ((Nat → Int32))) (v6_1 : Int32) (v1 : Int32) (r_1 : Int32) (r_2 : Int32) (v4 : Int32) (K_2 : Int32 → (Nat → Int32) → Option ((Nat → Int32))) (v8_2 : Int32) (f_cells_2 : Nat → Int32) : Option ((Nat → Int32)) :=
  if 17 ≤ v8_2 then K_1 (v6_1 + 1) f_cells_2 else bnd1 (kX1_cell v6_1 v8_2 f_cells_2) (fun r_3 => bnd1 (kX1_cell v1 v8_2 f_cells_2) (fun r_4 => bnd1 (kX1_setCell v6_1 v8_2 ((r_1 * r_3) - (r_2 * r_4)) v4 f_cells_2) (fun o_cells_5 => K_2 (v8_2 + 1) o_cells_5)))
def kX1_clearBelow_L1 (v2 : Int32) (v3 : Int32) (v1 : Int32) (r_1 : Int32) (v4 : Int32) (K_1 : Int32 → (Nat → Int32) → Option ((Nat → Int32))) (v6_1 : Int32) (f_cells_1 : Nat → Int32) : Option ((Nat → Int32)) :=
  if v2 ≤ v6_1 then some f_cells_1 else bnd1 (kX1_cell v6_1 v3 f_cells_1) (fun r_2 => it2 (kX1_clearBelow_L2 K_1 v6_1 v1 r_1 r_2 v4) 400 0 f_cells_1)
def kX1_clearBelow (v1 : Int32) (v2 : Int32) (v3 : Int32) (v4 : Int32) (f_cells : Nat → Int32) : Option ((Nat → Int32)) :=
  bnd1 (kX1_cell v1 v3 f_cells) (fun r_1 => it2 (kX1_clearBelow_L1 v2 v3 v1 r_1 v4) 400 (v1 + 1) f_cells)
def rmX1_clearBelow : Room := { frames := 2, cells := 0, slots := 0, locals := 47 }
set_option maxHeartbeats 4000000 in
set_option maxRecDepth 100000 in
theorem mX1_clearBelow (l : Launch) (D : va_G) (cyI cyZ : ClassId) (sz : Nat) (a_this a_classes a_cells : Nat) (v1 : Int32) (v2 : Int32) (v3 : Int32) (v4 : Int32) (f_cells : Nat → Int32) (o_cells : Nat → Int32) (hf : kX1_clearBelow v1 v2 v3 v4 f_cells = some o_cells) : Met l yX1_clearBelow wsX1_clearBelow rmX1_clearBelow (kPre D cyI cyZ [.ref a_this, .int v1, .int v2, .int v3, .int v4] [(a_this, .inr (1, [.ref a_classes, .ref a_cells])), (a_cells, .inl (cyI, 136, .inl f_cells))] sz) (kQv D cyI cyZ (va_A [(a_this, .inr (1, [.ref a_classes, .ref a_cells])), (a_cells, .inl (cyI, 136, .inl f_cells))] sz) [(a_this, .inr (1, [.ref a_classes, .ref a_cells])), (a_cells, .inl (cyI, 136, .inl o_cells))]) 0 0 (va_A [(a_this, .inr (1, [.ref a_classes, .ref a_cells])), (a_cells, .inl (cyI, 136, .inl f_cells))] sz) := by
  refine Met.ofW (cc := cX1_clearBelow) (maxL := 9) (ret := none) (by decide) rfl ?_
  intro p e s m args below meth c s₁ B hml hv
  obtain ⟨rfl, hsz, hP, hK, hD0, hN⟩ := hv
  have hx := B.exec
  have hb := B.bytes
  have hr := B.returns
  have hts := atoms_spec (ws := wsX1_clearBelow) B.pre
  have hown : s.vm.findClass RX1 = some m.cls := findClass_of_methodNamed B.named
  have hlocks := B.notSynchronized
  subst hsz
  have hD := hD0.self (sz := s.heap.size)
  generalize hAe : va_A [(a_this, .inr (1, [.ref a_classes, .ref a_cells])), (a_cells, .inl (cyI, 136, .inl f_cells))] s.heap.size = A at hD ⊢
  have hA : ∀ q : Nat, s.heap.size ≤ q → A q := fun q h => by rw [← hAe]; exact Or.inr h
  clear hAe hD0
  have hS : va_S A s.heap s.heap [] := va_S.rf
  have S : CallFix p m c cX1_clearBelow 9 s (([.ref a_this, .int v1, .int v2, .int v3, .int v4] : List Value).toArray) wsX1_clearBelow RX1 := ⟨hx, hb, hml, hown, hts⟩
  have hl := lv_entry ([.ref a_this, .int v1, .int v2, .int v3, .int v4]) (n := 9) (Nat.le_of_ble_eq_true rfl)
  rw [lg_entry_eq]
  generalize (lg_sl ([.ref a_this, .int v1, .int v2, .int v3, .int v4]) ++ List.replicate (9 - (lg_sl ([.ref a_this, .int v1, .int v2, .int v3, .int v4])).length) Slot.unset).toArray = ls at hl ⊢
  replace hl : lv_has ls 9 [(0, .ref a_this), (1, .int v1), (2, .int v2), (3, .int v3), (4, .int v4)] := hl
  generalize ([] : List Loc) = locs at hS ⊢
  delta kX1_clearBelow at hf
  obtain ⟨H, hH⟩ : ∃ H, H = s.heap := ⟨_, rfl⟩
  have hS : va_S A s.heap H locs := by rw [hH]; exact hS
  have hP : va_P D vwCl [(a_this, .inr (1, [.ref a_classes, .ref a_cells])), (a_cells, .inl (cyI, 136, .inl f_cells))] H := by rw [hH]; exact hP
  suffices hgo : W p l e (headSpec wsX1_clearBelow rmX1_clearBelow).room s m (([.ref a_this, .int v1, .int v2, .int v3, .int v4] : List Value).toArray) below meth c H locs 0 0 (MQ below (kQv D cyI cyZ A [(a_this, .inr (1, [.ref a_classes, .ref a_cells])), (a_cells, .inl (cyI, 136, .inl o_cells))]) (([.ref a_this, .int v1, .int v2, .int v3, .int v4] : List Value).toArray) s 0 0 A) (F0 m 0 ls []) by rw [hH] at hgo; exact hgo
  clear hH
  refine lv_aload_n hx hb dX1_clearBelow_0 rfl (lv_at hl 0 rfl) ?_
  refine lv_iload_n hx hb dX1_clearBelow_1 rfl (lv_at hl 1 rfl) ?_
  refine lv_iload_n hx hb dX1_clearBelow_2 rfl (lv_at hl 3 rfl) ?_
  obtain ⟨r_1, hc_1, hf⟩ := bnd1_s hf
  refine kcVi (As := [.int v1, .int v3]) (rest := []) (w2 := [(a_this, .inr (1, [.ref a_classes, .ref a_cells])), (a_cells, .inl (cyI, 136, .inl f_cells))]) S hK hP hD hS hA hN (mX1_cell l D cyI cyZ H.size a_this a_classes a_cells v1 v3 f_cells r_1 hc_1) (cwV 2 hts gX1_clearBelow_X1_cell rfl rfl rfl (by decide +kernel) ⟨Nat.le_of_ble_eq_true rfl, Nat.le_of_ble_eq_true rfl⟩) 1 0 rfl rfl [0, 1] [] [0, 1] rfl rfl rfl rfl (by decide) rfl rfl hl.1 (Nat.le_of_ble_eq_true rfl) dX1_clearBelow_3 ⟨Nat.le_of_ble_eq_true rfl, Nat.le_of_ble_eq_true rfl⟩ (fun H locs hP hD hS => ?_)
  refine lv_istore (lv' := [(5, .int r_1), (0, .ref a_this), (1, .int v1), (2, .int v2), (3, .int v3), (4, .int v4)]) hx hb dX1_clearBelow_6 hl (by decide) rfl (fun ls hl => ?_)
  refine lv_iload_n hx hb dX1_clearBelow_8 rfl (lv_at hl 2 rfl) ?_
  refine lv_iconst (v := 1) hx hb dX1_clearBelow_9 (by decide) ?_
  refine lv_iadd hx hb dX1_clearBelow_10 ?_
  refine lv_istore (lv' := [(6, .int (v1 + 1)), (5, .int r_1), (0, .ref a_this), (1, .int v1), (2, .int v2), (3, .int v3), (4, .int v4)]) hx hb dX1_clearBelow_11 hl (by decide) rfl (fun ls hl => ?_)
  have hL_1 : ∀ (n : Nat) (v6_1 : Int32) (f_cells_1 : Nat → Int32) (H : Heap) (locs : List Loc) (ls : Array Slot), it2 (kX1_clearBelow_L1 v2 v3 v1 r_1 v4) n v6_1 f_cells_1 = some o_cells → va_P D vwCl [(a_this, .inr (1, [.ref a_classes, .ref a_cells])), (a_cells, .inl (cyI, 136, .inl f_cells_1))] H → va_D A [(a_this, .inr (1, [.ref a_classes, .ref a_cells])), (a_cells, .inl (cyI, 136, .inl f_cells_1))] → va_S A s.heap H locs → lv_has ls 9 [(0, .ref a_this), (1, .int v1), (2, .int v2), (3, .int v3), (4, .int v4), (5, .int r_1), (6, .int v6_1)] → W p l e (headSpec wsX1_clearBelow rmX1_clearBelow).room s m (([.ref a_this, .int v1, .int v2, .int v3, .int v4] : List Value).toArray) below meth c H locs 0 0 (MQ below (kQv D cyI cyZ A [(a_this, .inr (1, [.ref a_classes, .ref a_cells])), (a_cells, .inl (cyI, 136, .inl o_cells))]) (([.ref a_this, .int v1, .int v2, .int v3, .int v4] : List Value).toArray) s 0 0 A) (F0 m 13 ls []) := by
    intro n_1
    induction n_1 with
    | zero =>
      intro _ _ _ _ _ hf
      exact (it2_z hf).elim
    | succ n_1 ih_1 =>
      intro v6_1 f_cells_1 H locs ls hf hP hD hS hl
      replace hf := it2_s hf
      rw [kX1_clearBelow_L1] at hf
      refine lv_iload hx hb dX1_clearBelow_13 (lv_at hl 6 rfl) ?_
      refine lv_iload_n hx hb dX1_clearBelow_15 rfl (lv_at hl 2 rfl) ?_
      refine lv_icmp_ge (tgt := 82) hx hb dX1_clearBelow_16 (by decide) (fun c_7 => ?_) (fun c_7 => ?_)
      · replace hf := kt_p hf c_7
        obtain rfl := some1_s hf
        exact kRv hx hb hr hlocks hP hK hD hS dX1_clearBelow_82
      · replace hf := kt_n hf c_7
        refine lv_aload_n hx hb dX1_clearBelow_19 rfl (lv_at hl 0 rfl) ?_
        refine lv_iload hx hb dX1_clearBelow_20 (lv_at hl 6 rfl) ?_
        refine lv_iload_n hx hb dX1_clearBelow_22 rfl (lv_at hl 3 rfl) ?_
        obtain ⟨r_2, hc_2, hf⟩ := bnd1_s hf
        refine kcVi (As := [.int v6_1, .int v3]) (rest := []) (w2 := [(a_this, .inr (1, [.ref a_classes, .ref a_cells])), (a_cells, .inl (cyI, 136, .inl f_cells_1))]) S hK hP hD hS hA hN (mX1_cell l D cyI cyZ H.size a_this a_classes a_cells v6_1 v3 f_cells_1 r_2 hc_2) (cwV 2 hts gX1_clearBelow_X1_cell rfl rfl rfl (by decide +kernel) ⟨Nat.le_of_ble_eq_true rfl, Nat.le_of_ble_eq_true rfl⟩) 1 0 rfl rfl [0, 1] [] [0, 1] rfl rfl rfl rfl (by decide) rfl rfl hl.1 (Nat.le_of_ble_eq_true rfl) dX1_clearBelow_23 ⟨Nat.le_of_ble_eq_true rfl, Nat.le_of_ble_eq_true rfl⟩ (fun H locs hP hD hS => ?_)
        refine lv_istore (lv' := [(7, .int r_2), (0, .ref a_this), (1, .int v1), (2, .int v2), (3, .int v3), (4, .int v4), (5, .int r_1), (6, .int v6_1)]) hx hb dX1_clearBelow_26 hl (by decide) rfl (fun ls hl => ?_)
        refine lv_iconst (v := 0) hx hb dX1_clearBelow_28 (by decide) ?_
        refine lv_istore (lv' := [(8, .int 0), (7, .int r_2), (0, .ref a_this), (1, .int v1), (2, .int v2), (3, .int v3), (4, .int v4), (5, .int r_1), (6, .int v6_1)]) hx hb dX1_clearBelow_29 hl (by decide) rfl (fun ls hl => ?_)
        have hL_2 : ∀ (n : Nat) (v8_2 : Int32) (f_cells_2 : Nat → Int32) (H : Heap) (locs : List Loc) (ls : Array Slot), it2 (kX1_clearBelow_L2 (it2 (kX1_clearBelow_L1 v2 v3 v1 r_1 v4) n_1) v6_1 v1 r_1 r_2 v4) n v8_2 f_cells_2 = some o_cells → va_P D vwCl [(a_this, .inr (1, [.ref a_classes, .ref a_cells])), (a_cells, .inl (cyI, 136, .inl f_cells_2))] H → va_D A [(a_this, .inr (1, [.ref a_classes, .ref a_cells])), (a_cells, .inl (cyI, 136, .inl f_cells_2))] → va_S A s.heap H locs → lv_has ls 9 [(0, .ref a_this), (1, .int v1), (2, .int v2), (3, .int v3), (4, .int v4), (5, .int r_1), (6, .int v6_1), (7, .int r_2), (8, .int v8_2)] → W p l e (headSpec wsX1_clearBelow rmX1_clearBelow).room s m (([.ref a_this, .int v1, .int v2, .int v3, .int v4] : List Value).toArray) below meth c H locs 0 0 (MQ below (kQv D cyI cyZ A [(a_this, .inr (1, [.ref a_classes, .ref a_cells])), (a_cells, .inl (cyI, 136, .inl o_cells))]) (([.ref a_this, .int v1, .int v2, .int v3, .int v4] : List Value).toArray) s 0 0 A) (F0 m 31 ls []) := by
          intro n_2
          induction n_2 with
          | zero =>
            intro _ _ _ _ _ hf
            exact (it2_z hf).elim
          | succ n_2 ih_2 =>
            intro v8_2 f_cells_2 H locs ls hf hP hD hS hl
            replace hf := it2_s hf
            rw [kX1_clearBelow_L2] at hf
            refine lv_iload hx hb dX1_clearBelow_31 (lv_at hl 8 rfl) ?_
            refine lv_bipush (v := 17) hx hb dX1_clearBelow_33 (by decide) ?_
            refine lv_icmp_ge (tgt := 76) hx hb dX1_clearBelow_35 (by decide) (fun c_6 => ?_) (fun c_6 => ?_)
            · replace hf := kt_p hf c_6
              refine lv_iinc (v := (v6_1 + 1)) (lv' := [(6, .int (v6_1 + 1)), (0, .ref a_this), (1, .int v1), (2, .int v2), (3, .int v3), (4, .int v4), (5, .int r_1), (7, .int r_2), (8, .int v8_2)]) hx hb dX1_clearBelow_76 hl (k := 6) rfl rfl (by decide) rfl (fun ls hl => ?_)
              refine lv_goto (tgt := 13) hx hb dX1_clearBelow_79 (by decide) ?_
              exact ih_1 (v6_1 + 1) f_cells_2 H locs ls hf hP hD hS (lv_sub hl [1, 2, 3, 4, 5, 6, 0] rfl)
            · replace hf := kt_n hf c_6
              refine lv_aload_n hx hb dX1_clearBelow_38 rfl (lv_at hl 0 rfl) ?_
              refine lv_iload hx hb dX1_clearBelow_39 (lv_at hl 6 rfl) ?_
              refine lv_iload hx hb dX1_clearBelow_41 (lv_at hl 8 rfl) ?_
              refine lv_iload hx hb dX1_clearBelow_43 (lv_at hl 5 rfl) ?_
              refine lv_aload_n hx hb dX1_clearBelow_45 rfl (lv_at hl 0 rfl) ?_
              refine lv_iload hx hb dX1_clearBelow_46 (lv_at hl 6 rfl) ?_
              refine lv_iload hx hb dX1_clearBelow_48 (lv_at hl 8 rfl) ?_
              obtain ⟨r_3, hc_3, hf⟩ := bnd1_s hf
              refine kcVi (As := [.int v6_1, .int v8_2]) (rest := [.int r_1, .int v8_2, .int v6_1, .ref a_this]) (w2 := [(a_this, .inr (1, [.ref a_classes, .ref a_cells])), (a_cells, .inl (cyI, 136, .inl f_cells_2))]) S hK hP hD hS hA hN (mX1_cell l D cyI cyZ H.size a_this a_classes a_cells v6_1 v8_2 f_cells_2 r_3 hc_3) (cwV 2 hts gX1_clearBelow_X1_cell rfl rfl rfl (by decide +kernel) ⟨Nat.le_of_ble_eq_true rfl, Nat.le_of_ble_eq_true rfl⟩) 1 0 rfl rfl [0, 1] [] [0, 1] rfl rfl rfl rfl (by decide) rfl rfl hl.1 (Nat.le_of_ble_eq_true rfl) dX1_clearBelow_50 ⟨Nat.le_of_ble_eq_true rfl, Nat.le_of_ble_eq_true rfl⟩ (fun H locs hP hD hS => ?_)
              refine lv_imul hx hb dX1_clearBelow_53 ?_
              refine lv_iload hx hb dX1_clearBelow_54 (lv_at hl 7 rfl) ?_
              refine lv_aload_n hx hb dX1_clearBelow_56 rfl (lv_at hl 0 rfl) ?_
              refine lv_iload_n hx hb dX1_clearBelow_57 rfl (lv_at hl 1 rfl) ?_
              refine lv_iload hx hb dX1_clearBelow_58 (lv_at hl 8 rfl) ?_
              obtain ⟨r_4, hc_4, hf⟩ := bnd1_s hf
              refine kcVi (As := [.int v1, .int v8_2]) (rest := [.int r_2, .int (r_1 * r_3), .int v8_2, .int v6_1, .ref a_this]) (w2 := [(a_this, .inr (1, [.ref a_classes, .ref a_cells])), (a_cells, .inl (cyI, 136, .inl f_cells_2))]) S hK hP hD hS hA hN (mX1_cell l D cyI cyZ H.size a_this a_classes a_cells v1 v8_2 f_cells_2 r_4 hc_4) (cwV 2 hts gX1_clearBelow_X1_cell rfl rfl rfl (by decide +kernel) ⟨Nat.le_of_ble_eq_true rfl, Nat.le_of_ble_eq_true rfl⟩) 1 0 rfl rfl [0, 1] [] [0, 1] rfl rfl rfl rfl (by decide) rfl rfl hl.1 (Nat.le_of_ble_eq_true rfl) dX1_clearBelow_60 ⟨Nat.le_of_ble_eq_true rfl, Nat.le_of_ble_eq_true rfl⟩ (fun H locs hP hD hS => ?_)
              refine lv_imul hx hb dX1_clearBelow_63 ?_
              refine lv_isub hx hb dX1_clearBelow_64 ?_
              refine lv_iload hx hb dX1_clearBelow_65 (lv_at hl 4 rfl) ?_
              obtain ⟨o_cells_5, hc_5, hf⟩ := bnd1_s hf
              refine kcVv (As := [.int v6_1, .int v8_2, .int ((r_1 * r_3) - (r_2 * r_4)), .int v4]) (rest := []) (w2 := [(a_this, .inr (1, [.ref a_classes, .ref a_cells])), (a_cells, .inl (cyI, 136, .inl o_cells_5))]) S hK hP hD hS hA hN (mX1_setCell l D cyI cyZ H.size a_this a_classes a_cells v6_1 v8_2 ((r_1 * r_3) - (r_2 * r_4)) v4 f_cells_2 o_cells_5 hc_5) (cwV 4 hts gX1_clearBelow_X1_setCell rfl rfl rfl (by decide +kernel) ⟨Nat.le_of_ble_eq_true rfl, Nat.le_of_ble_eq_true rfl⟩) 1 0 rfl rfl [0, 1] [] [0, 1] rfl rfl rfl rfl (by decide) rfl rfl hl.1 (Nat.le_of_ble_eq_true rfl) dX1_clearBelow_67 ⟨Nat.le_of_ble_eq_true rfl, Nat.le_of_ble_eq_true rfl⟩ (fun H locs hP hD hS => ?_)
              refine lv_iinc (v := (v8_2 + 1)) (lv' := [(8, .int (v8_2 + 1)), (0, .ref a_this), (1, .int v1), (2, .int v2), (3, .int v3), (4, .int v4), (5, .int r_1), (6, .int v6_1), (7, .int r_2)]) hx hb dX1_clearBelow_70 hl (k := 8) rfl rfl (by decide) rfl (fun ls hl => ?_)
              refine lv_goto (tgt := 31) hx hb dX1_clearBelow_73 (by decide) ?_
              exact ih_2 (v8_2 + 1) o_cells_5 H locs ls hf hP hD hS (lv_sub hl [1, 2, 3, 4, 5, 6, 7, 8, 0] rfl)
        exact hL_2 400 0 f_cells_1 H locs ls hf hP hD hS (lv_sub hl [2, 3, 4, 5, 6, 7, 8, 1, 0] rfl)
  exact hL_1 400 (v1 + 1) f_cells H locs ls hf hP hD hS (lv_sub hl [2, 3, 4, 5, 6, 1, 0] rfl)
def kX1_rank_L1 (v1 : Int32) (v2 : Int32) (K_1 : Int32 → Int32 → (Nat → Int32) → Option (Int32 × (Nat → Int32))) (v3_1 : Int32) (v4_1 : Int32) (f_cells_1 : Nat → Int32) : Option (Int32 × (Nat → Int32)) :=
  if 16 < v4_1 then some (v3_1, f_cells_1) else bnd1 (kX1_pivotRow v3_1 v1 v4_1 f_cells_1) (fun r_1 => if r_1 < 0 then K_1 v3_1 (v4_1 + 1) f_cells_1 else bnd1 (kX1_exchangeRows v3_1 r_1 v2 f_cells_1) (fun o_cells_2 => bnd1 (kX1_clearBelow v3_1 v1 v4_1 v2 o_cells_2) (fun o_cells_3 => K_1 (v3_1 + 1) (v4_1 + 1) o_cells_3)))
def kX1_rank (v1 : Int32) (v2 : Int32) (f_cells : Nat → Int32) : Option (Int32 × (Nat → Int32)) :=
  it3 (kX1_rank_L1 v1 v2) 400 0 1 f_cells
def rmX1_rank : Room := { frames := 3, cells := 0, slots := 0, locals := 75 }
set_option maxHeartbeats 4000000 in
set_option maxRecDepth 100000 in
theorem mX1_rank (l : Launch) (D : va_G) (cyI cyZ : ClassId) (sz : Nat) (a_this a_classes a_cells : Nat) (v1 : Int32) (v2 : Int32) (f_cells : Nat → Int32) (r : Int32) (o_cells : Nat → Int32) (hf : kX1_rank v1 v2 f_cells = some (r, o_cells)) : Met l yX1_rank wsX1_rank rmX1_rank (kPre D cyI cyZ [.ref a_this, .int v1, .int v2] [(a_this, .inr (1, [.ref a_classes, .ref a_cells])), (a_cells, .inl (cyI, 136, .inl f_cells))] sz) (kQi D cyI cyZ (va_A [(a_this, .inr (1, [.ref a_classes, .ref a_cells])), (a_cells, .inl (cyI, 136, .inl f_cells))] sz) [(a_this, .inr (1, [.ref a_classes, .ref a_cells])), (a_cells, .inl (cyI, 136, .inl o_cells))] r) 0 0 (va_A [(a_this, .inr (1, [.ref a_classes, .ref a_cells])), (a_cells, .inl (cyI, 136, .inl f_cells))] sz) := by
  refine Met.ofW (cc := cX1_rank) (maxL := 6) (ret := (some .int)) (by decide) rfl ?_
  intro p e s m args below meth c s₁ B hml hv
  obtain ⟨rfl, hsz, hP, hK, hD0, hN⟩ := hv
  have hx := B.exec
  have hb := B.bytes
  have hr := B.returns
  have hts := atoms_spec (ws := wsX1_rank) B.pre
  have hown : s.vm.findClass RX1 = some m.cls := findClass_of_methodNamed B.named
  have hlocks := B.notSynchronized
  subst hsz
  have hD := hD0.self (sz := s.heap.size)
  generalize hAe : va_A [(a_this, .inr (1, [.ref a_classes, .ref a_cells])), (a_cells, .inl (cyI, 136, .inl f_cells))] s.heap.size = A at hD ⊢
  have hA : ∀ q : Nat, s.heap.size ≤ q → A q := fun q h => by rw [← hAe]; exact Or.inr h
  clear hAe hD0
  have hS : va_S A s.heap s.heap [] := va_S.rf
  have S : CallFix p m c cX1_rank 6 s (([.ref a_this, .int v1, .int v2] : List Value).toArray) wsX1_rank RX1 := ⟨hx, hb, hml, hown, hts⟩
  have hl := lv_entry ([.ref a_this, .int v1, .int v2]) (n := 6) (Nat.le_of_ble_eq_true rfl)
  rw [lg_entry_eq]
  generalize (lg_sl ([.ref a_this, .int v1, .int v2]) ++ List.replicate (6 - (lg_sl ([.ref a_this, .int v1, .int v2])).length) Slot.unset).toArray = ls at hl ⊢
  replace hl : lv_has ls 6 [(0, .ref a_this), (1, .int v1), (2, .int v2)] := hl
  generalize ([] : List Loc) = locs at hS ⊢
  delta kX1_rank at hf
  obtain ⟨H, hH⟩ : ∃ H, H = s.heap := ⟨_, rfl⟩
  have hS : va_S A s.heap H locs := by rw [hH]; exact hS
  have hP : va_P D vwCl [(a_this, .inr (1, [.ref a_classes, .ref a_cells])), (a_cells, .inl (cyI, 136, .inl f_cells))] H := by rw [hH]; exact hP
  suffices hgo : W p l e (headSpec wsX1_rank rmX1_rank).room s m (([.ref a_this, .int v1, .int v2] : List Value).toArray) below meth c H locs 0 0 (MQ below (kQi D cyI cyZ A [(a_this, .inr (1, [.ref a_classes, .ref a_cells])), (a_cells, .inl (cyI, 136, .inl o_cells))] r) (([.ref a_this, .int v1, .int v2] : List Value).toArray) s 0 0 A) (F0 m 0 ls []) by rw [hH] at hgo; exact hgo
  clear hH
  refine lv_iconst (v := 0) hx hb dX1_rank_0 (by decide) ?_
  refine lv_istore_n (lv' := [(3, .int 0), (0, .ref a_this), (1, .int v1), (2, .int v2)]) hx hb dX1_rank_1 rfl hl (by decide) rfl (fun ls hl => ?_)
  refine lv_iconst (v := 1) hx hb dX1_rank_2 (by decide) ?_
  refine lv_istore (lv' := [(4, .int 1), (3, .int 0), (0, .ref a_this), (1, .int v1), (2, .int v2)]) hx hb dX1_rank_3 hl (by decide) rfl (fun ls hl => ?_)
  have hL_1 : ∀ (n : Nat) (v3_1 : Int32) (v4_1 : Int32) (f_cells_1 : Nat → Int32) (H : Heap) (locs : List Loc) (ls : Array Slot), it3 (kX1_rank_L1 v1 v2) n v3_1 v4_1 f_cells_1 = some (r, o_cells) → va_P D vwCl [(a_this, .inr (1, [.ref a_classes, .ref a_cells])), (a_cells, .inl (cyI, 136, .inl f_cells_1))] H → va_D A [(a_this, .inr (1, [.ref a_classes, .ref a_cells])), (a_cells, .inl (cyI, 136, .inl f_cells_1))] → va_S A s.heap H locs → lv_has ls 6 [(0, .ref a_this), (1, .int v1), (2, .int v2), (3, .int v3_1), (4, .int v4_1)] → W p l e (headSpec wsX1_rank rmX1_rank).room s m (([.ref a_this, .int v1, .int v2] : List Value).toArray) below meth c H locs 0 0 (MQ below (kQi D cyI cyZ A [(a_this, .inr (1, [.ref a_classes, .ref a_cells])), (a_cells, .inl (cyI, 136, .inl o_cells))] r) (([.ref a_this, .int v1, .int v2] : List Value).toArray) s 0 0 A) (F0 m 5 ls []) := by
    intro n_1
    induction n_1 with
    | zero =>
      intro _ _ _ _ _ _ hf
      exact (it3_z hf).elim
    | succ n_1 ih_1 =>
      intro v3_1 v4_1 f_cells_1 H locs ls hf hP hD hS hl
      replace hf := it3_s hf
      rw [kX1_rank_L1] at hf
      refine lv_iload hx hb dX1_rank_5 (lv_at hl 4 rfl) ?_
      refine lv_bipush (v := 16) hx hb dX1_rank_7 (by decide) ?_
      refine lv_icmp_gt (tgt := 53) hx hb dX1_rank_9 (by decide) (fun c_5 => ?_) (fun c_5 => ?_)
      · replace hf := kt_p hf c_5
        refine lv_iload_n hx hb dX1_rank_53 rfl (lv_at hl 3 rfl) ?_
        obtain ⟨rfl, rfl⟩ := some2_s hf
        exact kRi hx hb hr hlocks hP hK hD hS rfl dX1_rank_54
      · replace hf := kt_n hf c_5
        refine lv_aload_n hx hb dX1_rank_12 rfl (lv_at hl 0 rfl) ?_
        refine lv_iload_n hx hb dX1_rank_13 rfl (lv_at hl 3 rfl) ?_
        refine lv_iload_n hx hb dX1_rank_14 rfl (lv_at hl 1 rfl) ?_
        refine lv_iload hx hb dX1_rank_15 (lv_at hl 4 rfl) ?_
        obtain ⟨r_1, hc_1, hf⟩ := bnd1_s hf
        refine kcVi (As := [.int v3_1, .int v1, .int v4_1]) (rest := []) (w2 := [(a_this, .inr (1, [.ref a_classes, .ref a_cells])), (a_cells, .inl (cyI, 136, .inl f_cells_1))]) S hK hP hD hS hA hN (mX1_pivotRow l D cyI cyZ H.size a_this a_classes a_cells v3_1 v1 v4_1 f_cells_1 r_1 hc_1) (cwV 3 hts gX1_rank_X1_pivotRow rfl rfl rfl (by decide +kernel) ⟨Nat.le_of_ble_eq_true rfl, Nat.le_of_ble_eq_true rfl⟩) 1 0 rfl rfl [0, 1] [] [0, 1] rfl rfl rfl rfl (by decide) rfl rfl hl.1 (Nat.le_of_ble_eq_true rfl) dX1_rank_17 ⟨Nat.le_of_ble_eq_true rfl, Nat.le_of_ble_eq_true rfl⟩ (fun H locs hP hD hS => ?_)
        refine lv_istore (lv' := [(5, .int r_1), (0, .ref a_this), (1, .int v1), (2, .int v2), (3, .int v3_1), (4, .int v4_1)]) hx hb dX1_rank_20 hl (by decide) rfl (fun ls hl => ?_)
        refine lv_iload hx hb dX1_rank_22 (lv_at hl 0 rfl) ?_
        refine lv_if_lt (tgt := 47) hx hb dX1_rank_24 (by decide) (fun c_4 => ?_) (fun c_4 => ?_)
        · replace hf := kt_p hf c_4
          refine lv_iinc (v := (v4_1 + 1)) (lv' := [(4, .int (v4_1 + 1)), (5, .int r_1), (0, .ref a_this), (1, .int v1), (2, .int v2), (3, .int v3_1)]) hx hb dX1_rank_47 hl (k := 5) rfl rfl (by decide) rfl (fun ls hl => ?_)
          refine lv_goto (tgt := 5) hx hb dX1_rank_50 (by decide) ?_
          exact ih_1 v3_1 (v4_1 + 1) f_cells_1 H locs ls hf hP hD hS (lv_sub hl [2, 3, 4, 5, 0] rfl)
        · replace hf := kt_n hf c_4
          refine lv_aload_n hx hb dX1_rank_27 rfl (lv_at hl 1 rfl) ?_
          refine lv_iload_n hx hb dX1_rank_28 rfl (lv_at hl 4 rfl) ?_
          refine lv_iload hx hb dX1_rank_29 (lv_at hl 0 rfl) ?_
          refine lv_iload_n hx hb dX1_rank_31 rfl (lv_at hl 3 rfl) ?_
          obtain ⟨o_cells_2, hc_2, hf⟩ := bnd1_s hf
          refine kcVv (As := [.int v3_1, .int r_1, .int v2]) (rest := []) (w2 := [(a_this, .inr (1, [.ref a_classes, .ref a_cells])), (a_cells, .inl (cyI, 136, .inl o_cells_2))]) S hK hP hD hS hA hN (mX1_exchangeRows l D cyI cyZ H.size a_this a_classes a_cells v3_1 r_1 v2 f_cells_1 o_cells_2 hc_2) (cwV 3 hts gX1_rank_X1_exchangeRows rfl rfl rfl (by decide +kernel) ⟨Nat.le_of_ble_eq_true rfl, Nat.le_of_ble_eq_true rfl⟩) 1 0 rfl rfl [0, 1] [] [0, 1] rfl rfl rfl rfl (by decide) rfl rfl hl.1 (Nat.le_of_ble_eq_true rfl) dX1_rank_32 ⟨Nat.le_of_ble_eq_true rfl, Nat.le_of_ble_eq_true rfl⟩ (fun H locs hP hD hS => ?_)
          refine lv_aload_n hx hb dX1_rank_35 rfl (lv_at hl 1 rfl) ?_
          refine lv_iload_n hx hb dX1_rank_36 rfl (lv_at hl 4 rfl) ?_
          refine lv_iload_n hx hb dX1_rank_37 rfl (lv_at hl 2 rfl) ?_
          refine lv_iload hx hb dX1_rank_38 (lv_at hl 5 rfl) ?_
          refine lv_iload_n hx hb dX1_rank_40 rfl (lv_at hl 3 rfl) ?_
          obtain ⟨o_cells_3, hc_3, hf⟩ := bnd1_s hf
          refine kcVv (As := [.int v3_1, .int v1, .int v4_1, .int v2]) (rest := []) (w2 := [(a_this, .inr (1, [.ref a_classes, .ref a_cells])), (a_cells, .inl (cyI, 136, .inl o_cells_3))]) S hK hP hD hS hA hN (mX1_clearBelow l D cyI cyZ H.size a_this a_classes a_cells v3_1 v1 v4_1 v2 o_cells_2 o_cells_3 hc_3) (cwV 4 hts gX1_rank_X1_clearBelow rfl rfl rfl (by decide +kernel) ⟨Nat.le_of_ble_eq_true rfl, Nat.le_of_ble_eq_true rfl⟩) 1 0 rfl rfl [0, 1] [] [0, 1] rfl rfl rfl rfl (by decide) rfl rfl hl.1 (Nat.le_of_ble_eq_true rfl) dX1_rank_41 ⟨Nat.le_of_ble_eq_true rfl, Nat.le_of_ble_eq_true rfl⟩ (fun H locs hP hD hS => ?_)
          refine lv_iinc (v := (v3_1 + 1)) (lv' := [(3, .int (v3_1 + 1)), (5, .int r_1), (0, .ref a_this), (1, .int v1), (2, .int v2), (4, .int v4_1)]) hx hb dX1_rank_44 hl (k := 4) rfl rfl (by decide) rfl (fun ls hl => ?_)
          refine lv_iinc (v := (v4_1 + 1)) (lv' := [(4, .int (v4_1 + 1)), (3, .int (v3_1 + 1)), (5, .int r_1), (0, .ref a_this), (1, .int v1), (2, .int v2)]) hx hb dX1_rank_47 hl (k := 5) rfl rfl (by decide) rfl (fun ls hl => ?_)
          refine lv_goto (tgt := 5) hx hb dX1_rank_50 (by decide) ?_
          exact ih_1 (v3_1 + 1) (v4_1 + 1) o_cells_3 H locs ls hf hP hD hS (lv_sub hl [3, 4, 5, 1, 0] rfl)
  exact hL_1 400 0 1 f_cells H locs ls hf hP hD hS (lv_sub hl [2, 3, 4, 1, 0] rfl)
def kX1_dimension (v2 : Int32) (f_classes : Nat → Int32) (f_cells : Nat → Int32) (i_p1_crossings : Int32) (i_p1_circles : Int32) (f_p1_arcs : Nat → Int32) : Option (Int32 × (Nat → Int32) × (Nat → Int32)) :=
  bnd1 (kX1_uniteOverArcs f_classes i_p1_crossings f_p1_arcs) (fun o_classes_1 => bnd1 (kX1_writeEquations v2 o_classes_1 f_cells i_p1_crossings f_p1_arcs) (fun o_cells_2 => bnd1 (kX1_countClasses o_classes_1 i_p1_crossings f_p1_arcs) (fun r_3 => bnd2 (kX1_rank i_p1_crossings v2 o_cells_2) (fun r_4 o_cells_4 => some (((r_3 + i_p1_circles) - r_4), o_classes_1, o_cells_4)))))
def rmX1_dimension : Room := { frames := 4, cells := 0, slots := 0, locals := 100 }
theorem qX1_dimension_0 : (.fieldLink RX1 30 "KnotDiagram$Diagram" "circles" "I" : Cond) ∈ wsX1_dimension := by decide +kernel
theorem qX1_dimension_1 : (.fieldLink RX1 36 "KnotDiagram$Diagram" "crossings" "I" : Cond) ∈ wsX1_dimension := by decide +kernel
theorem qX1_dimension_X2 : ∀ w ∈ wsX20, w ∈ wsX1_dimension := by decide +kernel
set_option maxHeartbeats 4000000 in
set_option maxRecDepth 100000 in
theorem mX1_dimension (l : Launch) (D : va_G) (cyI cyZ : ClassId) (sz : Nat) (a_this a_p1 a_classes a_cells a_p1_arcs : Nat) (v2 : Int32) (f_classes : Nat → Int32) (f_cells : Nat → Int32) (i_p1_crossings : Int32) (i_p1_circles : Int32) (f_p1_arcs : Nat → Int32) (r : Int32) (o_classes : Nat → Int32) (o_cells : Nat → Int32) (hf : kX1_dimension v2 f_classes f_cells i_p1_crossings i_p1_circles f_p1_arcs = some (r, o_classes, o_cells)) : Met l yX1_dimension wsX1_dimension rmX1_dimension (kPre D cyI cyZ [.ref a_this, .ref a_p1, .int v2] [(a_this, .inr (1, [.ref a_classes, .ref a_cells])), (a_classes, .inl (cyI, 17, .inl f_classes)), (a_cells, .inl (cyI, 136, .inl f_cells)), (a_p1, .inr (2, [.int i_p1_crossings, .int i_p1_circles, .ref a_p1_arcs])), (a_p1_arcs, .inl (cyI, 32, .inl f_p1_arcs))] sz) (kQi D cyI cyZ (va_A [(a_this, .inr (1, [.ref a_classes, .ref a_cells])), (a_classes, .inl (cyI, 17, .inl f_classes)), (a_cells, .inl (cyI, 136, .inl f_cells)), (a_p1, .inr (2, [.int i_p1_crossings, .int i_p1_circles, .ref a_p1_arcs])), (a_p1_arcs, .inl (cyI, 32, .inl f_p1_arcs))] sz) [(a_this, .inr (1, [.ref a_classes, .ref a_cells])), (a_classes, .inl (cyI, 17, .inl o_classes)), (a_cells, .inl (cyI, 136, .inl o_cells)), (a_p1, .inr (2, [.int i_p1_crossings, .int i_p1_circles, .ref a_p1_arcs])), (a_p1_arcs, .inl (cyI, 32, .inl f_p1_arcs))] r) 0 0 (va_A [(a_this, .inr (1, [.ref a_classes, .ref a_cells])), (a_classes, .inl (cyI, 17, .inl f_classes)), (a_cells, .inl (cyI, 136, .inl f_cells)), (a_p1, .inr (2, [.int i_p1_crossings, .int i_p1_circles, .ref a_p1_arcs])), (a_p1_arcs, .inl (cyI, 32, .inl f_p1_arcs))] sz) := by
  refine Met.ofW (cc := cX1_dimension) (maxL := 3) (ret := (some .int)) (by decide) rfl ?_
  intro p e s m args below meth c s₁ B hml hv
  obtain ⟨rfl, hsz, hP, hK, hD0, hN⟩ := hv
  have hx := B.exec
  have hb := B.bytes
  have hr := B.returns
  have hts := atoms_spec (ws := wsX1_dimension) B.pre
  have hown : s.vm.findClass RX1 = some m.cls := findClass_of_methodNamed B.named
  have hlocks := B.notSynchronized
  subst hsz
  have hD := hD0.self (sz := s.heap.size)
  generalize hAe : va_A [(a_this, .inr (1, [.ref a_classes, .ref a_cells])), (a_classes, .inl (cyI, 17, .inl f_classes)), (a_cells, .inl (cyI, 136, .inl f_cells)), (a_p1, .inr (2, [.int i_p1_crossings, .int i_p1_circles, .ref a_p1_arcs])), (a_p1_arcs, .inl (cyI, 32, .inl f_p1_arcs))] s.heap.size = A at hD ⊢
  have hA : ∀ q : Nat, s.heap.size ≤ q → A q := fun q h => by rw [← hAe]; exact Or.inr h
  clear hAe hD0
  have hS : va_S A s.heap s.heap [] := va_S.rf
  have S : CallFix p m c cX1_dimension 3 s (([.ref a_this, .ref a_p1, .int v2] : List Value).toArray) wsX1_dimension RX1 := ⟨hx, hb, hml, hown, hts⟩
  have hl := lv_entry ([.ref a_this, .ref a_p1, .int v2]) (n := 3) (Nat.le_of_ble_eq_true rfl)
  rw [lg_entry_eq]
  generalize (lg_sl ([.ref a_this, .ref a_p1, .int v2]) ++ List.replicate (3 - (lg_sl ([.ref a_this, .ref a_p1, .int v2])).length) Slot.unset).toArray = ls at hl ⊢
  replace hl : lv_has ls 3 [(0, .ref a_this), (1, .ref a_p1), (2, .int v2)] := hl
  generalize ([] : List Loc) = locs at hS ⊢
  delta kX1_dimension at hf
  obtain ⟨H, hH⟩ : ∃ H, H = s.heap := ⟨_, rfl⟩
  have hS : va_S A s.heap H locs := by rw [hH]; exact hS
  have hP : va_P D vwCl [(a_this, .inr (1, [.ref a_classes, .ref a_cells])), (a_classes, .inl (cyI, 17, .inl f_classes)), (a_cells, .inl (cyI, 136, .inl f_cells)), (a_p1, .inr (2, [.int i_p1_crossings, .int i_p1_circles, .ref a_p1_arcs])), (a_p1_arcs, .inl (cyI, 32, .inl f_p1_arcs))] H := by rw [hH]; exact hP
  suffices hgo : W p l e (headSpec wsX1_dimension rmX1_dimension).room s m (([.ref a_this, .ref a_p1, .int v2] : List Value).toArray) below meth c H locs 0 0 (MQ below (kQi D cyI cyZ A [(a_this, .inr (1, [.ref a_classes, .ref a_cells])), (a_classes, .inl (cyI, 17, .inl o_classes)), (a_cells, .inl (cyI, 136, .inl o_cells)), (a_p1, .inr (2, [.int i_p1_crossings, .int i_p1_circles, .ref a_p1_arcs])), (a_p1_arcs, .inl (cyI, 32, .inl f_p1_arcs))] r) (([.ref a_this, .ref a_p1, .int v2] : List Value).toArray) s 0 0 A) (F0 m 0 ls []) by rw [hH] at hgo; exact hgo
  clear hH
  refine lv_aload_n hx hb dX1_dimension_0 rfl (lv_at hl 0 rfl) ?_
  refine lv_aload_n hx hb dX1_dimension_1 rfl (lv_at hl 1 rfl) ?_
  obtain ⟨o_classes_1, hc_1, hf⟩ := bnd1_s hf
  refine kcVv (As := [.ref a_p1]) (rest := []) (w2 := [(a_this, .inr (1, [.ref a_classes, .ref a_cells])), (a_classes, .inl (cyI, 17, .inl o_classes_1)), (a_cells, .inl (cyI, 136, .inl f_cells)), (a_p1, .inr (2, [.int i_p1_crossings, .int i_p1_circles, .ref a_p1_arcs])), (a_p1_arcs, .inl (cyI, 32, .inl f_p1_arcs))]) S hK hP hD hS hA hN (mX1_uniteOverArcs l D cyI cyZ H.size a_this a_p1 a_classes a_cells a_p1_arcs f_classes i_p1_crossings i_p1_circles f_p1_arcs o_classes_1 hc_1) (cwV 1 hts gX1_dimension_X1_uniteOverArcs rfl rfl rfl (by decide +kernel) ⟨Nat.le_of_ble_eq_true rfl, Nat.le_of_ble_eq_true rfl⟩) 1 0 rfl rfl [0, 1, 3, 4] [2] [1, 2, 0, 3, 4] rfl rfl rfl rfl (by decide) rfl rfl hl.1 (Nat.le_of_ble_eq_true rfl) dX1_dimension_2 ⟨Nat.le_of_ble_eq_true rfl, Nat.le_of_ble_eq_true rfl⟩ (fun H locs hP hD hS => ?_)
  refine lv_aload_n hx hb dX1_dimension_5 rfl (lv_at hl 0 rfl) ?_
  refine lv_aload_n hx hb dX1_dimension_6 rfl (lv_at hl 1 rfl) ?_
  refine lv_iload_n hx hb dX1_dimension_7 rfl (lv_at hl 2 rfl) ?_
  obtain ⟨o_cells_2, hc_2, hf⟩ := bnd1_s hf
  refine kcVv (As := [.ref a_p1, .int v2]) (rest := []) (w2 := [(a_this, .inr (1, [.ref a_classes, .ref a_cells])), (a_classes, .inl (cyI, 17, .inl o_classes_1)), (a_cells, .inl (cyI, 136, .inl o_cells_2)), (a_p1, .inr (2, [.int i_p1_crossings, .int i_p1_circles, .ref a_p1_arcs])), (a_p1_arcs, .inl (cyI, 32, .inl f_p1_arcs))]) S hK hP hD hS hA hN (mX1_writeEquations l D cyI cyZ H.size a_this a_p1 a_classes a_cells a_p1_arcs v2 o_classes_1 f_cells i_p1_crossings i_p1_circles f_p1_arcs o_cells_2 hc_2) (cwV 2 hts gX1_dimension_X1_writeEquations rfl rfl rfl (by decide +kernel) ⟨Nat.le_of_ble_eq_true rfl, Nat.le_of_ble_eq_true rfl⟩) 1 0 rfl rfl [0, 1, 2, 3, 4] [] [0, 1, 2, 3, 4] rfl rfl rfl rfl (by decide) rfl rfl hl.1 (Nat.le_of_ble_eq_true rfl) dX1_dimension_8 ⟨Nat.le_of_ble_eq_true rfl, Nat.le_of_ble_eq_true rfl⟩ (fun H locs hP hD hS => ?_)
  refine lv_aload_n hx hb dX1_dimension_11 rfl (lv_at hl 0 rfl) ?_
  refine lv_aload_n hx hb dX1_dimension_12 rfl (lv_at hl 1 rfl) ?_
  obtain ⟨r_3, hc_3, hf⟩ := bnd1_s hf
  refine kcVi (As := [.ref a_p1]) (rest := []) (w2 := [(a_this, .inr (1, [.ref a_classes, .ref a_cells])), (a_classes, .inl (cyI, 17, .inl o_classes_1)), (a_cells, .inl (cyI, 136, .inl o_cells_2)), (a_p1, .inr (2, [.int i_p1_crossings, .int i_p1_circles, .ref a_p1_arcs])), (a_p1_arcs, .inl (cyI, 32, .inl f_p1_arcs))]) S hK hP hD hS hA hN (mX1_countClasses l D cyI cyZ H.size a_this a_p1 a_classes a_cells a_p1_arcs o_classes_1 i_p1_crossings i_p1_circles f_p1_arcs r_3 hc_3) (cwV 1 hts gX1_dimension_X1_countClasses rfl rfl rfl (by decide +kernel) ⟨Nat.le_of_ble_eq_true rfl, Nat.le_of_ble_eq_true rfl⟩) 1 0 rfl rfl [0, 1, 3, 4] [2] [1, 2, 0, 3, 4] rfl rfl rfl rfl (by decide) rfl rfl hl.1 (Nat.le_of_ble_eq_true rfl) dX1_dimension_13 ⟨Nat.le_of_ble_eq_true rfl, Nat.le_of_ble_eq_true rfl⟩ (fun H locs hP hD hS => ?_)
  refine lv_aload_n hx hb dX1_dimension_16 rfl (lv_at hl 1 rfl) ?_
  refine va_get (D := D) (ci := 2) (v := .int i_p1_circles) (C := RX2) (T := TX2) (N := 3) hx hb hts qX1_dimension_X2 hown hK hP 3 rfl rfl 1 (Nat.le_of_ble_eq_true rfl) (hts (.fieldLink RX1 30 "KnotDiagram$Diagram" "circles" "I") qX1_dimension_0) (fun _ h9 => h9) rfl dX1_dimension_17 ?_
  refine lv_iadd hx hb dX1_dimension_20 ?_
  refine lv_aload_n hx hb dX1_dimension_21 rfl (lv_at hl 0 rfl) ?_
  refine lv_aload_n hx hb dX1_dimension_22 rfl (lv_at hl 1 rfl) ?_
  refine va_get (D := D) (ci := 2) (v := .int i_p1_crossings) (C := RX2) (T := TX2) (N := 3) hx hb hts qX1_dimension_X2 hown hK hP 3 rfl rfl 0 (Nat.le_of_ble_eq_true rfl) (hts (.fieldLink RX1 36 "KnotDiagram$Diagram" "crossings" "I") qX1_dimension_1) (fun _ h9 => h9) rfl dX1_dimension_23 ?_
  refine lv_iload_n hx hb dX1_dimension_26 rfl (lv_at hl 2 rfl) ?_
  obtain ⟨r_4, o_cells_4, hc_4, hf⟩ := bnd2_s hf
  refine kcVi (As := [.int i_p1_crossings, .int v2]) (rest := [.int (r_3 + i_p1_circles)]) (w2 := [(a_this, .inr (1, [.ref a_classes, .ref a_cells])), (a_classes, .inl (cyI, 17, .inl o_classes_1)), (a_cells, .inl (cyI, 136, .inl o_cells_4)), (a_p1, .inr (2, [.int i_p1_crossings, .int i_p1_circles, .ref a_p1_arcs])), (a_p1_arcs, .inl (cyI, 32, .inl f_p1_arcs))]) S hK hP hD hS hA hN (mX1_rank l D cyI cyZ H.size a_this a_classes a_cells i_p1_crossings v2 o_cells_2 r_4 o_cells_4 hc_4) (cwV 2 hts gX1_dimension_X1_rank rfl rfl rfl (by decide +kernel) ⟨Nat.le_of_ble_eq_true rfl, Nat.le_of_ble_eq_true rfl⟩) 1 0 rfl rfl [0, 2] [1, 3, 4] [3, 0, 4, 1, 2] rfl rfl rfl rfl (by decide) rfl rfl hl.1 (Nat.le_of_ble_eq_true rfl) dX1_dimension_27 ⟨Nat.le_of_ble_eq_true rfl, Nat.le_of_ble_eq_true rfl⟩ (fun H locs hP hD hS => ?_)
  refine lv_isub hx hb dX1_dimension_30 ?_
  obtain ⟨rfl, rfl, rfl⟩ := some3_s hf
  exact kRi hx hb hr hlocks hP hK hD hS rfl dX1_dimension_31
def kX2_hasCrossing_J1   : Option (Int32) :=
  some 0
def kX2_hasCrossing (v1 : Int32) (i_crossings : Int32) : Option (Int32) :=
  if v1 < 0 then kX2_hasCrossing_J1 else if i_crossings ≤ v1 then kX2_hasCrossing_J1 else some 1
def rmX2_hasCrossing : Room := { frames := 0, cells := 0, slots := 0, locals := 0 }
theorem qX2_hasCrossing_0 : (.fieldLink RX2 15 "KnotDiagram$Diagram" "crossings" "I" : Cond) ∈ wsX2_hasCrossing := by decide +kernel
theorem qX2_hasCrossing_X2 : ∀ w ∈ wsX20, w ∈ wsX2_hasCrossing := by decide +kernel
set_option maxHeartbeats 4000000 in
set_option maxRecDepth 100000 in
theorem mX2_hasCrossing (l : Launch) (D : va_G) (cyI cyZ : ClassId) (sz : Nat) (a_this a_arcs : Nat) (v1 : Int32) (i_crossings : Int32) (i_circles : Int32) (r : Int32) (hf : kX2_hasCrossing v1 i_crossings = some r) : Met l yX2_hasCrossing wsX2_hasCrossing rmX2_hasCrossing (kPre D cyI cyZ [.ref a_this, .int v1] [(a_this, .inr (2, [.int i_crossings, .int i_circles, .ref a_arcs]))] sz) (kQi D cyI cyZ (va_A [(a_this, .inr (2, [.int i_crossings, .int i_circles, .ref a_arcs]))] sz) [(a_this, .inr (2, [.int i_crossings, .int i_circles, .ref a_arcs]))] r) 0 0 (va_A [(a_this, .inr (2, [.int i_crossings, .int i_circles, .ref a_arcs]))] sz) := by
  refine Met.ofW (cc := cX2_hasCrossing) (maxL := 2) (ret := (some .boolean)) (by decide) rfl ?_
  intro p e s m args below meth c s₁ B hml hv
  obtain ⟨rfl, hsz, hP, hK, hD0, hN⟩ := hv
  have hx := B.exec
  have hb := B.bytes
  have hr := B.returns
  have hts := atoms_spec (ws := wsX2_hasCrossing) B.pre
  have hown : s.vm.findClass RX2 = some m.cls := findClass_of_methodNamed B.named
  have hlocks := B.notSynchronized
  subst hsz
  have hD := hD0.self (sz := s.heap.size)
  generalize hAe : va_A [(a_this, .inr (2, [.int i_crossings, .int i_circles, .ref a_arcs]))] s.heap.size = A at hD ⊢
  have hA : ∀ q : Nat, s.heap.size ≤ q → A q := fun q h => by rw [← hAe]; exact Or.inr h
  clear hAe hD0
  have hS : va_S A s.heap s.heap [] := va_S.rf
  have S : CallFix p m c cX2_hasCrossing 2 s (([.ref a_this, .int v1] : List Value).toArray) wsX2_hasCrossing RX2 := ⟨hx, hb, hml, hown, hts⟩
  have hl := lv_entry ([.ref a_this, .int v1]) (n := 2) (Nat.le_of_ble_eq_true rfl)
  rw [lg_entry_eq]
  generalize (lg_sl ([.ref a_this, .int v1]) ++ List.replicate (2 - (lg_sl ([.ref a_this, .int v1])).length) Slot.unset).toArray = ls at hl ⊢
  replace hl : lv_has ls 2 [(0, .ref a_this), (1, .int v1)] := hl
  generalize ([] : List Loc) = locs at hS ⊢
  delta kX2_hasCrossing at hf
  obtain ⟨H, hH⟩ : ∃ H, H = s.heap := ⟨_, rfl⟩
  have hS : va_S A s.heap H locs := by rw [hH]; exact hS
  have hP : va_P D vwCl [(a_this, .inr (2, [.int i_crossings, .int i_circles, .ref a_arcs]))] H := by rw [hH]; exact hP
  suffices hgo : W p l e (headSpec wsX2_hasCrossing rmX2_hasCrossing).room s m (([.ref a_this, .int v1] : List Value).toArray) below meth c H locs 0 0 (MQ below (kQi D cyI cyZ A [(a_this, .inr (2, [.int i_crossings, .int i_circles, .ref a_arcs]))] r) (([.ref a_this, .int v1] : List Value).toArray) s 0 0 A) (F0 m 0 ls []) by rw [hH] at hgo; exact hgo
  clear hH
  refine lv_iload_n hx hb dX2_hasCrossing_0 rfl (lv_at hl 1 rfl) ?_
  have hJ_1 : ∀  (H : Heap) (locs : List Loc) (ls : Array Slot), kX2_hasCrossing_J1  = some r → va_P D vwCl [(a_this, .inr (2, [.int i_crossings, .int i_circles, .ref a_arcs]))] H → va_D A [(a_this, .inr (2, [.int i_crossings, .int i_circles, .ref a_arcs]))] → va_S A s.heap H locs → lv_has ls 2 [] → W p l e (headSpec wsX2_hasCrossing rmX2_hasCrossing).room s m (([.ref a_this, .int v1] : List Value).toArray) below meth c H locs 0 0 (MQ below (kQi D cyI cyZ A [(a_this, .inr (2, [.int i_crossings, .int i_circles, .ref a_arcs]))] r) (([.ref a_this, .int v1] : List Value).toArray) s 0 0 A) (F0 m 16 ls []) := by
    intro  H locs ls hf hP hD hS hl
    delta kX2_hasCrossing_J1 at hf
    refine lv_iconst (v := 0) hx hb dX2_hasCrossing_16 (by decide) ?_
    obtain rfl := some1_s hf
    exact kRz hx hb hr hlocks hP hK hD hS zn0 rfl dX2_hasCrossing_17
  refine lv_if_lt (tgt := 16) hx hb dX2_hasCrossing_1 (by decide) (fun c_2 => ?_) (fun c_2 => ?_)
  · replace hf := kt_p hf c_2
    exact hJ_1 H locs ls hf hP hD hS (lv_sub hl [] rfl)
  · replace hf := kt_n hf c_2
    refine lv_iload_n hx hb dX2_hasCrossing_4 rfl (lv_at hl 1 rfl) ?_
    refine lv_aload_n hx hb dX2_hasCrossing_5 rfl (lv_at hl 0 rfl) ?_
    refine va_get (D := D) (ci := 2) (v := .int i_crossings) (C := RX2) (T := TX2) (N := 3) hx hb hts qX2_hasCrossing_X2 hown hK hP 0 rfl rfl 0 (Nat.le_of_ble_eq_true rfl) (hts (.fieldLink RX2 15 "KnotDiagram$Diagram" "crossings" "I") qX2_hasCrossing_0) (fun _ h9 => h9) rfl dX2_hasCrossing_6 ?_
    refine lv_icmp_ge (tgt := 16) hx hb dX2_hasCrossing_9 (by decide) (fun c_1 => ?_) (fun c_1 => ?_)
    · replace hf := kt_p hf c_1
      exact hJ_1 H locs ls hf hP hD hS (lv_sub hl [] rfl)
    · replace hf := kt_n hf c_1
      refine lv_iconst (v := 1) hx hb dX2_hasCrossing_12 (by decide) ?_
      refine lv_goto (tgt := 17) hx hb dX2_hasCrossing_13 (by decide) ?_
      obtain rfl := some1_s hf
      exact kRz hx hb hr hlocks hP hK hD hS zn1 rfl dX2_hasCrossing_17
def kX2_setArc (v1 : Int32) (v2 : Int32) (f_arcs : Nat → Int32) : Option ((Nat → Int32)) :=
  if v1 < 0 then some f_arcs else if 32 ≤ v1 then some f_arcs else ck v1 32 (some (upd f_arcs v1.toNatClampNeg v2))
def rmX2_setArc : Room := { frames := 0, cells := 0, slots := 0, locals := 0 }
theorem qX2_setArc_0 : (.fieldLink RX2 9 "KnotDiagram$Diagram" "arcs" "[I" : Cond) ∈ wsX2_setArc := by decide +kernel
theorem qX2_setArc_X2 : ∀ w ∈ wsX20, w ∈ wsX2_setArc := by decide +kernel
set_option maxHeartbeats 4000000 in
set_option maxRecDepth 100000 in
theorem mX2_setArc (l : Launch) (D : va_G) (cyI cyZ : ClassId) (sz : Nat) (a_this a_arcs : Nat) (v1 : Int32) (v2 : Int32) (i_crossings : Int32) (i_circles : Int32) (f_arcs : Nat → Int32) (o_arcs : Nat → Int32) (hf : kX2_setArc v1 v2 f_arcs = some o_arcs) : Met l yX2_setArc wsX2_setArc rmX2_setArc (kPre D cyI cyZ [.ref a_this, .int v1, .int v2] [(a_this, .inr (2, [.int i_crossings, .int i_circles, .ref a_arcs])), (a_arcs, .inl (cyI, 32, .inl f_arcs))] sz) (kQv D cyI cyZ (va_A [(a_this, .inr (2, [.int i_crossings, .int i_circles, .ref a_arcs])), (a_arcs, .inl (cyI, 32, .inl f_arcs))] sz) [(a_this, .inr (2, [.int i_crossings, .int i_circles, .ref a_arcs])), (a_arcs, .inl (cyI, 32, .inl o_arcs))]) 0 0 (va_A [(a_this, .inr (2, [.int i_crossings, .int i_circles, .ref a_arcs])), (a_arcs, .inl (cyI, 32, .inl f_arcs))] sz) := by
  refine Met.ofW (cc := cX2_setArc) (maxL := 3) (ret := none) (by decide) rfl ?_
  intro p e s m args below meth c s₁ B hml hv
  obtain ⟨rfl, hsz, hP, hK, hD0, hN⟩ := hv
  have hx := B.exec
  have hb := B.bytes
  have hr := B.returns
  have hts := atoms_spec (ws := wsX2_setArc) B.pre
  have hown : s.vm.findClass RX2 = some m.cls := findClass_of_methodNamed B.named
  have hlocks := B.notSynchronized
  subst hsz
  have hD := hD0.self (sz := s.heap.size)
  generalize hAe : va_A [(a_this, .inr (2, [.int i_crossings, .int i_circles, .ref a_arcs])), (a_arcs, .inl (cyI, 32, .inl f_arcs))] s.heap.size = A at hD ⊢
  have hA : ∀ q : Nat, s.heap.size ≤ q → A q := fun q h => by rw [← hAe]; exact Or.inr h
  clear hAe hD0
  have hS : va_S A s.heap s.heap [] := va_S.rf
  have S : CallFix p m c cX2_setArc 3 s (([.ref a_this, .int v1, .int v2] : List Value).toArray) wsX2_setArc RX2 := ⟨hx, hb, hml, hown, hts⟩
  have hl := lv_entry ([.ref a_this, .int v1, .int v2]) (n := 3) (Nat.le_of_ble_eq_true rfl)
  rw [lg_entry_eq]
  generalize (lg_sl ([.ref a_this, .int v1, .int v2]) ++ List.replicate (3 - (lg_sl ([.ref a_this, .int v1, .int v2])).length) Slot.unset).toArray = ls at hl ⊢
  replace hl : lv_has ls 3 [(0, .ref a_this), (1, .int v1), (2, .int v2)] := hl
  generalize ([] : List Loc) = locs at hS ⊢
  delta kX2_setArc at hf
  obtain ⟨H, hH⟩ : ∃ H, H = s.heap := ⟨_, rfl⟩
  have hS : va_S A s.heap H locs := by rw [hH]; exact hS
  have hP : va_P D vwCl [(a_this, .inr (2, [.int i_crossings, .int i_circles, .ref a_arcs])), (a_arcs, .inl (cyI, 32, .inl f_arcs))] H := by rw [hH]; exact hP
  suffices hgo : W p l e (headSpec wsX2_setArc rmX2_setArc).room s m (([.ref a_this, .int v1, .int v2] : List Value).toArray) below meth c H locs 0 0 (MQ below (kQv D cyI cyZ A [(a_this, .inr (2, [.int i_crossings, .int i_circles, .ref a_arcs])), (a_arcs, .inl (cyI, 32, .inl o_arcs))]) (([.ref a_this, .int v1, .int v2] : List Value).toArray) s 0 0 A) (F0 m 0 ls []) by rw [hH] at hgo; exact hgo
  clear hH
  refine lv_iload_n hx hb dX2_setArc_0 rfl (lv_at hl 1 rfl) ?_
  refine lv_if_lt (tgt := 17) hx hb dX2_setArc_1 (by decide) (fun c_3 => ?_) (fun c_3 => ?_)
  · replace hf := kt_p hf c_3
    obtain rfl := some1_s hf
    exact kRv hx hb hr hlocks hP hK hD hS dX2_setArc_17
  · replace hf := kt_n hf c_3
    refine lv_iload_n hx hb dX2_setArc_4 rfl (lv_at hl 1 rfl) ?_
    refine lv_bipush (v := 32) hx hb dX2_setArc_5 (by decide) ?_
    refine lv_icmp_ge (tgt := 17) hx hb dX2_setArc_7 (by decide) (fun c_2 => ?_) (fun c_2 => ?_)
    · replace hf := kt_p hf c_2
      obtain rfl := some1_s hf
      exact kRv hx hb hr hlocks hP hK hD hS dX2_setArc_17
    · replace hf := kt_n hf c_2
      refine lv_aload_n hx hb dX2_setArc_10 rfl (lv_at hl 0 rfl) ?_
      refine va_get (D := D) (ci := 2) (v := .ref a_arcs) (C := RX2) (T := TX2) (N := 3) hx hb hts qX2_setArc_X2 hown hK hP 0 rfl rfl 2 (Nat.le_of_ble_eq_true rfl) (hts (.fieldLink RX2 9 "KnotDiagram$Diagram" "arcs" "[I") qX2_setArc_0) (fun _ h9 => h9) rfl dX2_setArc_11 ?_
      refine lv_iload_n hx hb dX2_setArc_14 rfl (lv_at hl 1 rfl) ?_
      refine lv_iload_n hx hb dX2_setArc_15 rfl (lv_at hl 2 rfl) ?_
      obtain ⟨hi_1, hf⟩ := ck_s hf
      refine va_iast hx hb hK hP hD hS 1 0 rfl rfl hi_1 dX2_setArc_16 (fun H locs hP hD hS => ?_)
      replace hP : va_P D vwCl [(a_this, .inr (2, [.int i_crossings, .int i_circles, .ref a_arcs])), (a_arcs, .inl (cyI, 32, .inl (upd f_arcs v1.toNatClampNeg v2)))] H := hP
      replace hD : va_D A [(a_this, .inr (2, [.int i_crossings, .int i_circles, .ref a_arcs])), (a_arcs, .inl (cyI, 32, .inl (upd f_arcs v1.toNatClampNeg v2)))] := hD
      obtain rfl := some1_s hf
      exact kRv hx hb hr hlocks hP hK hD hS dX2_setArc_17
def kX2_clear_L1  (K_1 : Int32 → (Nat → Int32) → Option (Int32 × Int32 × (Nat → Int32))) (v1_1 : Int32) (f_arcs_1 : Nat → Int32) : Option (Int32 × Int32 × (Nat → Int32)) :=
  if 32 ≤ v1_1 then some (0, 0, f_arcs_1) else ck v1_1 32 (K_1 (v1_1 + 1) (upd f_arcs_1 v1_1.toNatClampNeg 0))
def kX2_clear (i_crossings : Int32) (i_circles : Int32) (f_arcs : Nat → Int32) : Option (Int32 × Int32 × (Nat → Int32)) :=
  it2 kX2_clear_L1 400 0 f_arcs
def rmX2_clear : Room := { frames := 0, cells := 0, slots := 0, locals := 0 }
theorem qX2_clear_0 : (.fieldLink RX2 15 "KnotDiagram$Diagram" "crossings" "I" : Cond) ∈ wsX2_clear := by decide +kernel
theorem qX2_clear_1 : (.fieldLink RX2 19 "KnotDiagram$Diagram" "circles" "I" : Cond) ∈ wsX2_clear := by decide +kernel
theorem qX2_clear_2 : (.fieldLink RX2 9 "KnotDiagram$Diagram" "arcs" "[I" : Cond) ∈ wsX2_clear := by decide +kernel
theorem qX2_clear_X2 : ∀ w ∈ wsX20, w ∈ wsX2_clear := by decide +kernel
set_option maxHeartbeats 4000000 in
set_option maxRecDepth 100000 in
theorem mX2_clear (l : Launch) (D : va_G) (cyI cyZ : ClassId) (sz : Nat) (a_this a_arcs : Nat) (i_crossings : Int32) (i_circles : Int32) (f_arcs : Nat → Int32) (o_crossings : Int32) (o_circles : Int32) (o_arcs : Nat → Int32) (hf : kX2_clear i_crossings i_circles f_arcs = some (o_crossings, o_circles, o_arcs)) : Met l yX2_clear wsX2_clear rmX2_clear (kPre D cyI cyZ [.ref a_this] [(a_this, .inr (2, [.int i_crossings, .int i_circles, .ref a_arcs])), (a_arcs, .inl (cyI, 32, .inl f_arcs))] sz) (kQv D cyI cyZ (va_A [(a_this, .inr (2, [.int i_crossings, .int i_circles, .ref a_arcs])), (a_arcs, .inl (cyI, 32, .inl f_arcs))] sz) [(a_this, .inr (2, [.int o_crossings, .int o_circles, .ref a_arcs])), (a_arcs, .inl (cyI, 32, .inl o_arcs))]) 0 0 (va_A [(a_this, .inr (2, [.int i_crossings, .int i_circles, .ref a_arcs])), (a_arcs, .inl (cyI, 32, .inl f_arcs))] sz) := by
  refine Met.ofW (cc := cX2_clear) (maxL := 2) (ret := none) (by decide) rfl ?_
  intro p e s m args below meth c s₁ B hml hv
  obtain ⟨rfl, hsz, hP, hK, hD0, hN⟩ := hv
  have hx := B.exec
  have hb := B.bytes
  have hr := B.returns
  have hts := atoms_spec (ws := wsX2_clear) B.pre
  have hown : s.vm.findClass RX2 = some m.cls := findClass_of_methodNamed B.named
  have hlocks := B.notSynchronized
  subst hsz
  have hD := hD0.self (sz := s.heap.size)
  generalize hAe : va_A [(a_this, .inr (2, [.int i_crossings, .int i_circles, .ref a_arcs])), (a_arcs, .inl (cyI, 32, .inl f_arcs))] s.heap.size = A at hD ⊢
  have hA : ∀ q : Nat, s.heap.size ≤ q → A q := fun q h => by rw [← hAe]; exact Or.inr h
  clear hAe hD0
  have hS : va_S A s.heap s.heap [] := va_S.rf
  have S : CallFix p m c cX2_clear 2 s (([.ref a_this] : List Value).toArray) wsX2_clear RX2 := ⟨hx, hb, hml, hown, hts⟩
  have hl := lv_entry ([.ref a_this]) (n := 2) (Nat.le_of_ble_eq_true rfl)
  rw [lg_entry_eq]
  generalize (lg_sl ([.ref a_this]) ++ List.replicate (2 - (lg_sl ([.ref a_this])).length) Slot.unset).toArray = ls at hl ⊢
  replace hl : lv_has ls 2 [(0, .ref a_this)] := hl
  generalize ([] : List Loc) = locs at hS ⊢
  delta kX2_clear at hf
  obtain ⟨H, hH⟩ : ∃ H, H = s.heap := ⟨_, rfl⟩
  have hS : va_S A s.heap H locs := by rw [hH]; exact hS
  have hP : va_P D vwCl [(a_this, .inr (2, [.int i_crossings, .int i_circles, .ref a_arcs])), (a_arcs, .inl (cyI, 32, .inl f_arcs))] H := by rw [hH]; exact hP
  suffices hgo : W p l e (headSpec wsX2_clear rmX2_clear).room s m (([.ref a_this] : List Value).toArray) below meth c H locs 0 0 (MQ below (kQv D cyI cyZ A [(a_this, .inr (2, [.int o_crossings, .int o_circles, .ref a_arcs])), (a_arcs, .inl (cyI, 32, .inl o_arcs))]) (([.ref a_this] : List Value).toArray) s 0 0 A) (F0 m 0 ls []) by rw [hH] at hgo; exact hgo
  clear hH
  refine lv_aload_n hx hb dX2_clear_0 rfl (lv_at hl 0 rfl) ?_
  refine lv_iconst (v := 0) hx hb dX2_clear_1 (by decide) ?_
  refine va_put (D := D) (ci := 2) (v := .int 0) (ty := .int) (C := RX2) (T := TX2) (N := 3) hx hb hts qX2_clear_X2 tyX2 tyX2_ok nmX2 hown hK hP hD hS 0 rfl rfl 0 (Nat.le_of_ble_eq_true rfl) (hts (.fieldLink RX2 15 "KnotDiagram$Diagram" "crossings" "I") qX2_clear_0) (fun _ h9 => h9) rfl (by decide +kernel) rfl rfl (Nat.le_of_ble_eq_true rfl) dX2_clear_2 (fun H locs hP hD hS => ?_)
  replace hP : va_P D vwCl [(a_this, .inr (2, [.int 0, .int i_circles, .ref a_arcs])), (a_arcs, .inl (cyI, 32, .inl f_arcs))] H := hP
  replace hD : va_D A [(a_this, .inr (2, [.int 0, .int i_circles, .ref a_arcs])), (a_arcs, .inl (cyI, 32, .inl f_arcs))] := hD
  refine lv_aload_n hx hb dX2_clear_5 rfl (lv_at hl 0 rfl) ?_
  refine lv_iconst (v := 0) hx hb dX2_clear_6 (by decide) ?_
  refine va_put (D := D) (ci := 2) (v := .int 0) (ty := .int) (C := RX2) (T := TX2) (N := 3) hx hb hts qX2_clear_X2 tyX2 tyX2_ok nmX2 hown hK hP hD hS 0 rfl rfl 1 (Nat.le_of_ble_eq_true rfl) (hts (.fieldLink RX2 19 "KnotDiagram$Diagram" "circles" "I") qX2_clear_1) (fun _ h9 => h9) rfl (by decide +kernel) rfl rfl (Nat.le_of_ble_eq_true rfl) dX2_clear_7 (fun H locs hP hD hS => ?_)
  replace hP : va_P D vwCl [(a_this, .inr (2, [.int 0, .int 0, .ref a_arcs])), (a_arcs, .inl (cyI, 32, .inl f_arcs))] H := hP
  replace hD : va_D A [(a_this, .inr (2, [.int 0, .int 0, .ref a_arcs])), (a_arcs, .inl (cyI, 32, .inl f_arcs))] := hD
  refine lv_iconst (v := 0) hx hb dX2_clear_10 (by decide) ?_
  refine lv_istore_n (lv' := [(1, .int 0), (0, .ref a_this)]) hx hb dX2_clear_11 rfl hl (by decide) rfl (fun ls hl => ?_)
  have hL_1 : ∀ (n : Nat) (v1_1 : Int32) (f_arcs_1 : Nat → Int32) (H : Heap) (locs : List Loc) (ls : Array Slot), it2 kX2_clear_L1 n v1_1 f_arcs_1 = some (o_crossings, o_circles, o_arcs) → va_P D vwCl [(a_this, .inr (2, [.int 0, .int 0, .ref a_arcs])), (a_arcs, .inl (cyI, 32, .inl f_arcs_1))] H → va_D A [(a_this, .inr (2, [.int 0, .int 0, .ref a_arcs])), (a_arcs, .inl (cyI, 32, .inl f_arcs_1))] → va_S A s.heap H locs → lv_has ls 2 [(0, .ref a_this), (1, .int v1_1)] → W p l e (headSpec wsX2_clear rmX2_clear).room s m (([.ref a_this] : List Value).toArray) below meth c H locs 0 0 (MQ below (kQv D cyI cyZ A [(a_this, .inr (2, [.int o_crossings, .int o_circles, .ref a_arcs])), (a_arcs, .inl (cyI, 32, .inl o_arcs))]) (([.ref a_this] : List Value).toArray) s 0 0 A) (F0 m 12 ls []) := by
    intro n_1
    induction n_1 with
    | zero =>
      intro _ _ _ _ _ hf
      exact (it2_z hf).elim
    | succ n_1 ih_1 =>
      intro v1_1 f_arcs_1 H locs ls hf hP hD hS hl
      replace hf := it2_s hf
      rw [kX2_clear_L1] at hf
      refine lv_iload_n hx hb dX2_clear_12 rfl (lv_at hl 1 rfl) ?_
      refine lv_bipush (v := 32) hx hb dX2_clear_13 (by decide) ?_
      refine lv_icmp_ge (tgt := 31) hx hb dX2_clear_15 (by decide) (fun c_2 => ?_) (fun c_2 => ?_)
      · replace hf := kt_p hf c_2
        obtain ⟨rfl, rfl, rfl⟩ := some3_s hf
        exact kRv hx hb hr hlocks hP hK hD hS dX2_clear_31
      · replace hf := kt_n hf c_2
        refine lv_aload_n hx hb dX2_clear_18 rfl (lv_at hl 0 rfl) ?_
        refine va_get (D := D) (ci := 2) (v := .ref a_arcs) (C := RX2) (T := TX2) (N := 3) hx hb hts qX2_clear_X2 hown hK hP 0 rfl rfl 2 (Nat.le_of_ble_eq_true rfl) (hts (.fieldLink RX2 9 "KnotDiagram$Diagram" "arcs" "[I") qX2_clear_2) (fun _ h9 => h9) rfl dX2_clear_19 ?_
        refine lv_iload_n hx hb dX2_clear_22 rfl (lv_at hl 1 rfl) ?_
        refine lv_iconst (v := 0) hx hb dX2_clear_23 (by decide) ?_
        obtain ⟨hi_1, hf⟩ := ck_s hf
        refine va_iast hx hb hK hP hD hS 1 0 rfl rfl hi_1 dX2_clear_24 (fun H locs hP hD hS => ?_)
        replace hP : va_P D vwCl [(a_this, .inr (2, [.int 0, .int 0, .ref a_arcs])), (a_arcs, .inl (cyI, 32, .inl (upd f_arcs_1 v1_1.toNatClampNeg 0)))] H := hP
        replace hD : va_D A [(a_this, .inr (2, [.int 0, .int 0, .ref a_arcs])), (a_arcs, .inl (cyI, 32, .inl (upd f_arcs_1 v1_1.toNatClampNeg 0)))] := hD
        refine lv_iinc (v := (v1_1 + 1)) (lv' := [(1, .int (v1_1 + 1)), (0, .ref a_this)]) hx hb dX2_clear_25 hl (k := 1) rfl rfl (by decide) rfl (fun ls hl => ?_)
        refine lv_goto (tgt := 12) hx hb dX2_clear_28 (by decide) ?_
        exact ih_1 (v1_1 + 1) (upd f_arcs_1 v1_1.toNatClampNeg 0) H locs ls hf hP hD hS (lv_sub hl [1, 0] rfl)
  exact hL_1 400 0 f_arcs H locs ls hf hP hD hS (lv_sub hl [1, 0] rfl)
def kX2_copyFrom_L1 (i_p1_crossings : Int32) (i_p1_circles : Int32) (f_p1_arcs : Nat → Int32) (K_1 : Int32 → (Nat → Int32) → Option (Int32 × Int32 × (Nat → Int32))) (v2_1 : Int32) (f_arcs_1 : Nat → Int32) : Option (Int32 × Int32 × (Nat → Int32)) :=
  if 32 ≤ v2_1 then some (i_p1_crossings, i_p1_circles, f_arcs_1) else ck v2_1 32 (ck v2_1 32 (K_1 (v2_1 + 1) (upd f_arcs_1 v2_1.toNatClampNeg (f_p1_arcs v2_1.toNatClampNeg))))
def kX2_copyFrom (i_crossings : Int32) (i_circles : Int32) (f_arcs : Nat → Int32) (i_p1_crossings : Int32) (i_p1_circles : Int32) (f_p1_arcs : Nat → Int32) : Option (Int32 × Int32 × (Nat → Int32)) :=
  it2 (kX2_copyFrom_L1 i_p1_crossings i_p1_circles f_p1_arcs) 400 0 f_arcs
def rmX2_copyFrom : Room := { frames := 0, cells := 0, slots := 0, locals := 0 }
theorem qX2_copyFrom_0 : (.fieldLink RX2 15 "KnotDiagram$Diagram" "crossings" "I" : Cond) ∈ wsX2_copyFrom := by decide +kernel
theorem qX2_copyFrom_1 : (.fieldLink RX2 19 "KnotDiagram$Diagram" "circles" "I" : Cond) ∈ wsX2_copyFrom := by decide +kernel
theorem qX2_copyFrom_2 : (.fieldLink RX2 9 "KnotDiagram$Diagram" "arcs" "[I" : Cond) ∈ wsX2_copyFrom := by decide +kernel
theorem qX2_copyFrom_X2 : ∀ w ∈ wsX20, w ∈ wsX2_copyFrom := by decide +kernel
set_option maxHeartbeats 4000000 in
set_option maxRecDepth 100000 in
theorem mX2_copyFrom (l : Launch) (D : va_G) (cyI cyZ : ClassId) (sz : Nat) (a_this a_p1 a_arcs a_p1_arcs : Nat) (i_crossings : Int32) (i_circles : Int32) (f_arcs : Nat → Int32) (i_p1_crossings : Int32) (i_p1_circles : Int32) (f_p1_arcs : Nat → Int32) (o_crossings : Int32) (o_circles : Int32) (o_arcs : Nat → Int32) (hf : kX2_copyFrom i_crossings i_circles f_arcs i_p1_crossings i_p1_circles f_p1_arcs = some (o_crossings, o_circles, o_arcs)) : Met l yX2_copyFrom wsX2_copyFrom rmX2_copyFrom (kPre D cyI cyZ [.ref a_this, .ref a_p1] [(a_this, .inr (2, [.int i_crossings, .int i_circles, .ref a_arcs])), (a_arcs, .inl (cyI, 32, .inl f_arcs)), (a_p1, .inr (2, [.int i_p1_crossings, .int i_p1_circles, .ref a_p1_arcs])), (a_p1_arcs, .inl (cyI, 32, .inl f_p1_arcs))] sz) (kQv D cyI cyZ (va_A [(a_this, .inr (2, [.int i_crossings, .int i_circles, .ref a_arcs])), (a_arcs, .inl (cyI, 32, .inl f_arcs)), (a_p1, .inr (2, [.int i_p1_crossings, .int i_p1_circles, .ref a_p1_arcs])), (a_p1_arcs, .inl (cyI, 32, .inl f_p1_arcs))] sz) [(a_this, .inr (2, [.int o_crossings, .int o_circles, .ref a_arcs])), (a_arcs, .inl (cyI, 32, .inl o_arcs)), (a_p1, .inr (2, [.int i_p1_crossings, .int i_p1_circles, .ref a_p1_arcs])), (a_p1_arcs, .inl (cyI, 32, .inl f_p1_arcs))]) 0 0 (va_A [(a_this, .inr (2, [.int i_crossings, .int i_circles, .ref a_arcs])), (a_arcs, .inl (cyI, 32, .inl f_arcs)), (a_p1, .inr (2, [.int i_p1_crossings, .int i_p1_circles, .ref a_p1_arcs])), (a_p1_arcs, .inl (cyI, 32, .inl f_p1_arcs))] sz) := by
  refine Met.ofW (cc := cX2_copyFrom) (maxL := 3) (ret := none) (by decide) rfl ?_
  intro p e s m args below meth c s₁ B hml hv
  obtain ⟨rfl, hsz, hP, hK, hD0, hN⟩ := hv
  have hx := B.exec
  have hb := B.bytes
  have hr := B.returns
  have hts := atoms_spec (ws := wsX2_copyFrom) B.pre
  have hown : s.vm.findClass RX2 = some m.cls := findClass_of_methodNamed B.named
  have hlocks := B.notSynchronized
  subst hsz
  have hD := hD0.self (sz := s.heap.size)
  generalize hAe : va_A [(a_this, .inr (2, [.int i_crossings, .int i_circles, .ref a_arcs])), (a_arcs, .inl (cyI, 32, .inl f_arcs)), (a_p1, .inr (2, [.int i_p1_crossings, .int i_p1_circles, .ref a_p1_arcs])), (a_p1_arcs, .inl (cyI, 32, .inl f_p1_arcs))] s.heap.size = A at hD ⊢
  have hA : ∀ q : Nat, s.heap.size ≤ q → A q := fun q h => by rw [← hAe]; exact Or.inr h
  clear hAe hD0
  have hS : va_S A s.heap s.heap [] := va_S.rf
  have S : CallFix p m c cX2_copyFrom 3 s (([.ref a_this, .ref a_p1] : List Value).toArray) wsX2_copyFrom RX2 := ⟨hx, hb, hml, hown, hts⟩
  have hl := lv_entry ([.ref a_this, .ref a_p1]) (n := 3) (Nat.le_of_ble_eq_true rfl)
  rw [lg_entry_eq]
  generalize (lg_sl ([.ref a_this, .ref a_p1]) ++ List.replicate (3 - (lg_sl ([.ref a_this, .ref a_p1])).length) Slot.unset).toArray = ls at hl ⊢
  replace hl : lv_has ls 3 [(0, .ref a_this), (1, .ref a_p1)] := hl
  generalize ([] : List Loc) = locs at hS ⊢
  delta kX2_copyFrom at hf
  obtain ⟨H, hH⟩ : ∃ H, H = s.heap := ⟨_, rfl⟩
  have hS : va_S A s.heap H locs := by rw [hH]; exact hS
  have hP : va_P D vwCl [(a_this, .inr (2, [.int i_crossings, .int i_circles, .ref a_arcs])), (a_arcs, .inl (cyI, 32, .inl f_arcs)), (a_p1, .inr (2, [.int i_p1_crossings, .int i_p1_circles, .ref a_p1_arcs])), (a_p1_arcs, .inl (cyI, 32, .inl f_p1_arcs))] H := by rw [hH]; exact hP
  suffices hgo : W p l e (headSpec wsX2_copyFrom rmX2_copyFrom).room s m (([.ref a_this, .ref a_p1] : List Value).toArray) below meth c H locs 0 0 (MQ below (kQv D cyI cyZ A [(a_this, .inr (2, [.int o_crossings, .int o_circles, .ref a_arcs])), (a_arcs, .inl (cyI, 32, .inl o_arcs)), (a_p1, .inr (2, [.int i_p1_crossings, .int i_p1_circles, .ref a_p1_arcs])), (a_p1_arcs, .inl (cyI, 32, .inl f_p1_arcs))]) (([.ref a_this, .ref a_p1] : List Value).toArray) s 0 0 A) (F0 m 0 ls []) by rw [hH] at hgo; exact hgo
  clear hH
  refine lv_aload_n hx hb dX2_copyFrom_0 rfl (lv_at hl 0 rfl) ?_
  refine lv_aload_n hx hb dX2_copyFrom_1 rfl (lv_at hl 1 rfl) ?_
  refine va_get (D := D) (ci := 2) (v := .int i_p1_crossings) (C := RX2) (T := TX2) (N := 3) hx hb hts qX2_copyFrom_X2 hown hK hP 2 rfl rfl 0 (Nat.le_of_ble_eq_true rfl) (hts (.fieldLink RX2 15 "KnotDiagram$Diagram" "crossings" "I") qX2_copyFrom_0) (fun _ h9 => h9) rfl dX2_copyFrom_2 ?_
  refine va_put (D := D) (ci := 2) (v := .int i_p1_crossings) (ty := .int) (C := RX2) (T := TX2) (N := 3) hx hb hts qX2_copyFrom_X2 tyX2 tyX2_ok nmX2 hown hK hP hD hS 0 rfl rfl 0 (Nat.le_of_ble_eq_true rfl) (hts (.fieldLink RX2 15 "KnotDiagram$Diagram" "crossings" "I") qX2_copyFrom_0) (fun _ h9 => h9) rfl (by decide +kernel) rfl rfl (Nat.le_of_ble_eq_true rfl) dX2_copyFrom_5 (fun H locs hP hD hS => ?_)
  replace hP : va_P D vwCl [(a_this, .inr (2, [.int i_p1_crossings, .int i_circles, .ref a_arcs])), (a_arcs, .inl (cyI, 32, .inl f_arcs)), (a_p1, .inr (2, [.int i_p1_crossings, .int i_p1_circles, .ref a_p1_arcs])), (a_p1_arcs, .inl (cyI, 32, .inl f_p1_arcs))] H := hP
  replace hD : va_D A [(a_this, .inr (2, [.int i_p1_crossings, .int i_circles, .ref a_arcs])), (a_arcs, .inl (cyI, 32, .inl f_arcs)), (a_p1, .inr (2, [.int i_p1_crossings, .int i_p1_circles, .ref a_p1_arcs])), (a_p1_arcs, .inl (cyI, 32, .inl f_p1_arcs))] := hD
  refine lv_aload_n hx hb dX2_copyFrom_8 rfl (lv_at hl 0 rfl) ?_
  refine lv_aload_n hx hb dX2_copyFrom_9 rfl (lv_at hl 1 rfl) ?_
  refine va_get (D := D) (ci := 2) (v := .int i_p1_circles) (C := RX2) (T := TX2) (N := 3) hx hb hts qX2_copyFrom_X2 hown hK hP 2 rfl rfl 1 (Nat.le_of_ble_eq_true rfl) (hts (.fieldLink RX2 19 "KnotDiagram$Diagram" "circles" "I") qX2_copyFrom_1) (fun _ h9 => h9) rfl dX2_copyFrom_10 ?_
  refine va_put (D := D) (ci := 2) (v := .int i_p1_circles) (ty := .int) (C := RX2) (T := TX2) (N := 3) hx hb hts qX2_copyFrom_X2 tyX2 tyX2_ok nmX2 hown hK hP hD hS 0 rfl rfl 1 (Nat.le_of_ble_eq_true rfl) (hts (.fieldLink RX2 19 "KnotDiagram$Diagram" "circles" "I") qX2_copyFrom_1) (fun _ h9 => h9) rfl (by decide +kernel) rfl rfl (Nat.le_of_ble_eq_true rfl) dX2_copyFrom_13 (fun H locs hP hD hS => ?_)
  replace hP : va_P D vwCl [(a_this, .inr (2, [.int i_p1_crossings, .int i_p1_circles, .ref a_arcs])), (a_arcs, .inl (cyI, 32, .inl f_arcs)), (a_p1, .inr (2, [.int i_p1_crossings, .int i_p1_circles, .ref a_p1_arcs])), (a_p1_arcs, .inl (cyI, 32, .inl f_p1_arcs))] H := hP
  replace hD : va_D A [(a_this, .inr (2, [.int i_p1_crossings, .int i_p1_circles, .ref a_arcs])), (a_arcs, .inl (cyI, 32, .inl f_arcs)), (a_p1, .inr (2, [.int i_p1_crossings, .int i_p1_circles, .ref a_p1_arcs])), (a_p1_arcs, .inl (cyI, 32, .inl f_p1_arcs))] := hD
  refine lv_iconst (v := 0) hx hb dX2_copyFrom_16 (by decide) ?_
  refine lv_istore_n (lv' := [(2, .int 0), (0, .ref a_this), (1, .ref a_p1)]) hx hb dX2_copyFrom_17 rfl hl (by decide) rfl (fun ls hl => ?_)
  have hL_1 : ∀ (n : Nat) (v2_1 : Int32) (f_arcs_1 : Nat → Int32) (H : Heap) (locs : List Loc) (ls : Array Slot), it2 (kX2_copyFrom_L1 i_p1_crossings i_p1_circles f_p1_arcs) n v2_1 f_arcs_1 = some (o_crossings, o_circles, o_arcs) → va_P D vwCl [(a_this, .inr (2, [.int i_p1_crossings, .int i_p1_circles, .ref a_arcs])), (a_arcs, .inl (cyI, 32, .inl f_arcs_1)), (a_p1, .inr (2, [.int i_p1_crossings, .int i_p1_circles, .ref a_p1_arcs])), (a_p1_arcs, .inl (cyI, 32, .inl f_p1_arcs))] H → va_D A [(a_this, .inr (2, [.int i_p1_crossings, .int i_p1_circles, .ref a_arcs])), (a_arcs, .inl (cyI, 32, .inl f_arcs_1)), (a_p1, .inr (2, [.int i_p1_crossings, .int i_p1_circles, .ref a_p1_arcs])), (a_p1_arcs, .inl (cyI, 32, .inl f_p1_arcs))] → va_S A s.heap H locs → lv_has ls 3 [(0, .ref a_this), (1, .ref a_p1), (2, .int v2_1)] → W p l e (headSpec wsX2_copyFrom rmX2_copyFrom).room s m (([.ref a_this, .ref a_p1] : List Value).toArray) below meth c H locs 0 0 (MQ below (kQv D cyI cyZ A [(a_this, .inr (2, [.int o_crossings, .int o_circles, .ref a_arcs])), (a_arcs, .inl (cyI, 32, .inl o_arcs)), (a_p1, .inr (2, [.int i_p1_crossings, .int i_p1_circles, .ref a_p1_arcs])), (a_p1_arcs, .inl (cyI, 32, .inl f_p1_arcs))]) (([.ref a_this, .ref a_p1] : List Value).toArray) s 0 0 A) (F0 m 18 ls []) := by
    intro n_1
    induction n_1 with
    | zero =>
      intro _ _ _ _ _ hf
      exact (it2_z hf).elim
    | succ n_1 ih_1 =>
      intro v2_1 f_arcs_1 H locs ls hf hP hD hS hl
      replace hf := it2_s hf
      rw [kX2_copyFrom_L1] at hf
      refine lv_iload_n hx hb dX2_copyFrom_18 rfl (lv_at hl 2 rfl) ?_
      refine lv_bipush (v := 32) hx hb dX2_copyFrom_19 (by decide) ?_
      refine lv_icmp_ge (tgt := 42) hx hb dX2_copyFrom_21 (by decide) (fun c_3 => ?_) (fun c_3 => ?_)
      · replace hf := kt_p hf c_3
        obtain ⟨rfl, rfl, rfl⟩ := some3_s hf
        exact kRv hx hb hr hlocks hP hK hD hS dX2_copyFrom_42
      · replace hf := kt_n hf c_3
        refine lv_aload_n hx hb dX2_copyFrom_24 rfl (lv_at hl 0 rfl) ?_
        refine va_get (D := D) (ci := 2) (v := .ref a_arcs) (C := RX2) (T := TX2) (N := 3) hx hb hts qX2_copyFrom_X2 hown hK hP 0 rfl rfl 2 (Nat.le_of_ble_eq_true rfl) (hts (.fieldLink RX2 9 "KnotDiagram$Diagram" "arcs" "[I") qX2_copyFrom_2) (fun _ h9 => h9) rfl dX2_copyFrom_25 ?_
        refine lv_iload_n hx hb dX2_copyFrom_28 rfl (lv_at hl 2 rfl) ?_
        refine lv_aload_n hx hb dX2_copyFrom_29 rfl (lv_at hl 1 rfl) ?_
        refine va_get (D := D) (ci := 2) (v := .ref a_p1_arcs) (C := RX2) (T := TX2) (N := 3) hx hb hts qX2_copyFrom_X2 hown hK hP 2 rfl rfl 2 (Nat.le_of_ble_eq_true rfl) (hts (.fieldLink RX2 9 "KnotDiagram$Diagram" "arcs" "[I") qX2_copyFrom_2) (fun _ h9 => h9) rfl dX2_copyFrom_30 ?_
        refine lv_iload_n hx hb dX2_copyFrom_33 rfl (lv_at hl 2 rfl) ?_
        obtain ⟨hi_1, hf⟩ := ck_s hf
        refine va_iald hx hb hK hP 3 0 rfl rfl hi_1 dX2_copyFrom_34 ?_
        obtain ⟨hi_2, hf⟩ := ck_s hf
        refine va_iast hx hb hK hP hD hS 1 0 rfl rfl hi_2 dX2_copyFrom_35 (fun H locs hP hD hS => ?_)
        replace hP : va_P D vwCl [(a_this, .inr (2, [.int i_p1_crossings, .int i_p1_circles, .ref a_arcs])), (a_arcs, .inl (cyI, 32, .inl (upd f_arcs_1 v2_1.toNatClampNeg (f_p1_arcs v2_1.toNatClampNeg)))), (a_p1, .inr (2, [.int i_p1_crossings, .int i_p1_circles, .ref a_p1_arcs])), (a_p1_arcs, .inl (cyI, 32, .inl f_p1_arcs))] H := hP
        replace hD : va_D A [(a_this, .inr (2, [.int i_p1_crossings, .int i_p1_circles, .ref a_arcs])), (a_arcs, .inl (cyI, 32, .inl (upd f_arcs_1 v2_1.toNatClampNeg (f_p1_arcs v2_1.toNatClampNeg)))), (a_p1, .inr (2, [.int i_p1_crossings, .int i_p1_circles, .ref a_p1_arcs])), (a_p1_arcs, .inl (cyI, 32, .inl f_p1_arcs))] := hD
        refine lv_iinc (v := (v2_1 + 1)) (lv' := [(2, .int (v2_1 + 1)), (0, .ref a_this), (1, .ref a_p1)]) hx hb dX2_copyFrom_36 hl (k := 2) rfl rfl (by decide) rfl (fun ls hl => ?_)
        refine lv_goto (tgt := 18) hx hb dX2_copyFrom_39 (by decide) ?_
        exact ih_1 (v2_1 + 1) (upd f_arcs_1 v2_1.toNatClampNeg (f_p1_arcs v2_1.toNatClampNeg)) H locs ls hf hP hD hS (lv_sub hl [1, 2, 0] rfl)
  exact hL_1 400 0 f_arcs H locs ls hf hP hD hS (lv_sub hl [1, 2, 0] rfl)
def kX2_occurrences_L1 (r_1 : Int32) (f_arcs : Nat → Int32) (v1 : Int32) (K_1 : Int32 → Int32 → Option (Int32)) (v2_1 : Int32) (v4_1 : Int32) : Option (Int32) :=
  if r_1 ≤ v4_1 then some v2_1 else bnd1 (kX2_arc v4_1 f_arcs) (fun r_2 => if r_2 = v1 then K_1 (v2_1 + 1) (v4_1 + 1) else K_1 v2_1 (v4_1 + 1))
def kX2_occurrences (v1 : Int32) (i_crossings : Int32) (f_arcs : Nat → Int32) : Option (Int32) :=
  bnd1 (kX2_endCount i_crossings) (fun r_1 => it2 (kX2_occurrences_L1 r_1 f_arcs v1) 400 0 0)
def rmX2_occurrences : Room := { frames := 1, cells := 0, slots := 0, locals := 21 }
set_option maxHeartbeats 4000000 in
set_option maxRecDepth 100000 in
theorem mX2_occurrences (l : Launch) (D : va_G) (cyI cyZ : ClassId) (sz : Nat) (a_this a_arcs : Nat) (v1 : Int32) (i_crossings : Int32) (i_circles : Int32) (f_arcs : Nat → Int32) (r : Int32) (hf : kX2_occurrences v1 i_crossings f_arcs = some r) : Met l yX2_occurrences wsX2_occurrences rmX2_occurrences (kPre D cyI cyZ [.ref a_this, .int v1] [(a_this, .inr (2, [.int i_crossings, .int i_circles, .ref a_arcs])), (a_arcs, .inl (cyI, 32, .inl f_arcs))] sz) (kQi D cyI cyZ (va_A [(a_this, .inr (2, [.int i_crossings, .int i_circles, .ref a_arcs])), (a_arcs, .inl (cyI, 32, .inl f_arcs))] sz) [(a_this, .inr (2, [.int i_crossings, .int i_circles, .ref a_arcs])), (a_arcs, .inl (cyI, 32, .inl f_arcs))] r) 0 0 (va_A [(a_this, .inr (2, [.int i_crossings, .int i_circles, .ref a_arcs])), (a_arcs, .inl (cyI, 32, .inl f_arcs))] sz) := by
  refine Met.ofW (cc := cX2_occurrences) (maxL := 5) (ret := (some .int)) (by decide) rfl ?_
  intro p e s m args below meth c s₁ B hml hv
  obtain ⟨rfl, hsz, hP, hK, hD0, hN⟩ := hv
  have hx := B.exec
  have hb := B.bytes
  have hr := B.returns
  have hts := atoms_spec (ws := wsX2_occurrences) B.pre
  have hown : s.vm.findClass RX2 = some m.cls := findClass_of_methodNamed B.named
  have hlocks := B.notSynchronized
  subst hsz
  have hD := hD0.self (sz := s.heap.size)
  generalize hAe : va_A [(a_this, .inr (2, [.int i_crossings, .int i_circles, .ref a_arcs])), (a_arcs, .inl (cyI, 32, .inl f_arcs))] s.heap.size = A at hD ⊢
  have hA : ∀ q : Nat, s.heap.size ≤ q → A q := fun q h => by rw [← hAe]; exact Or.inr h
  clear hAe hD0
  have hS : va_S A s.heap s.heap [] := va_S.rf
  have S : CallFix p m c cX2_occurrences 5 s (([.ref a_this, .int v1] : List Value).toArray) wsX2_occurrences RX2 := ⟨hx, hb, hml, hown, hts⟩
  have hl := lv_entry ([.ref a_this, .int v1]) (n := 5) (Nat.le_of_ble_eq_true rfl)
  rw [lg_entry_eq]
  generalize (lg_sl ([.ref a_this, .int v1]) ++ List.replicate (5 - (lg_sl ([.ref a_this, .int v1])).length) Slot.unset).toArray = ls at hl ⊢
  replace hl : lv_has ls 5 [(0, .ref a_this), (1, .int v1)] := hl
  generalize ([] : List Loc) = locs at hS ⊢
  delta kX2_occurrences at hf
  obtain ⟨H, hH⟩ : ∃ H, H = s.heap := ⟨_, rfl⟩
  have hS : va_S A s.heap H locs := by rw [hH]; exact hS
  have hP : va_P D vwCl [(a_this, .inr (2, [.int i_crossings, .int i_circles, .ref a_arcs])), (a_arcs, .inl (cyI, 32, .inl f_arcs))] H := by rw [hH]; exact hP
  suffices hgo : W p l e (headSpec wsX2_occurrences rmX2_occurrences).room s m (([.ref a_this, .int v1] : List Value).toArray) below meth c H locs 0 0 (MQ below (kQi D cyI cyZ A [(a_this, .inr (2, [.int i_crossings, .int i_circles, .ref a_arcs])), (a_arcs, .inl (cyI, 32, .inl f_arcs))] r) (([.ref a_this, .int v1] : List Value).toArray) s 0 0 A) (F0 m 0 ls []) by rw [hH] at hgo; exact hgo
  clear hH
  refine lv_iconst (v := 0) hx hb dX2_occurrences_0 (by decide) ?_
  refine lv_istore_n (lv' := [(2, .int 0), (0, .ref a_this), (1, .int v1)]) hx hb dX2_occurrences_1 rfl hl (by decide) rfl (fun ls hl => ?_)
  refine lv_aload_n hx hb dX2_occurrences_2 rfl (lv_at hl 1 rfl) ?_
  obtain ⟨r_1, hc_1, hf⟩ := bnd1_s hf
  refine kcVi (As := []) (rest := []) (w2 := [(a_this, .inr (2, [.int i_crossings, .int i_circles, .ref a_arcs])), (a_arcs, .inl (cyI, 32, .inl f_arcs))]) S hK hP hD hS hA hN (mX2_endCount l D cyI cyZ H.size a_this a_arcs i_crossings i_circles r_1 hc_1) (cwV 0 hts gX2_occurrences_X2_endCount rfl rfl rfl (by decide +kernel) ⟨Nat.le_of_ble_eq_true rfl, Nat.le_of_ble_eq_true rfl⟩) 2 0 rfl rfl [0] [1] [1, 0] rfl rfl rfl rfl (by decide) rfl rfl hl.1 (Nat.le_of_ble_eq_true rfl) dX2_occurrences_3 ⟨Nat.le_of_ble_eq_true rfl, Nat.le_of_ble_eq_true rfl⟩ (fun H locs hP hD hS => ?_)
  refine lv_istore_n (lv' := [(3, .int r_1), (2, .int 0), (0, .ref a_this), (1, .int v1)]) hx hb dX2_occurrences_6 rfl hl (by decide) rfl (fun ls hl => ?_)
  refine lv_iconst (v := 0) hx hb dX2_occurrences_7 (by decide) ?_
  refine lv_istore (lv' := [(4, .int 0), (3, .int r_1), (2, .int 0), (0, .ref a_this), (1, .int v1)]) hx hb dX2_occurrences_8 hl (by decide) rfl (fun ls hl => ?_)
  have hL_1 : ∀ (n : Nat) (v2_1 : Int32) (v4_1 : Int32) (H : Heap) (locs : List Loc) (ls : Array Slot), it2 (kX2_occurrences_L1 r_1 f_arcs v1) n v2_1 v4_1 = some r → va_P D vwCl [(a_this, .inr (2, [.int i_crossings, .int i_circles, .ref a_arcs])), (a_arcs, .inl (cyI, 32, .inl f_arcs))] H → va_D A [(a_this, .inr (2, [.int i_crossings, .int i_circles, .ref a_arcs])), (a_arcs, .inl (cyI, 32, .inl f_arcs))] → va_S A s.heap H locs → lv_has ls 5 [(0, .ref a_this), (1, .int v1), (2, .int v2_1), (3, .int r_1), (4, .int v4_1)] → W p l e (headSpec wsX2_occurrences rmX2_occurrences).room s m (([.ref a_this, .int v1] : List Value).toArray) below meth c H locs 0 0 (MQ below (kQi D cyI cyZ A [(a_this, .inr (2, [.int i_crossings, .int i_circles, .ref a_arcs])), (a_arcs, .inl (cyI, 32, .inl f_arcs))] r) (([.ref a_this, .int v1] : List Value).toArray) s 0 0 A) (F0 m 10 ls []) := by
    intro n_1
    induction n_1 with
    | zero =>
      intro _ _ _ _ _ hf
      exact (it2_z hf).elim
    | succ n_1 ih_1 =>
      intro v2_1 v4_1 H locs ls hf hP hD hS hl
      replace hf := it2_s hf
      rw [kX2_occurrences_L1] at hf
      refine lv_iload hx hb dX2_occurrences_10 (lv_at hl 4 rfl) ?_
      refine lv_iload_n hx hb dX2_occurrences_12 rfl (lv_at hl 3 rfl) ?_
      refine lv_icmp_ge (tgt := 35) hx hb dX2_occurrences_13 (by decide) (fun c_4 => ?_) (fun c_4 => ?_)
      · replace hf := kt_p hf c_4
        refine lv_iload_n hx hb dX2_occurrences_35 rfl (lv_at hl 2 rfl) ?_
        obtain rfl := some1_s hf
        exact kRi hx hb hr hlocks hP hK hD hS rfl dX2_occurrences_36
      · replace hf := kt_n hf c_4
        refine lv_aload_n hx hb dX2_occurrences_16 rfl (lv_at hl 0 rfl) ?_
        refine lv_iload hx hb dX2_occurrences_17 (lv_at hl 4 rfl) ?_
        obtain ⟨r_2, hc_2, hf⟩ := bnd1_s hf
        refine kcVi (As := [.int v4_1]) (rest := []) (w2 := [(a_this, .inr (2, [.int i_crossings, .int i_circles, .ref a_arcs])), (a_arcs, .inl (cyI, 32, .inl f_arcs))]) S hK hP hD hS hA hN (mX2_arc l D cyI cyZ H.size a_this a_arcs v4_1 i_crossings i_circles f_arcs r_2 hc_2) (cwV 1 hts gX2_occurrences_X2_arc rfl rfl rfl (by decide +kernel) ⟨Nat.le_of_ble_eq_true rfl, Nat.le_of_ble_eq_true rfl⟩) 2 0 rfl rfl [0, 1] [] [0, 1] rfl rfl rfl rfl (by decide) rfl rfl hl.1 (Nat.le_of_ble_eq_true rfl) dX2_occurrences_19 ⟨Nat.le_of_ble_eq_true rfl, Nat.le_of_ble_eq_true rfl⟩ (fun H locs hP hD hS => ?_)
        refine lv_iload_n hx hb dX2_occurrences_22 rfl (lv_at hl 1 rfl) ?_
        refine lv_icmp_ne (tgt := 29) hx hb dX2_occurrences_23 (by decide) (fun c_3 => ?_) (fun c_3 => ?_)
        · replace hf := kt_n hf c_3
          refine lv_iinc (v := (v4_1 + 1)) (lv' := [(4, .int (v4_1 + 1)), (0, .ref a_this), (1, .int v1), (2, .int v2_1), (3, .int r_1)]) hx hb dX2_occurrences_29 hl (k := 4) rfl rfl (by decide) rfl (fun ls hl => ?_)
          refine lv_goto (tgt := 10) hx hb dX2_occurrences_32 (by decide) ?_
          exact ih_1 v2_1 (v4_1 + 1) H locs ls hf hP hD hS (lv_sub hl [1, 2, 3, 4, 0] rfl)
        · replace hf := kt_p hf c_3
          refine lv_iinc (v := (v2_1 + 1)) (lv' := [(2, .int (v2_1 + 1)), (0, .ref a_this), (1, .int v1), (3, .int r_1), (4, .int v4_1)]) hx hb dX2_occurrences_26 hl (k := 2) rfl rfl (by decide) rfl (fun ls hl => ?_)
          refine lv_iinc (v := (v4_1 + 1)) (lv' := [(4, .int (v4_1 + 1)), (2, .int (v2_1 + 1)), (0, .ref a_this), (1, .int v1), (3, .int r_1)]) hx hb dX2_occurrences_29 hl (k := 4) rfl rfl (by decide) rfl (fun ls hl => ?_)
          refine lv_goto (tgt := 10) hx hb dX2_occurrences_32 (by decide) ?_
          exact ih_1 (v2_1 + 1) (v4_1 + 1) H locs ls hf hP hD hS (lv_sub hl [2, 3, 1, 4, 0] rfl)
  exact hL_1 400 0 0 H locs ls hf hP hD hS (lv_sub hl [3, 4, 2, 1, 0] rfl)
def kX2_exchangeStrands (v1 : Int32) (f_arcs : Nat → Int32) : Option ((Nat → Int32)) :=
  bnd1 (kX2_arc (4 * v1) f_arcs) (fun r_1 => bnd1 (kX2_arc ((4 * v1) + 1) f_arcs) (fun r_2 => bnd1 (kX2_setArc (4 * v1) r_2 f_arcs) (fun o_arcs_3 => bnd1 (kX2_arc ((4 * v1) + 2) o_arcs_3) (fun r_4 => bnd1 (kX2_setArc ((4 * v1) + 1) r_4 o_arcs_3) (fun o_arcs_5 => bnd1 (kX2_arc ((4 * v1) + 3) o_arcs_5) (fun r_6 => bnd1 (kX2_setArc ((4 * v1) + 2) r_6 o_arcs_5) (fun o_arcs_7 => bnd1 (kX2_setArc ((4 * v1) + 3) r_1 o_arcs_7) (fun o_arcs_8 => some o_arcs_8))))))))
def rmX2_exchangeStrands : Room := { frames := 1, cells := 0, slots := 0, locals := 22 }
set_option maxHeartbeats 4000000 in
set_option maxRecDepth 100000 in
theorem mX2_exchangeStrands (l : Launch) (D : va_G) (cyI cyZ : ClassId) (sz : Nat) (a_this a_arcs : Nat) (v1 : Int32) (i_crossings : Int32) (i_circles : Int32) (f_arcs : Nat → Int32) (o_arcs : Nat → Int32) (hf : kX2_exchangeStrands v1 f_arcs = some o_arcs) : Met l yX2_exchangeStrands wsX2_exchangeStrands rmX2_exchangeStrands (kPre D cyI cyZ [.ref a_this, .int v1] [(a_this, .inr (2, [.int i_crossings, .int i_circles, .ref a_arcs])), (a_arcs, .inl (cyI, 32, .inl f_arcs))] sz) (kQv D cyI cyZ (va_A [(a_this, .inr (2, [.int i_crossings, .int i_circles, .ref a_arcs])), (a_arcs, .inl (cyI, 32, .inl f_arcs))] sz) [(a_this, .inr (2, [.int i_crossings, .int i_circles, .ref a_arcs])), (a_arcs, .inl (cyI, 32, .inl o_arcs))]) 0 0 (va_A [(a_this, .inr (2, [.int i_crossings, .int i_circles, .ref a_arcs])), (a_arcs, .inl (cyI, 32, .inl f_arcs))] sz) := by
  refine Met.ofW (cc := cX2_exchangeStrands) (maxL := 4) (ret := none) (by decide) rfl ?_
  intro p e s m args below meth c s₁ B hml hv
  obtain ⟨rfl, hsz, hP, hK, hD0, hN⟩ := hv
  have hx := B.exec
  have hb := B.bytes
  have hr := B.returns
  have hts := atoms_spec (ws := wsX2_exchangeStrands) B.pre
  have hown : s.vm.findClass RX2 = some m.cls := findClass_of_methodNamed B.named
  have hlocks := B.notSynchronized
  subst hsz
  have hD := hD0.self (sz := s.heap.size)
  generalize hAe : va_A [(a_this, .inr (2, [.int i_crossings, .int i_circles, .ref a_arcs])), (a_arcs, .inl (cyI, 32, .inl f_arcs))] s.heap.size = A at hD ⊢
  have hA : ∀ q : Nat, s.heap.size ≤ q → A q := fun q h => by rw [← hAe]; exact Or.inr h
  clear hAe hD0
  have hS : va_S A s.heap s.heap [] := va_S.rf
  have S : CallFix p m c cX2_exchangeStrands 4 s (([.ref a_this, .int v1] : List Value).toArray) wsX2_exchangeStrands RX2 := ⟨hx, hb, hml, hown, hts⟩
  have hl := lv_entry ([.ref a_this, .int v1]) (n := 4) (Nat.le_of_ble_eq_true rfl)
  rw [lg_entry_eq]
  generalize (lg_sl ([.ref a_this, .int v1]) ++ List.replicate (4 - (lg_sl ([.ref a_this, .int v1])).length) Slot.unset).toArray = ls at hl ⊢
  replace hl : lv_has ls 4 [(0, .ref a_this), (1, .int v1)] := hl
  generalize ([] : List Loc) = locs at hS ⊢
  delta kX2_exchangeStrands at hf
  obtain ⟨H, hH⟩ : ∃ H, H = s.heap := ⟨_, rfl⟩
  have hS : va_S A s.heap H locs := by rw [hH]; exact hS
  have hP : va_P D vwCl [(a_this, .inr (2, [.int i_crossings, .int i_circles, .ref a_arcs])), (a_arcs, .inl (cyI, 32, .inl f_arcs))] H := by rw [hH]; exact hP
  suffices hgo : W p l e (headSpec wsX2_exchangeStrands rmX2_exchangeStrands).room s m (([.ref a_this, .int v1] : List Value).toArray) below meth c H locs 0 0 (MQ below (kQv D cyI cyZ A [(a_this, .inr (2, [.int i_crossings, .int i_circles, .ref a_arcs])), (a_arcs, .inl (cyI, 32, .inl o_arcs))]) (([.ref a_this, .int v1] : List Value).toArray) s 0 0 A) (F0 m 0 ls []) by rw [hH] at hgo; exact hgo
  clear hH
  refine lv_iconst (v := 4) hx hb dX2_exchangeStrands_0 (by decide) ?_
  refine lv_iload_n hx hb dX2_exchangeStrands_1 rfl (lv_at hl 1 rfl) ?_
  refine lv_imul hx hb dX2_exchangeStrands_2 ?_
  refine lv_istore_n (lv' := [(2, .int (4 * v1)), (0, .ref a_this), (1, .int v1)]) hx hb dX2_exchangeStrands_3 rfl hl (by decide) rfl (fun ls hl => ?_)
  refine lv_aload_n hx hb dX2_exchangeStrands_4 rfl (lv_at hl 1 rfl) ?_
  refine lv_iload_n hx hb dX2_exchangeStrands_5 rfl (lv_at hl 0 rfl) ?_
  obtain ⟨r_1, hc_1, hf⟩ := bnd1_s hf
  refine kcVi (As := [.int (4 * v1)]) (rest := []) (w2 := [(a_this, .inr (2, [.int i_crossings, .int i_circles, .ref a_arcs])), (a_arcs, .inl (cyI, 32, .inl f_arcs))]) S hK hP hD hS hA hN (mX2_arc l D cyI cyZ H.size a_this a_arcs (4 * v1) i_crossings i_circles f_arcs r_1 hc_1) (cwV 1 hts gX2_exchangeStrands_X2_arc rfl rfl rfl (by decide +kernel) ⟨Nat.le_of_ble_eq_true rfl, Nat.le_of_ble_eq_true rfl⟩) 2 0 rfl rfl [0, 1] [] [0, 1] rfl rfl rfl rfl (by decide) rfl rfl hl.1 (Nat.le_of_ble_eq_true rfl) dX2_exchangeStrands_6 ⟨Nat.le_of_ble_eq_true rfl, Nat.le_of_ble_eq_true rfl⟩ (fun H locs hP hD hS => ?_)
  refine lv_istore_n (lv' := [(3, .int r_1), (2, .int (4 * v1)), (0, .ref a_this), (1, .int v1)]) hx hb dX2_exchangeStrands_9 rfl hl (by decide) rfl (fun ls hl => ?_)
  refine lv_aload_n hx hb dX2_exchangeStrands_10 rfl (lv_at hl 2 rfl) ?_
  refine lv_iload_n hx hb dX2_exchangeStrands_11 rfl (lv_at hl 1 rfl) ?_
  refine lv_aload_n hx hb dX2_exchangeStrands_12 rfl (lv_at hl 2 rfl) ?_
  refine lv_iload_n hx hb dX2_exchangeStrands_13 rfl (lv_at hl 1 rfl) ?_
  refine lv_iconst (v := 1) hx hb dX2_exchangeStrands_14 (by decide) ?_
  refine lv_iadd hx hb dX2_exchangeStrands_15 ?_
  obtain ⟨r_2, hc_2, hf⟩ := bnd1_s hf
  refine kcVi (As := [.int ((4 * v1) + 1)]) (rest := [.int (4 * v1), .ref a_this]) (w2 := [(a_this, .inr (2, [.int i_crossings, .int i_circles, .ref a_arcs])), (a_arcs, .inl (cyI, 32, .inl f_arcs))]) S hK hP hD hS hA hN (mX2_arc l D cyI cyZ H.size a_this a_arcs ((4 * v1) + 1) i_crossings i_circles f_arcs r_2 hc_2) (cwV 1 hts gX2_exchangeStrands_X2_arc rfl rfl rfl (by decide +kernel) ⟨Nat.le_of_ble_eq_true rfl, Nat.le_of_ble_eq_true rfl⟩) 2 0 rfl rfl [0, 1] [] [0, 1] rfl rfl rfl rfl (by decide) rfl rfl hl.1 (Nat.le_of_ble_eq_true rfl) dX2_exchangeStrands_16 ⟨Nat.le_of_ble_eq_true rfl, Nat.le_of_ble_eq_true rfl⟩ (fun H locs hP hD hS => ?_)
  obtain ⟨o_arcs_3, hc_3, hf⟩ := bnd1_s hf
  refine kcVv (As := [.int (4 * v1), .int r_2]) (rest := []) (w2 := [(a_this, .inr (2, [.int i_crossings, .int i_circles, .ref a_arcs])), (a_arcs, .inl (cyI, 32, .inl o_arcs_3))]) S hK hP hD hS hA hN (mX2_setArc l D cyI cyZ H.size a_this a_arcs (4 * v1) r_2 i_crossings i_circles f_arcs o_arcs_3 hc_3) (cwV 2 hts gX2_exchangeStrands_X2_setArc rfl rfl rfl (by decide +kernel) ⟨Nat.le_of_ble_eq_true rfl, Nat.le_of_ble_eq_true rfl⟩) 2 0 rfl rfl [0, 1] [] [0, 1] rfl rfl rfl rfl (by decide) rfl rfl hl.1 (Nat.le_of_ble_eq_true rfl) dX2_exchangeStrands_19 ⟨Nat.le_of_ble_eq_true rfl, Nat.le_of_ble_eq_true rfl⟩ (fun H locs hP hD hS => ?_)
  refine lv_aload_n hx hb dX2_exchangeStrands_22 rfl (lv_at hl 2 rfl) ?_
  refine lv_iload_n hx hb dX2_exchangeStrands_23 rfl (lv_at hl 1 rfl) ?_
  refine lv_iconst (v := 1) hx hb dX2_exchangeStrands_24 (by decide) ?_
  refine lv_iadd hx hb dX2_exchangeStrands_25 ?_
  refine lv_aload_n hx hb dX2_exchangeStrands_26 rfl (lv_at hl 2 rfl) ?_
  refine lv_iload_n hx hb dX2_exchangeStrands_27 rfl (lv_at hl 1 rfl) ?_
  refine lv_iconst (v := 2) hx hb dX2_exchangeStrands_28 (by decide) ?_
  refine lv_iadd hx hb dX2_exchangeStrands_29 ?_
  obtain ⟨r_4, hc_4, hf⟩ := bnd1_s hf
  refine kcVi (As := [.int ((4 * v1) + 2)]) (rest := [.int ((4 * v1) + 1), .ref a_this]) (w2 := [(a_this, .inr (2, [.int i_crossings, .int i_circles, .ref a_arcs])), (a_arcs, .inl (cyI, 32, .inl o_arcs_3))]) S hK hP hD hS hA hN (mX2_arc l D cyI cyZ H.size a_this a_arcs ((4 * v1) + 2) i_crossings i_circles o_arcs_3 r_4 hc_4) (cwV 1 hts gX2_exchangeStrands_X2_arc rfl rfl rfl (by decide +kernel) ⟨Nat.le_of_ble_eq_true rfl, Nat.le_of_ble_eq_true rfl⟩) 2 0 rfl rfl [0, 1] [] [0, 1] rfl rfl rfl rfl (by decide) rfl rfl hl.1 (Nat.le_of_ble_eq_true rfl) dX2_exchangeStrands_30 ⟨Nat.le_of_ble_eq_true rfl, Nat.le_of_ble_eq_true rfl⟩ (fun H locs hP hD hS => ?_)
  obtain ⟨o_arcs_5, hc_5, hf⟩ := bnd1_s hf
  refine kcVv (As := [.int ((4 * v1) + 1), .int r_4]) (rest := []) (w2 := [(a_this, .inr (2, [.int i_crossings, .int i_circles, .ref a_arcs])), (a_arcs, .inl (cyI, 32, .inl o_arcs_5))]) S hK hP hD hS hA hN (mX2_setArc l D cyI cyZ H.size a_this a_arcs ((4 * v1) + 1) r_4 i_crossings i_circles o_arcs_3 o_arcs_5 hc_5) (cwV 2 hts gX2_exchangeStrands_X2_setArc rfl rfl rfl (by decide +kernel) ⟨Nat.le_of_ble_eq_true rfl, Nat.le_of_ble_eq_true rfl⟩) 2 0 rfl rfl [0, 1] [] [0, 1] rfl rfl rfl rfl (by decide) rfl rfl hl.1 (Nat.le_of_ble_eq_true rfl) dX2_exchangeStrands_33 ⟨Nat.le_of_ble_eq_true rfl, Nat.le_of_ble_eq_true rfl⟩ (fun H locs hP hD hS => ?_)
  refine lv_aload_n hx hb dX2_exchangeStrands_36 rfl (lv_at hl 2 rfl) ?_
  refine lv_iload_n hx hb dX2_exchangeStrands_37 rfl (lv_at hl 1 rfl) ?_
  refine lv_iconst (v := 2) hx hb dX2_exchangeStrands_38 (by decide) ?_
  refine lv_iadd hx hb dX2_exchangeStrands_39 ?_
  refine lv_aload_n hx hb dX2_exchangeStrands_40 rfl (lv_at hl 2 rfl) ?_
  refine lv_iload_n hx hb dX2_exchangeStrands_41 rfl (lv_at hl 1 rfl) ?_
  refine lv_iconst (v := 3) hx hb dX2_exchangeStrands_42 (by decide) ?_
  refine lv_iadd hx hb dX2_exchangeStrands_43 ?_
  obtain ⟨r_6, hc_6, hf⟩ := bnd1_s hf
  refine kcVi (As := [.int ((4 * v1) + 3)]) (rest := [.int ((4 * v1) + 2), .ref a_this]) (w2 := [(a_this, .inr (2, [.int i_crossings, .int i_circles, .ref a_arcs])), (a_arcs, .inl (cyI, 32, .inl o_arcs_5))]) S hK hP hD hS hA hN (mX2_arc l D cyI cyZ H.size a_this a_arcs ((4 * v1) + 3) i_crossings i_circles o_arcs_5 r_6 hc_6) (cwV 1 hts gX2_exchangeStrands_X2_arc rfl rfl rfl (by decide +kernel) ⟨Nat.le_of_ble_eq_true rfl, Nat.le_of_ble_eq_true rfl⟩) 2 0 rfl rfl [0, 1] [] [0, 1] rfl rfl rfl rfl (by decide) rfl rfl hl.1 (Nat.le_of_ble_eq_true rfl) dX2_exchangeStrands_44 ⟨Nat.le_of_ble_eq_true rfl, Nat.le_of_ble_eq_true rfl⟩ (fun H locs hP hD hS => ?_)
  obtain ⟨o_arcs_7, hc_7, hf⟩ := bnd1_s hf
  refine kcVv (As := [.int ((4 * v1) + 2), .int r_6]) (rest := []) (w2 := [(a_this, .inr (2, [.int i_crossings, .int i_circles, .ref a_arcs])), (a_arcs, .inl (cyI, 32, .inl o_arcs_7))]) S hK hP hD hS hA hN (mX2_setArc l D cyI cyZ H.size a_this a_arcs ((4 * v1) + 2) r_6 i_crossings i_circles o_arcs_5 o_arcs_7 hc_7) (cwV 2 hts gX2_exchangeStrands_X2_setArc rfl rfl rfl (by decide +kernel) ⟨Nat.le_of_ble_eq_true rfl, Nat.le_of_ble_eq_true rfl⟩) 2 0 rfl rfl [0, 1] [] [0, 1] rfl rfl rfl rfl (by decide) rfl rfl hl.1 (Nat.le_of_ble_eq_true rfl) dX2_exchangeStrands_47 ⟨Nat.le_of_ble_eq_true rfl, Nat.le_of_ble_eq_true rfl⟩ (fun H locs hP hD hS => ?_)
  refine lv_aload_n hx hb dX2_exchangeStrands_50 rfl (lv_at hl 2 rfl) ?_
  refine lv_iload_n hx hb dX2_exchangeStrands_51 rfl (lv_at hl 1 rfl) ?_
  refine lv_iconst (v := 3) hx hb dX2_exchangeStrands_52 (by decide) ?_
  refine lv_iadd hx hb dX2_exchangeStrands_53 ?_
  refine lv_iload_n hx hb dX2_exchangeStrands_54 rfl (lv_at hl 0 rfl) ?_
  obtain ⟨o_arcs_8, hc_8, hf⟩ := bnd1_s hf
  refine kcVv (As := [.int ((4 * v1) + 3), .int r_1]) (rest := []) (w2 := [(a_this, .inr (2, [.int i_crossings, .int i_circles, .ref a_arcs])), (a_arcs, .inl (cyI, 32, .inl o_arcs_8))]) S hK hP hD hS hA hN (mX2_setArc l D cyI cyZ H.size a_this a_arcs ((4 * v1) + 3) r_1 i_crossings i_circles o_arcs_7 o_arcs_8 hc_8) (cwV 2 hts gX2_exchangeStrands_X2_setArc rfl rfl rfl (by decide +kernel) ⟨Nat.le_of_ble_eq_true rfl, Nat.le_of_ble_eq_true rfl⟩) 2 0 rfl rfl [0, 1] [] [0, 1] rfl rfl rfl rfl (by decide) rfl rfl hl.1 (Nat.le_of_ble_eq_true rfl) dX2_exchangeStrands_55 ⟨Nat.le_of_ble_eq_true rfl, Nat.le_of_ble_eq_true rfl⟩ (fun H locs hP hD hS => ?_)
  obtain rfl := some1_s hf
  exact kRv hx hb hr hlocks hP hK hD hS dX2_exchangeStrands_58
def kX2_join_L1 (r_3 : Int32) (i_circles : Int32) (r_1 : Int32) (r_2 : Int32) (K_1 : Int32 → (Nat → Int32) → Option (Int32 × (Nat → Int32))) (v7_1 : Int32) (f_arcs_1 : Nat → Int32) : Option (Int32 × (Nat → Int32)) :=
  if r_3 ≤ v7_1 then some (i_circles, f_arcs_1) else bnd1 (kX2_arc v7_1 f_arcs_1) (fun r_4 => if r_4 = (imax r_1 r_2) then bnd1 (kX2_setArc v7_1 (imin r_1 r_2) f_arcs_1) (fun o_arcs_5 => K_1 (v7_1 + 1) o_arcs_5) else K_1 (v7_1 + 1) f_arcs_1)
def kX2_join (v1 : Int32) (v2 : Int32) (i_crossings : Int32) (i_circles : Int32) (f_arcs : Nat → Int32) : Option (Int32 × (Nat → Int32)) :=
  bnd1 (kX2_arc v1 f_arcs) (fun r_1 => bnd1 (kX2_arc v2 f_arcs) (fun r_2 => if r_1 = r_2 then some ((i_circles + 1), f_arcs) else bnd1 (kX2_endCount i_crossings) (fun r_3 => it2 (kX2_join_L1 r_3 i_circles r_1 r_2) 400 0 f_arcs)))
def rmX2_join : Room := { frames := 1, cells := 0, slots := 0, locals := 22 }
theorem qX2_join_0 : (.methodLink RX2 34 Lib.Math.max.name : Cond) ∈ wsX2_join := by decide +kernel
theorem qX2_join_1 : (.static Lib.Math.max.name : Cond) ∈ wsX2_join := by decide +kernel
theorem qX2_join_2 : (.initialized "java/lang/Math" : Cond) ∈ wsX2_join := by decide +kernel
theorem qX2_join_3 : (.code Lib.Math.max.name Lib.Math.max.code 2 (some .int) : Cond) ∈ wsX2_join := by decide +kernel
theorem qX2_join_4 : (.methodLink RX2 40 Lib.Math.min.name : Cond) ∈ wsX2_join := by decide +kernel
theorem qX2_join_5 : (.static Lib.Math.min.name : Cond) ∈ wsX2_join := by decide +kernel
theorem qX2_join_6 : (.code Lib.Math.min.name Lib.Math.min.code 2 (some .int) : Cond) ∈ wsX2_join := by decide +kernel
theorem qX2_join_7 : (.fieldLink RX2 19 "KnotDiagram$Diagram" "circles" "I" : Cond) ∈ wsX2_join := by decide +kernel
theorem qX2_join_X2 : ∀ w ∈ wsX20, w ∈ wsX2_join := by decide +kernel
set_option maxHeartbeats 4000000 in
set_option maxRecDepth 100000 in
theorem mX2_join (l : Launch) (D : va_G) (cyI cyZ : ClassId) (sz : Nat) (a_this a_arcs : Nat) (v1 : Int32) (v2 : Int32) (i_crossings : Int32) (i_circles : Int32) (f_arcs : Nat → Int32) (o_circles : Int32) (o_arcs : Nat → Int32) (hf : kX2_join v1 v2 i_crossings i_circles f_arcs = some (o_circles, o_arcs)) : Met l yX2_join wsX2_join rmX2_join (kPre D cyI cyZ [.ref a_this, .int v1, .int v2] [(a_this, .inr (2, [.int i_crossings, .int i_circles, .ref a_arcs])), (a_arcs, .inl (cyI, 32, .inl f_arcs))] sz) (kQv D cyI cyZ (va_A [(a_this, .inr (2, [.int i_crossings, .int i_circles, .ref a_arcs])), (a_arcs, .inl (cyI, 32, .inl f_arcs))] sz) [(a_this, .inr (2, [.int i_crossings, .int o_circles, .ref a_arcs])), (a_arcs, .inl (cyI, 32, .inl o_arcs))]) 0 0 (va_A [(a_this, .inr (2, [.int i_crossings, .int i_circles, .ref a_arcs])), (a_arcs, .inl (cyI, 32, .inl f_arcs))] sz) := by
  refine Met.ofW (cc := cX2_join) (maxL := 8) (ret := none) (by decide) rfl ?_
  intro p e s m args below meth c s₁ B hml hv
  obtain ⟨rfl, hsz, hP, hK, hD0, hN⟩ := hv
  have hx := B.exec
  have hb := B.bytes
  have hr := B.returns
  have hts := atoms_spec (ws := wsX2_join) B.pre
  have hown : s.vm.findClass RX2 = some m.cls := findClass_of_methodNamed B.named
  have hlocks := B.notSynchronized
  subst hsz
  have hD := hD0.self (sz := s.heap.size)
  generalize hAe : va_A [(a_this, .inr (2, [.int i_crossings, .int i_circles, .ref a_arcs])), (a_arcs, .inl (cyI, 32, .inl f_arcs))] s.heap.size = A at hD ⊢
  have hA : ∀ q : Nat, s.heap.size ≤ q → A q := fun q h => by rw [← hAe]; exact Or.inr h
  clear hAe hD0
  have hS : va_S A s.heap s.heap [] := va_S.rf
  have S : CallFix p m c cX2_join 8 s (([.ref a_this, .int v1, .int v2] : List Value).toArray) wsX2_join RX2 := ⟨hx, hb, hml, hown, hts⟩
  have hl := lv_entry ([.ref a_this, .int v1, .int v2]) (n := 8) (Nat.le_of_ble_eq_true rfl)
  rw [lg_entry_eq]
  generalize (lg_sl ([.ref a_this, .int v1, .int v2]) ++ List.replicate (8 - (lg_sl ([.ref a_this, .int v1, .int v2])).length) Slot.unset).toArray = ls at hl ⊢
  replace hl : lv_has ls 8 [(0, .ref a_this), (1, .int v1), (2, .int v2)] := hl
  generalize ([] : List Loc) = locs at hS ⊢
  delta kX2_join at hf
  obtain ⟨H, hH⟩ : ∃ H, H = s.heap := ⟨_, rfl⟩
  have hS : va_S A s.heap H locs := by rw [hH]; exact hS
  have hP : va_P D vwCl [(a_this, .inr (2, [.int i_crossings, .int i_circles, .ref a_arcs])), (a_arcs, .inl (cyI, 32, .inl f_arcs))] H := by rw [hH]; exact hP
  suffices hgo : W p l e (headSpec wsX2_join rmX2_join).room s m (([.ref a_this, .int v1, .int v2] : List Value).toArray) below meth c H locs 0 0 (MQ below (kQv D cyI cyZ A [(a_this, .inr (2, [.int i_crossings, .int o_circles, .ref a_arcs])), (a_arcs, .inl (cyI, 32, .inl o_arcs))]) (([.ref a_this, .int v1, .int v2] : List Value).toArray) s 0 0 A) (F0 m 0 ls []) by rw [hH] at hgo; exact hgo
  clear hH
  refine lv_aload_n hx hb dX2_join_0 rfl (lv_at hl 0 rfl) ?_
  refine lv_iload_n hx hb dX2_join_1 rfl (lv_at hl 1 rfl) ?_
  obtain ⟨r_1, hc_1, hf⟩ := bnd1_s hf
  refine kcVi (As := [.int v1]) (rest := []) (w2 := [(a_this, .inr (2, [.int i_crossings, .int i_circles, .ref a_arcs])), (a_arcs, .inl (cyI, 32, .inl f_arcs))]) S hK hP hD hS hA hN (mX2_arc l D cyI cyZ H.size a_this a_arcs v1 i_crossings i_circles f_arcs r_1 hc_1) (cwV 1 hts gX2_join_X2_arc rfl rfl rfl (by decide +kernel) ⟨Nat.le_of_ble_eq_true rfl, Nat.le_of_ble_eq_true rfl⟩) 2 0 rfl rfl [0, 1] [] [0, 1] rfl rfl rfl rfl (by decide) rfl rfl hl.1 (Nat.le_of_ble_eq_true rfl) dX2_join_2 ⟨Nat.le_of_ble_eq_true rfl, Nat.le_of_ble_eq_true rfl⟩ (fun H locs hP hD hS => ?_)
  refine lv_istore_n (lv' := [(3, .int r_1), (0, .ref a_this), (1, .int v1), (2, .int v2)]) hx hb dX2_join_5 rfl hl (by decide) rfl (fun ls hl => ?_)
  refine lv_aload_n hx hb dX2_join_6 rfl (lv_at hl 1 rfl) ?_
  refine lv_iload_n hx hb dX2_join_7 rfl (lv_at hl 3 rfl) ?_
  obtain ⟨r_2, hc_2, hf⟩ := bnd1_s hf
  refine kcVi (As := [.int v2]) (rest := []) (w2 := [(a_this, .inr (2, [.int i_crossings, .int i_circles, .ref a_arcs])), (a_arcs, .inl (cyI, 32, .inl f_arcs))]) S hK hP hD hS hA hN (mX2_arc l D cyI cyZ H.size a_this a_arcs v2 i_crossings i_circles f_arcs r_2 hc_2) (cwV 1 hts gX2_join_X2_arc rfl rfl rfl (by decide +kernel) ⟨Nat.le_of_ble_eq_true rfl, Nat.le_of_ble_eq_true rfl⟩) 2 0 rfl rfl [0, 1] [] [0, 1] rfl rfl rfl rfl (by decide) rfl rfl hl.1 (Nat.le_of_ble_eq_true rfl) dX2_join_8 ⟨Nat.le_of_ble_eq_true rfl, Nat.le_of_ble_eq_true rfl⟩ (fun H locs hP hD hS => ?_)
  refine lv_istore (lv' := [(4, .int r_2), (3, .int r_1), (0, .ref a_this), (1, .int v1), (2, .int v2)]) hx hb dX2_join_11 hl (by decide) rfl (fun ls hl => ?_)
  refine lv_iload_n hx hb dX2_join_13 rfl (lv_at hl 1 rfl) ?_
  refine lv_iload hx hb dX2_join_14 (lv_at hl 0 rfl) ?_
  refine lv_icmp_ne (tgt := 30) hx hb dX2_join_16 (by decide) (fun c_8 => ?_) (fun c_8 => ?_)
  · replace hf := kt_n hf c_8
    refine lv_iload_n hx hb dX2_join_30 rfl (lv_at hl 1 rfl) ?_
    refine lv_iload hx hb dX2_join_31 (lv_at hl 0 rfl) ?_
    refine k_mmax hx hb (by rw [hml]; exact hl.1.symm) hown (hts (.methodLink RX2 34 Lib.Math.max.name) qX2_join_0) (hts (.static Lib.Math.max.name) qX2_join_1) (hts (.initialized "java/lang/Math") qX2_join_2) (hts (.code Lib.Math.max.name Lib.Math.max.code 2 (some .int)) qX2_join_3) (Nat.le_of_ble_eq_true rfl) (Nat.le_of_ble_eq_true rfl) (Nat.zero_le _) (Nat.zero_le _) dX2_join_33 ?_
    refine lv_istore (lv' := [(5, .int (imax r_1 r_2)), (4, .int r_2), (3, .int r_1), (0, .ref a_this), (1, .int v1), (2, .int v2)]) hx hb dX2_join_36 hl (by decide) rfl (fun ls hl => ?_)
    refine lv_aload_n hx hb dX2_join_38 rfl (lv_at hl 3 rfl) ?_
    obtain ⟨r_3, hc_3, hf⟩ := bnd1_s hf
    refine kcVi (As := []) (rest := []) (w2 := [(a_this, .inr (2, [.int i_crossings, .int i_circles, .ref a_arcs])), (a_arcs, .inl (cyI, 32, .inl f_arcs))]) S hK hP hD hS hA hN (mX2_endCount l D cyI cyZ H.size a_this a_arcs i_crossings i_circles r_3 hc_3) (cwV 0 hts gX2_join_X2_endCount rfl rfl rfl (by decide +kernel) ⟨Nat.le_of_ble_eq_true rfl, Nat.le_of_ble_eq_true rfl⟩) 2 0 rfl rfl [0] [1] [1, 0] rfl rfl rfl rfl (by decide) rfl rfl hl.1 (Nat.le_of_ble_eq_true rfl) dX2_join_39 ⟨Nat.le_of_ble_eq_true rfl, Nat.le_of_ble_eq_true rfl⟩ (fun H locs hP hD hS => ?_)
    refine lv_istore (lv' := [(6, .int r_3), (5, .int (imax r_1 r_2)), (4, .int r_2), (3, .int r_1), (0, .ref a_this), (1, .int v1), (2, .int v2)]) hx hb dX2_join_42 hl (by decide) rfl (fun ls hl => ?_)
    refine lv_iconst (v := 0) hx hb dX2_join_44 (by decide) ?_
    refine lv_istore (lv' := [(7, .int 0), (6, .int r_3), (5, .int (imax r_1 r_2)), (4, .int r_2), (3, .int r_1), (0, .ref a_this), (1, .int v1), (2, .int v2)]) hx hb dX2_join_45 hl (by decide) rfl (fun ls hl => ?_)
    have hL_1 : ∀ (n : Nat) (v7_1 : Int32) (f_arcs_1 : Nat → Int32) (H : Heap) (locs : List Loc) (ls : Array Slot), it2 (kX2_join_L1 r_3 i_circles r_1 r_2) n v7_1 f_arcs_1 = some (o_circles, o_arcs) → va_P D vwCl [(a_this, .inr (2, [.int i_crossings, .int i_circles, .ref a_arcs])), (a_arcs, .inl (cyI, 32, .inl f_arcs_1))] H → va_D A [(a_this, .inr (2, [.int i_crossings, .int i_circles, .ref a_arcs])), (a_arcs, .inl (cyI, 32, .inl f_arcs_1))] → va_S A s.heap H locs → lv_has ls 8 [(0, .ref a_this), (3, .int r_1), (4, .int r_2), (5, .int (imax r_1 r_2)), (6, .int r_3), (7, .int v7_1)] → W p l e (headSpec wsX2_join rmX2_join).room s m (([.ref a_this, .int v1, .int v2] : List Value).toArray) below meth c H locs 0 0 (MQ below (kQv D cyI cyZ A [(a_this, .inr (2, [.int i_crossings, .int o_circles, .ref a_arcs])), (a_arcs, .inl (cyI, 32, .inl o_arcs))]) (([.ref a_this, .int v1, .int v2] : List Value).toArray) s 0 0 A) (F0 m 47 ls []) := by
      intro n_1
      induction n_1 with
      | zero =>
        intro _ _ _ _ _ hf
        exact (it2_z hf).elim
      | succ n_1 ih_1 =>
        intro v7_1 f_arcs_1 H locs ls hf hP hD hS hl
        replace hf := it2_s hf
        rw [kX2_join_L1] at hf
        refine lv_iload hx hb dX2_join_47 (lv_at hl 5 rfl) ?_
        refine lv_iload hx hb dX2_join_49 (lv_at hl 4 rfl) ?_
        refine lv_icmp_ge (tgt := 83) hx hb dX2_join_51 (by decide) (fun c_7 => ?_) (fun c_7 => ?_)
        · replace hf := kt_p hf c_7
          obtain ⟨rfl, rfl⟩ := some2_s hf
          exact kRv hx hb hr hlocks hP hK hD hS dX2_join_83
        · replace hf := kt_n hf c_7
          refine lv_aload_n hx hb dX2_join_54 rfl (lv_at hl 0 rfl) ?_
          refine lv_iload hx hb dX2_join_55 (lv_at hl 5 rfl) ?_
          obtain ⟨r_4, hc_4, hf⟩ := bnd1_s hf
          refine kcVi (As := [.int v7_1]) (rest := []) (w2 := [(a_this, .inr (2, [.int i_crossings, .int i_circles, .ref a_arcs])), (a_arcs, .inl (cyI, 32, .inl f_arcs_1))]) S hK hP hD hS hA hN (mX2_arc l D cyI cyZ H.size a_this a_arcs v7_1 i_crossings i_circles f_arcs_1 r_4 hc_4) (cwV 1 hts gX2_join_X2_arc rfl rfl rfl (by decide +kernel) ⟨Nat.le_of_ble_eq_true rfl, Nat.le_of_ble_eq_true rfl⟩) 2 0 rfl rfl [0, 1] [] [0, 1] rfl rfl rfl rfl (by decide) rfl rfl hl.1 (Nat.le_of_ble_eq_true rfl) dX2_join_57 ⟨Nat.le_of_ble_eq_true rfl, Nat.le_of_ble_eq_true rfl⟩ (fun H locs hP hD hS => ?_)
          refine lv_iload hx hb dX2_join_60 (lv_at hl 3 rfl) ?_
          refine lv_icmp_ne (tgt := 77) hx hb dX2_join_62 (by decide) (fun c_6 => ?_) (fun c_6 => ?_)
          · replace hf := kt_n hf c_6
            refine lv_iinc (v := (v7_1 + 1)) (lv' := [(7, .int (v7_1 + 1)), (0, .ref a_this), (3, .int r_1), (4, .int r_2), (5, .int (imax r_1 r_2)), (6, .int r_3)]) hx hb dX2_join_77 hl (k := 5) rfl rfl (by decide) rfl (fun ls hl => ?_)
            refine lv_goto (tgt := 47) hx hb dX2_join_80 (by decide) ?_
            exact ih_1 (v7_1 + 1) f_arcs_1 H locs ls hf hP hD hS (lv_sub hl [1, 2, 3, 4, 5, 0] rfl)
          · replace hf := kt_p hf c_6
            refine lv_aload_n hx hb dX2_join_65 rfl (lv_at hl 0 rfl) ?_
            refine lv_iload hx hb dX2_join_66 (lv_at hl 5 rfl) ?_
            refine lv_iload_n hx hb dX2_join_68 rfl (lv_at hl 1 rfl) ?_
            refine lv_iload hx hb dX2_join_69 (lv_at hl 2 rfl) ?_
            refine k_mmin hx hb (by rw [hml]; exact hl.1.symm) hown (hts (.methodLink RX2 40 Lib.Math.min.name) qX2_join_4) (hts (.static Lib.Math.min.name) qX2_join_5) (hts (.initialized "java/lang/Math") qX2_join_2) (hts (.code Lib.Math.min.name Lib.Math.min.code 2 (some .int)) qX2_join_6) (Nat.le_of_ble_eq_true rfl) (Nat.le_of_ble_eq_true rfl) (Nat.zero_le _) (Nat.zero_le _) dX2_join_71 ?_
            obtain ⟨o_arcs_5, hc_5, hf⟩ := bnd1_s hf
            refine kcVv (As := [.int v7_1, .int (imin r_1 r_2)]) (rest := []) (w2 := [(a_this, .inr (2, [.int i_crossings, .int i_circles, .ref a_arcs])), (a_arcs, .inl (cyI, 32, .inl o_arcs_5))]) S hK hP hD hS hA hN (mX2_setArc l D cyI cyZ H.size a_this a_arcs v7_1 (imin r_1 r_2) i_crossings i_circles f_arcs_1 o_arcs_5 hc_5) (cwV 2 hts gX2_join_X2_setArc rfl rfl rfl (by decide +kernel) ⟨Nat.le_of_ble_eq_true rfl, Nat.le_of_ble_eq_true rfl⟩) 2 0 rfl rfl [0, 1] [] [0, 1] rfl rfl rfl rfl (by decide) rfl rfl hl.1 (Nat.le_of_ble_eq_true rfl) dX2_join_74 ⟨Nat.le_of_ble_eq_true rfl, Nat.le_of_ble_eq_true rfl⟩ (fun H locs hP hD hS => ?_)
            refine lv_iinc (v := (v7_1 + 1)) (lv' := [(7, .int (v7_1 + 1)), (0, .ref a_this), (3, .int r_1), (4, .int r_2), (5, .int (imax r_1 r_2)), (6, .int r_3)]) hx hb dX2_join_77 hl (k := 5) rfl rfl (by decide) rfl (fun ls hl => ?_)
            refine lv_goto (tgt := 47) hx hb dX2_join_80 (by decide) ?_
            exact ih_1 (v7_1 + 1) o_arcs_5 H locs ls hf hP hD hS (lv_sub hl [1, 2, 3, 4, 5, 0] rfl)
    exact hL_1 400 0 f_arcs H locs ls hf hP hD hS (lv_sub hl [5, 4, 3, 2, 1, 0] rfl)
  · replace hf := kt_p hf c_8
    refine lv_aload_n hx hb dX2_join_19 rfl (lv_at hl 2 rfl) ?_
    refine lv_dup hx hb dX2_join_20 rfl ?_
    refine va_get (D := D) (ci := 2) (v := .int i_circles) (C := RX2) (T := TX2) (N := 3) hx hb hts qX2_join_X2 hown hK hP 0 rfl rfl 1 (Nat.le_of_ble_eq_true rfl) (hts (.fieldLink RX2 19 "KnotDiagram$Diagram" "circles" "I") qX2_join_7) (fun _ h9 => h9) rfl dX2_join_21 ?_
    refine lv_iconst (v := 1) hx hb dX2_join_24 (by decide) ?_
    refine lv_iadd hx hb dX2_join_25 ?_
    refine va_put (D := D) (ci := 2) (v := .int (i_circles + 1)) (ty := .int) (C := RX2) (T := TX2) (N := 3) hx hb hts qX2_join_X2 tyX2 tyX2_ok nmX2 hown hK hP hD hS 0 rfl rfl 1 (Nat.le_of_ble_eq_true rfl) (hts (.fieldLink RX2 19 "KnotDiagram$Diagram" "circles" "I") qX2_join_7) (fun _ h9 => h9) rfl (by decide +kernel) rfl rfl (Nat.le_of_ble_eq_true rfl) dX2_join_26 (fun H locs hP hD hS => ?_)
    replace hP : va_P D vwCl [(a_this, .inr (2, [.int i_crossings, .int (i_circles + 1), .ref a_arcs])), (a_arcs, .inl (cyI, 32, .inl f_arcs))] H := hP
    replace hD : va_D A [(a_this, .inr (2, [.int i_crossings, .int (i_circles + 1), .ref a_arcs])), (a_arcs, .inl (cyI, 32, .inl f_arcs))] := hD
    obtain ⟨rfl, rfl⟩ := some2_s hf
    exact kRv hx hb hr hlocks hP hK hD hS dX2_join_29
def kX2_drop_L1 (r_1 : Int32) (i_crossings : Int32) (K_1 : Int32 → (Nat → Int32) → Option (Int32 × (Nat → Int32))) (v3_1 : Int32) (f_arcs_1 : Nat → Int32) : Option (Int32 × (Nat → Int32)) :=
  if r_1 ≤ v3_1 then some ((i_crossings - 1), f_arcs_1) else bnd1 (kX2_arc (v3_1 + 4) f_arcs_1) (fun r_2 => bnd1 (kX2_setArc v3_1 r_2 f_arcs_1) (fun o_arcs_3 => K_1 (v3_1 + 1) o_arcs_3))
def kX2_drop (v1 : Int32) (i_crossings : Int32) (f_arcs : Nat → Int32) : Option (Int32 × (Nat → Int32)) :=
  bnd1 (kX2_endCount i_crossings) (fun r_1 => it2 (kX2_drop_L1 r_1 i_crossings) 400 (4 * v1) f_arcs)
def rmX2_drop : Room := { frames := 1, cells := 0, slots := 0, locals := 22 }
theorem qX2_drop_0 : (.fieldLink RX2 15 "KnotDiagram$Diagram" "crossings" "I" : Cond) ∈ wsX2_drop := by decide +kernel
theorem qX2_drop_X2 : ∀ w ∈ wsX20, w ∈ wsX2_drop := by decide +kernel
set_option maxHeartbeats 4000000 in
set_option maxRecDepth 100000 in
theorem mX2_drop (l : Launch) (D : va_G) (cyI cyZ : ClassId) (sz : Nat) (a_this a_arcs : Nat) (v1 : Int32) (i_crossings : Int32) (i_circles : Int32) (f_arcs : Nat → Int32) (o_crossings : Int32) (o_arcs : Nat → Int32) (hf : kX2_drop v1 i_crossings f_arcs = some (o_crossings, o_arcs)) : Met l yX2_drop wsX2_drop rmX2_drop (kPre D cyI cyZ [.ref a_this, .int v1] [(a_this, .inr (2, [.int i_crossings, .int i_circles, .ref a_arcs])), (a_arcs, .inl (cyI, 32, .inl f_arcs))] sz) (kQv D cyI cyZ (va_A [(a_this, .inr (2, [.int i_crossings, .int i_circles, .ref a_arcs])), (a_arcs, .inl (cyI, 32, .inl f_arcs))] sz) [(a_this, .inr (2, [.int o_crossings, .int i_circles, .ref a_arcs])), (a_arcs, .inl (cyI, 32, .inl o_arcs))]) 0 0 (va_A [(a_this, .inr (2, [.int i_crossings, .int i_circles, .ref a_arcs])), (a_arcs, .inl (cyI, 32, .inl f_arcs))] sz) := by
  refine Met.ofW (cc := cX2_drop) (maxL := 4) (ret := none) (by decide) rfl ?_
  intro p e s m args below meth c s₁ B hml hv
  obtain ⟨rfl, hsz, hP, hK, hD0, hN⟩ := hv
  have hx := B.exec
  have hb := B.bytes
  have hr := B.returns
  have hts := atoms_spec (ws := wsX2_drop) B.pre
  have hown : s.vm.findClass RX2 = some m.cls := findClass_of_methodNamed B.named
  have hlocks := B.notSynchronized
  subst hsz
  have hD := hD0.self (sz := s.heap.size)
  generalize hAe : va_A [(a_this, .inr (2, [.int i_crossings, .int i_circles, .ref a_arcs])), (a_arcs, .inl (cyI, 32, .inl f_arcs))] s.heap.size = A at hD ⊢
  have hA : ∀ q : Nat, s.heap.size ≤ q → A q := fun q h => by rw [← hAe]; exact Or.inr h
  clear hAe hD0
  have hS : va_S A s.heap s.heap [] := va_S.rf
  have S : CallFix p m c cX2_drop 4 s (([.ref a_this, .int v1] : List Value).toArray) wsX2_drop RX2 := ⟨hx, hb, hml, hown, hts⟩
  have hl := lv_entry ([.ref a_this, .int v1]) (n := 4) (Nat.le_of_ble_eq_true rfl)
  rw [lg_entry_eq]
  generalize (lg_sl ([.ref a_this, .int v1]) ++ List.replicate (4 - (lg_sl ([.ref a_this, .int v1])).length) Slot.unset).toArray = ls at hl ⊢
  replace hl : lv_has ls 4 [(0, .ref a_this), (1, .int v1)] := hl
  generalize ([] : List Loc) = locs at hS ⊢
  delta kX2_drop at hf
  obtain ⟨H, hH⟩ : ∃ H, H = s.heap := ⟨_, rfl⟩
  have hS : va_S A s.heap H locs := by rw [hH]; exact hS
  have hP : va_P D vwCl [(a_this, .inr (2, [.int i_crossings, .int i_circles, .ref a_arcs])), (a_arcs, .inl (cyI, 32, .inl f_arcs))] H := by rw [hH]; exact hP
  suffices hgo : W p l e (headSpec wsX2_drop rmX2_drop).room s m (([.ref a_this, .int v1] : List Value).toArray) below meth c H locs 0 0 (MQ below (kQv D cyI cyZ A [(a_this, .inr (2, [.int o_crossings, .int i_circles, .ref a_arcs])), (a_arcs, .inl (cyI, 32, .inl o_arcs))]) (([.ref a_this, .int v1] : List Value).toArray) s 0 0 A) (F0 m 0 ls []) by rw [hH] at hgo; exact hgo
  clear hH
  refine lv_aload_n hx hb dX2_drop_0 rfl (lv_at hl 0 rfl) ?_
  obtain ⟨r_1, hc_1, hf⟩ := bnd1_s hf
  refine kcVi (As := []) (rest := []) (w2 := [(a_this, .inr (2, [.int i_crossings, .int i_circles, .ref a_arcs])), (a_arcs, .inl (cyI, 32, .inl f_arcs))]) S hK hP hD hS hA hN (mX2_endCount l D cyI cyZ H.size a_this a_arcs i_crossings i_circles r_1 hc_1) (cwV 0 hts gX2_drop_X2_endCount rfl rfl rfl (by decide +kernel) ⟨Nat.le_of_ble_eq_true rfl, Nat.le_of_ble_eq_true rfl⟩) 2 0 rfl rfl [0] [1] [1, 0] rfl rfl rfl rfl (by decide) rfl rfl hl.1 (Nat.le_of_ble_eq_true rfl) dX2_drop_1 ⟨Nat.le_of_ble_eq_true rfl, Nat.le_of_ble_eq_true rfl⟩ (fun H locs hP hD hS => ?_)
  refine lv_istore_n (lv' := [(2, .int r_1), (0, .ref a_this), (1, .int v1)]) hx hb dX2_drop_4 rfl hl (by decide) rfl (fun ls hl => ?_)
  refine lv_iconst (v := 4) hx hb dX2_drop_5 (by decide) ?_
  refine lv_iload_n hx hb dX2_drop_6 rfl (lv_at hl 2 rfl) ?_
  refine lv_imul hx hb dX2_drop_7 ?_
  refine lv_istore_n (lv' := [(3, .int (4 * v1)), (2, .int r_1), (0, .ref a_this), (1, .int v1)]) hx hb dX2_drop_8 rfl hl (by decide) rfl (fun ls hl => ?_)
  have hL_1 : ∀ (n : Nat) (v3_1 : Int32) (f_arcs_1 : Nat → Int32) (H : Heap) (locs : List Loc) (ls : Array Slot), it2 (kX2_drop_L1 r_1 i_crossings) n v3_1 f_arcs_1 = some (o_crossings, o_arcs) → va_P D vwCl [(a_this, .inr (2, [.int i_crossings, .int i_circles, .ref a_arcs])), (a_arcs, .inl (cyI, 32, .inl f_arcs_1))] H → va_D A [(a_this, .inr (2, [.int i_crossings, .int i_circles, .ref a_arcs])), (a_arcs, .inl (cyI, 32, .inl f_arcs_1))] → va_S A s.heap H locs → lv_has ls 4 [(0, .ref a_this), (2, .int r_1), (3, .int v3_1)] → W p l e (headSpec wsX2_drop rmX2_drop).room s m (([.ref a_this, .int v1] : List Value).toArray) below meth c H locs 0 0 (MQ below (kQv D cyI cyZ A [(a_this, .inr (2, [.int o_crossings, .int i_circles, .ref a_arcs])), (a_arcs, .inl (cyI, 32, .inl o_arcs))]) (([.ref a_this, .int v1] : List Value).toArray) s 0 0 A) (F0 m 9 ls []) := by
    intro n_1
    induction n_1 with
    | zero =>
      intro _ _ _ _ _ hf
      exact (it2_z hf).elim
    | succ n_1 ih_1 =>
      intro v3_1 f_arcs_1 H locs ls hf hP hD hS hl
      replace hf := it2_s hf
      rw [kX2_drop_L1] at hf
      refine lv_iload_n hx hb dX2_drop_9 rfl (lv_at hl 2 rfl) ?_
      refine lv_iload_n hx hb dX2_drop_10 rfl (lv_at hl 1 rfl) ?_
      refine lv_icmp_ge (tgt := 32) hx hb dX2_drop_11 (by decide) (fun c_4 => ?_) (fun c_4 => ?_)
      · replace hf := kt_p hf c_4
        refine lv_aload_n hx hb dX2_drop_32 rfl (lv_at hl 0 rfl) ?_
        refine lv_dup hx hb dX2_drop_33 rfl ?_
        refine va_get (D := D) (ci := 2) (v := .int i_crossings) (C := RX2) (T := TX2) (N := 3) hx hb hts qX2_drop_X2 hown hK hP 0 rfl rfl 0 (Nat.le_of_ble_eq_true rfl) (hts (.fieldLink RX2 15 "KnotDiagram$Diagram" "crossings" "I") qX2_drop_0) (fun _ h9 => h9) rfl dX2_drop_34 ?_
        refine lv_iconst (v := 1) hx hb dX2_drop_37 (by decide) ?_
        refine lv_isub hx hb dX2_drop_38 ?_
        refine va_put (D := D) (ci := 2) (v := .int (i_crossings - 1)) (ty := .int) (C := RX2) (T := TX2) (N := 3) hx hb hts qX2_drop_X2 tyX2 tyX2_ok nmX2 hown hK hP hD hS 0 rfl rfl 0 (Nat.le_of_ble_eq_true rfl) (hts (.fieldLink RX2 15 "KnotDiagram$Diagram" "crossings" "I") qX2_drop_0) (fun _ h9 => h9) rfl (by decide +kernel) rfl rfl (Nat.le_of_ble_eq_true rfl) dX2_drop_39 (fun H locs hP hD hS => ?_)
        replace hP : va_P D vwCl [(a_this, .inr (2, [.int (i_crossings - 1), .int i_circles, .ref a_arcs])), (a_arcs, .inl (cyI, 32, .inl f_arcs_1))] H := hP
        replace hD : va_D A [(a_this, .inr (2, [.int (i_crossings - 1), .int i_circles, .ref a_arcs])), (a_arcs, .inl (cyI, 32, .inl f_arcs_1))] := hD
        obtain ⟨rfl, rfl⟩ := some2_s hf
        exact kRv hx hb hr hlocks hP hK hD hS dX2_drop_42
      · replace hf := kt_n hf c_4
        refine lv_aload_n hx hb dX2_drop_14 rfl (lv_at hl 0 rfl) ?_
        refine lv_iload_n hx hb dX2_drop_15 rfl (lv_at hl 2 rfl) ?_
        refine lv_aload_n hx hb dX2_drop_16 rfl (lv_at hl 0 rfl) ?_
        refine lv_iload_n hx hb dX2_drop_17 rfl (lv_at hl 2 rfl) ?_
        refine lv_iconst (v := 4) hx hb dX2_drop_18 (by decide) ?_
        refine lv_iadd hx hb dX2_drop_19 ?_
        obtain ⟨r_2, hc_2, hf⟩ := bnd1_s hf
        refine kcVi (As := [.int (v3_1 + 4)]) (rest := [.int v3_1, .ref a_this]) (w2 := [(a_this, .inr (2, [.int i_crossings, .int i_circles, .ref a_arcs])), (a_arcs, .inl (cyI, 32, .inl f_arcs_1))]) S hK hP hD hS hA hN (mX2_arc l D cyI cyZ H.size a_this a_arcs (v3_1 + 4) i_crossings i_circles f_arcs_1 r_2 hc_2) (cwV 1 hts gX2_drop_X2_arc rfl rfl rfl (by decide +kernel) ⟨Nat.le_of_ble_eq_true rfl, Nat.le_of_ble_eq_true rfl⟩) 2 0 rfl rfl [0, 1] [] [0, 1] rfl rfl rfl rfl (by decide) rfl rfl hl.1 (Nat.le_of_ble_eq_true rfl) dX2_drop_20 ⟨Nat.le_of_ble_eq_true rfl, Nat.le_of_ble_eq_true rfl⟩ (fun H locs hP hD hS => ?_)
        obtain ⟨o_arcs_3, hc_3, hf⟩ := bnd1_s hf
        refine kcVv (As := [.int v3_1, .int r_2]) (rest := []) (w2 := [(a_this, .inr (2, [.int i_crossings, .int i_circles, .ref a_arcs])), (a_arcs, .inl (cyI, 32, .inl o_arcs_3))]) S hK hP hD hS hA hN (mX2_setArc l D cyI cyZ H.size a_this a_arcs v3_1 r_2 i_crossings i_circles f_arcs_1 o_arcs_3 hc_3) (cwV 2 hts gX2_drop_X2_setArc rfl rfl rfl (by decide +kernel) ⟨Nat.le_of_ble_eq_true rfl, Nat.le_of_ble_eq_true rfl⟩) 2 0 rfl rfl [0, 1] [] [0, 1] rfl rfl rfl rfl (by decide) rfl rfl hl.1 (Nat.le_of_ble_eq_true rfl) dX2_drop_23 ⟨Nat.le_of_ble_eq_true rfl, Nat.le_of_ble_eq_true rfl⟩ (fun H locs hP hD hS => ?_)
        refine lv_iinc (v := (v3_1 + 1)) (lv' := [(3, .int (v3_1 + 1)), (0, .ref a_this), (2, .int r_1)]) hx hb dX2_drop_26 hl (k := 2) rfl rfl (by decide) rfl (fun ls hl => ?_)
        refine lv_goto (tgt := 9) hx hb dX2_drop_29 (by decide) ?_
        exact ih_1 (v3_1 + 1) o_arcs_3 H locs ls hf hP hD hS (lv_sub hl [1, 2, 0] rfl)
  exact hL_1 400 (4 * v1) f_arcs H locs ls hf hP hD hS (lv_sub hl [2, 1, 0] rfl)
def kX3_endOf (v0 : Int32) (v1 : Int32) : Option (Int32) :=
  some ((4 * v0) + (v1 &&& 3))
def rmX3_endOf : Room := { frames := 0, cells := 0, slots := 0, locals := 0 }
set_option maxHeartbeats 4000000 in
set_option maxRecDepth 100000 in
theorem mX3_endOf (l : Launch) (D : va_G) (cyI cyZ : ClassId) (sz : Nat) (v0 : Int32) (v1 : Int32) (r : Int32) (hf : kX3_endOf v0 v1 = some r) : Met l yX3_endOf wsX3_endOf rmX3_endOf (kPre D cyI cyZ [.int v0, .int v1] [] sz) (kQi D cyI cyZ (va_A [] sz) [] r) 0 0 (va_A [] sz) := by
  refine Met.ofW (cc := cX3_endOf) (maxL := 2) (ret := (some .int)) (by decide) rfl ?_
  intro p e s m args below meth c s₁ B hml hv
  obtain ⟨rfl, hsz, hP, hK, hD0, hN⟩ := hv
  have hx := B.exec
  have hb := B.bytes
  have hr := B.returns
  have hts := atoms_spec (ws := wsX3_endOf) B.pre
  have hown : s.vm.findClass RX3 = some m.cls := findClass_of_methodNamed B.named
  have hlocks := B.notSynchronized
  subst hsz
  have hD := hD0.self (sz := s.heap.size)
  generalize hAe : va_A [] s.heap.size = A at hD ⊢
  have hA : ∀ q : Nat, s.heap.size ≤ q → A q := fun q h => by rw [← hAe]; exact Or.inr h
  clear hAe hD0
  have hS : va_S A s.heap s.heap [] := va_S.rf
  have S : CallFix p m c cX3_endOf 2 s (([.int v0, .int v1] : List Value).toArray) wsX3_endOf RX3 := ⟨hx, hb, hml, hown, hts⟩
  have hl := lv_entry ([.int v0, .int v1]) (n := 2) (Nat.le_of_ble_eq_true rfl)
  rw [lg_entry_eq]
  generalize (lg_sl ([.int v0, .int v1]) ++ List.replicate (2 - (lg_sl ([.int v0, .int v1])).length) Slot.unset).toArray = ls at hl ⊢
  replace hl : lv_has ls 2 [(0, .int v0), (1, .int v1)] := hl
  generalize ([] : List Loc) = locs at hS ⊢
  delta kX3_endOf at hf
  obtain ⟨H, hH⟩ : ∃ H, H = s.heap := ⟨_, rfl⟩
  have hS : va_S A s.heap H locs := by rw [hH]; exact hS
  have hP : va_P D vwCl [] H := by rw [hH]; exact hP
  suffices hgo : W p l e (headSpec wsX3_endOf rmX3_endOf).room s m (([.int v0, .int v1] : List Value).toArray) below meth c H locs 0 0 (MQ below (kQi D cyI cyZ A [] r) (([.int v0, .int v1] : List Value).toArray) s 0 0 A) (F0 m 0 ls []) by rw [hH] at hgo; exact hgo
  clear hH
  refine lv_iconst (v := 4) hx hb dX3_endOf_0 (by decide) ?_
  refine lv_iload_n hx hb dX3_endOf_1 rfl (lv_at hl 0 rfl) ?_
  refine lv_imul hx hb dX3_endOf_2 ?_
  refine lv_iload_n hx hb dX3_endOf_3 rfl (lv_at hl 1 rfl) ?_
  refine lv_iconst (v := 3) hx hb dX3_endOf_4 (by decide) ?_
  refine lv_iand hx hb dX3_endOf_5 ?_
  refine lv_iadd hx hb dX3_endOf_6 ?_
  obtain rfl := some1_s hf
  exact kRi hx hb hr hlocks hP hK hD hS rfl dX3_endOf_7
def kX3_kinkEnd_L1 (v1 : Int32) (f_p0_arcs : Nat → Int32) (K_1 : Int32 → Option (Int32)) (v2_1 : Int32) : Option (Int32) :=
  if 4 ≤ v2_1 then some (-1) else bnd1 (kX3_endOf v1 v2_1) (fun r_1 => bnd1 (kX2_arc r_1 f_p0_arcs) (fun r_2 => bnd1 (kX3_endOf v1 (v2_1 + 1)) (fun r_3 => bnd1 (kX2_arc r_3 f_p0_arcs) (fun r_4 => if r_2 = r_4 then some v2_1 else K_1 (v2_1 + 1)))))
def kX3_kinkEnd (v1 : Int32) (f_p0_arcs : Nat → Int32) : Option (Int32) :=
  it1 (kX3_kinkEnd_L1 v1 f_p0_arcs) 400 0
def rmX3_kinkEnd : Room := { frames := 1, cells := 0, slots := 0, locals := 21 }
set_option maxHeartbeats 4000000 in
set_option maxRecDepth 100000 in
theorem mX3_kinkEnd (l : Launch) (D : va_G) (cyI cyZ : ClassId) (sz : Nat) (a_p0 a_p0_arcs : Nat) (v1 : Int32) (i_p0_crossings : Int32) (i_p0_circles : Int32) (f_p0_arcs : Nat → Int32) (r : Int32) (hf : kX3_kinkEnd v1 f_p0_arcs = some r) : Met l yX3_kinkEnd wsX3_kinkEnd rmX3_kinkEnd (kPre D cyI cyZ [.ref a_p0, .int v1] [(a_p0, .inr (2, [.int i_p0_crossings, .int i_p0_circles, .ref a_p0_arcs])), (a_p0_arcs, .inl (cyI, 32, .inl f_p0_arcs))] sz) (kQi D cyI cyZ (va_A [(a_p0, .inr (2, [.int i_p0_crossings, .int i_p0_circles, .ref a_p0_arcs])), (a_p0_arcs, .inl (cyI, 32, .inl f_p0_arcs))] sz) [(a_p0, .inr (2, [.int i_p0_crossings, .int i_p0_circles, .ref a_p0_arcs])), (a_p0_arcs, .inl (cyI, 32, .inl f_p0_arcs))] r) 0 0 (va_A [(a_p0, .inr (2, [.int i_p0_crossings, .int i_p0_circles, .ref a_p0_arcs])), (a_p0_arcs, .inl (cyI, 32, .inl f_p0_arcs))] sz) := by
  refine Met.ofW (cc := cX3_kinkEnd) (maxL := 3) (ret := (some .int)) (by decide) rfl ?_
  intro p e s m args below meth c s₁ B hml hv
  obtain ⟨rfl, hsz, hP, hK, hD0, hN⟩ := hv
  have hx := B.exec
  have hb := B.bytes
  have hr := B.returns
  have hts := atoms_spec (ws := wsX3_kinkEnd) B.pre
  have hown : s.vm.findClass RX3 = some m.cls := findClass_of_methodNamed B.named
  have hlocks := B.notSynchronized
  subst hsz
  have hD := hD0.self (sz := s.heap.size)
  generalize hAe : va_A [(a_p0, .inr (2, [.int i_p0_crossings, .int i_p0_circles, .ref a_p0_arcs])), (a_p0_arcs, .inl (cyI, 32, .inl f_p0_arcs))] s.heap.size = A at hD ⊢
  have hA : ∀ q : Nat, s.heap.size ≤ q → A q := fun q h => by rw [← hAe]; exact Or.inr h
  clear hAe hD0
  have hS : va_S A s.heap s.heap [] := va_S.rf
  have S : CallFix p m c cX3_kinkEnd 3 s (([.ref a_p0, .int v1] : List Value).toArray) wsX3_kinkEnd RX3 := ⟨hx, hb, hml, hown, hts⟩
  have hl := lv_entry ([.ref a_p0, .int v1]) (n := 3) (Nat.le_of_ble_eq_true rfl)
  rw [lg_entry_eq]
  generalize (lg_sl ([.ref a_p0, .int v1]) ++ List.replicate (3 - (lg_sl ([.ref a_p0, .int v1])).length) Slot.unset).toArray = ls at hl ⊢
  replace hl : lv_has ls 3 [(0, .ref a_p0), (1, .int v1)] := hl
  generalize ([] : List Loc) = locs at hS ⊢
  delta kX3_kinkEnd at hf
  obtain ⟨H, hH⟩ : ∃ H, H = s.heap := ⟨_, rfl⟩
  have hS : va_S A s.heap H locs := by rw [hH]; exact hS
  have hP : va_P D vwCl [(a_p0, .inr (2, [.int i_p0_crossings, .int i_p0_circles, .ref a_p0_arcs])), (a_p0_arcs, .inl (cyI, 32, .inl f_p0_arcs))] H := by rw [hH]; exact hP
  suffices hgo : W p l e (headSpec wsX3_kinkEnd rmX3_kinkEnd).room s m (([.ref a_p0, .int v1] : List Value).toArray) below meth c H locs 0 0 (MQ below (kQi D cyI cyZ A [(a_p0, .inr (2, [.int i_p0_crossings, .int i_p0_circles, .ref a_p0_arcs])), (a_p0_arcs, .inl (cyI, 32, .inl f_p0_arcs))] r) (([.ref a_p0, .int v1] : List Value).toArray) s 0 0 A) (F0 m 0 ls []) by rw [hH] at hgo; exact hgo
  clear hH
  refine lv_iconst (v := 0) hx hb dX3_kinkEnd_0 (by decide) ?_
  refine lv_istore_n (lv' := [(2, .int 0), (0, .ref a_p0), (1, .int v1)]) hx hb dX3_kinkEnd_1 rfl hl (by decide) rfl (fun ls hl => ?_)
  have hL_1 : ∀ (n : Nat) (v2_1 : Int32) (H : Heap) (locs : List Loc) (ls : Array Slot), it1 (kX3_kinkEnd_L1 v1 f_p0_arcs) n v2_1 = some r → va_P D vwCl [(a_p0, .inr (2, [.int i_p0_crossings, .int i_p0_circles, .ref a_p0_arcs])), (a_p0_arcs, .inl (cyI, 32, .inl f_p0_arcs))] H → va_D A [(a_p0, .inr (2, [.int i_p0_crossings, .int i_p0_circles, .ref a_p0_arcs])), (a_p0_arcs, .inl (cyI, 32, .inl f_p0_arcs))] → va_S A s.heap H locs → lv_has ls 3 [(0, .ref a_p0), (1, .int v1), (2, .int v2_1)] → W p l e (headSpec wsX3_kinkEnd rmX3_kinkEnd).room s m (([.ref a_p0, .int v1] : List Value).toArray) below meth c H locs 0 0 (MQ below (kQi D cyI cyZ A [(a_p0, .inr (2, [.int i_p0_crossings, .int i_p0_circles, .ref a_p0_arcs])), (a_p0_arcs, .inl (cyI, 32, .inl f_p0_arcs))] r) (([.ref a_p0, .int v1] : List Value).toArray) s 0 0 A) (F0 m 2 ls []) := by
    intro n_1
    induction n_1 with
    | zero =>
      intro _ _ _ _ hf
      exact (it1_z hf).elim
    | succ n_1 ih_1 =>
      intro v2_1 H locs ls hf hP hD hS hl
      replace hf := it1_s hf
      rw [kX3_kinkEnd_L1] at hf
      refine lv_iload_n hx hb dX3_kinkEnd_2 rfl (lv_at hl 2 rfl) ?_
      refine lv_iconst (v := 4) hx hb dX3_kinkEnd_3 (by decide) ?_
      refine lv_icmp_ge (tgt := 38) hx hb dX3_kinkEnd_4 (by decide) (fun c_6 => ?_) (fun c_6 => ?_)
      · replace hf := kt_p hf c_6
        refine lv_iconst (v := (-1)) hx hb dX3_kinkEnd_38 (by decide) ?_
        obtain rfl := some1_s hf
        exact kRi hx hb hr hlocks hP hK hD hS rfl dX3_kinkEnd_39
      · replace hf := kt_n hf c_6
        refine lv_aload_n hx hb dX3_kinkEnd_7 rfl (lv_at hl 0 rfl) ?_
        refine lv_iload_n hx hb dX3_kinkEnd_8 rfl (lv_at hl 1 rfl) ?_
        refine lv_iload_n hx hb dX3_kinkEnd_9 rfl (lv_at hl 2 rfl) ?_
        obtain ⟨r_1, hc_1, hf⟩ := bnd1_s hf
        refine kcSi (As := [.int v1, .int v2_1]) (rest := [.ref a_p0]) (w2 := [(a_p0, .inr (2, [.int i_p0_crossings, .int i_p0_circles, .ref a_p0_arcs])), (a_p0_arcs, .inl (cyI, 32, .inl f_p0_arcs))]) S hK hP hD hS hA hN (mX3_endOf l D cyI cyZ H.size v1 v2_1 r_1 hc_1) (va_cwS 2 hts gX3_kinkEnd_X3_endOf rfl rfl rfl (by decide +kernel) ⟨Nat.le_of_ble_eq_true rfl, Nat.le_of_ble_eq_true rfl⟩) [] [0, 1] [0, 1] rfl rfl rfl rfl (by decide) rfl rfl hl.1 (Nat.le_of_ble_eq_true rfl) dX3_kinkEnd_10 ⟨Nat.le_of_ble_eq_true rfl, Nat.le_of_ble_eq_true rfl⟩ (fun H locs hP hD hS => ?_)
        obtain ⟨r_2, hc_2, hf⟩ := bnd1_s hf
        refine kcVi (As := [.int r_1]) (rest := []) (w2 := [(a_p0, .inr (2, [.int i_p0_crossings, .int i_p0_circles, .ref a_p0_arcs])), (a_p0_arcs, .inl (cyI, 32, .inl f_p0_arcs))]) S hK hP hD hS hA hN (mX2_arc l D cyI cyZ H.size a_p0 a_p0_arcs r_1 i_p0_crossings i_p0_circles f_p0_arcs r_2 hc_2) (cwV 1 hts gX3_kinkEnd_X2_arc rfl rfl rfl (by decide +kernel) ⟨Nat.le_of_ble_eq_true rfl, Nat.le_of_ble_eq_true rfl⟩) 2 0 rfl rfl [0, 1] [] [0, 1] rfl rfl rfl rfl (by decide) rfl rfl hl.1 (Nat.le_of_ble_eq_true rfl) dX3_kinkEnd_13 ⟨Nat.le_of_ble_eq_true rfl, Nat.le_of_ble_eq_true rfl⟩ (fun H locs hP hD hS => ?_)
        refine lv_aload_n hx hb dX3_kinkEnd_16 rfl (lv_at hl 0 rfl) ?_
        refine lv_iload_n hx hb dX3_kinkEnd_17 rfl (lv_at hl 1 rfl) ?_
        refine lv_iload_n hx hb dX3_kinkEnd_18 rfl (lv_at hl 2 rfl) ?_
        refine lv_iconst (v := 1) hx hb dX3_kinkEnd_19 (by decide) ?_
        refine lv_iadd hx hb dX3_kinkEnd_20 ?_
        obtain ⟨r_3, hc_3, hf⟩ := bnd1_s hf
        refine kcSi (As := [.int v1, .int (v2_1 + 1)]) (rest := [.ref a_p0, .int r_2]) (w2 := [(a_p0, .inr (2, [.int i_p0_crossings, .int i_p0_circles, .ref a_p0_arcs])), (a_p0_arcs, .inl (cyI, 32, .inl f_p0_arcs))]) S hK hP hD hS hA hN (mX3_endOf l D cyI cyZ H.size v1 (v2_1 + 1) r_3 hc_3) (va_cwS 2 hts gX3_kinkEnd_X3_endOf rfl rfl rfl (by decide +kernel) ⟨Nat.le_of_ble_eq_true rfl, Nat.le_of_ble_eq_true rfl⟩) [] [0, 1] [0, 1] rfl rfl rfl rfl (by decide) rfl rfl hl.1 (Nat.le_of_ble_eq_true rfl) dX3_kinkEnd_21 ⟨Nat.le_of_ble_eq_true rfl, Nat.le_of_ble_eq_true rfl⟩ (fun H locs hP hD hS => ?_)
        obtain ⟨r_4, hc_4, hf⟩ := bnd1_s hf
        refine kcVi (As := [.int r_3]) (rest := [.int r_2]) (w2 := [(a_p0, .inr (2, [.int i_p0_crossings, .int i_p0_circles, .ref a_p0_arcs])), (a_p0_arcs, .inl (cyI, 32, .inl f_p0_arcs))]) S hK hP hD hS hA hN (mX2_arc l D cyI cyZ H.size a_p0 a_p0_arcs r_3 i_p0_crossings i_p0_circles f_p0_arcs r_4 hc_4) (cwV 1 hts gX3_kinkEnd_X2_arc rfl rfl rfl (by decide +kernel) ⟨Nat.le_of_ble_eq_true rfl, Nat.le_of_ble_eq_true rfl⟩) 2 0 rfl rfl [0, 1] [] [0, 1] rfl rfl rfl rfl (by decide) rfl rfl hl.1 (Nat.le_of_ble_eq_true rfl) dX3_kinkEnd_24 ⟨Nat.le_of_ble_eq_true rfl, Nat.le_of_ble_eq_true rfl⟩ (fun H locs hP hD hS => ?_)
        refine lv_icmp_ne (tgt := 32) hx hb dX3_kinkEnd_27 (by decide) (fun c_5 => ?_) (fun c_5 => ?_)
        · replace hf := kt_n hf c_5
          refine lv_iinc (v := (v2_1 + 1)) (lv' := [(2, .int (v2_1 + 1)), (0, .ref a_p0), (1, .int v1)]) hx hb dX3_kinkEnd_32 hl (k := 2) rfl rfl (by decide) rfl (fun ls hl => ?_)
          refine lv_goto (tgt := 2) hx hb dX3_kinkEnd_35 (by decide) ?_
          exact ih_1 (v2_1 + 1) H locs ls hf hP hD hS (lv_sub hl [1, 2, 0] rfl)
        · replace hf := kt_p hf c_5
          refine lv_iload_n hx hb dX3_kinkEnd_30 rfl (lv_at hl 2 rfl) ?_
          obtain rfl := some1_s hf
          exact kRi hx hb hr hlocks hP hK hD hS rfl dX3_kinkEnd_31
  exact hL_1 400 0 H locs ls hf hP hD hS (lv_sub hl [1, 2, 0] rfl)
def kX3_isBigon_J1   : Option (Int32) :=
  some 0
def kX3_isBigon (v1 : Int32) (v2 : Int32) (v3 : Int32) (v4 : Int32) (f_p0_arcs : Nat → Int32) : Option (Int32) :=
  if ((v2 + v4) &&& 1) = 1 then bnd1 (kX3_endOf v1 v2) (fun r_1 => bnd1 (kX2_arc r_1 f_p0_arcs) (fun r_2 => bnd1 (kX3_endOf v3 (v4 + 1)) (fun r_3 => bnd1 (kX2_arc r_3 f_p0_arcs) (fun r_4 => if r_2 = r_4 then bnd1 (kX3_endOf v1 (v2 + 1)) (fun r_5 => bnd1 (kX2_arc r_5 f_p0_arcs) (fun r_6 => bnd1 (kX3_endOf v3 v4) (fun r_7 => bnd1 (kX2_arc r_7 f_p0_arcs) (fun r_8 => if r_6 = r_8 then some 1 else kX3_isBigon_J1)))) else kX3_isBigon_J1)))) else kX3_isBigon_J1
def rmX3_isBigon : Room := { frames := 1, cells := 0, slots := 0, locals := 21 }
set_option maxHeartbeats 4000000 in
set_option maxRecDepth 100000 in
theorem mX3_isBigon (l : Launch) (D : va_G) (cyI cyZ : ClassId) (sz : Nat) (a_p0 a_p0_arcs : Nat) (v1 : Int32) (v2 : Int32) (v3 : Int32) (v4 : Int32) (i_p0_crossings : Int32) (i_p0_circles : Int32) (f_p0_arcs : Nat → Int32) (r : Int32) (hf : kX3_isBigon v1 v2 v3 v4 f_p0_arcs = some r) : Met l yX3_isBigon wsX3_isBigon rmX3_isBigon (kPre D cyI cyZ [.ref a_p0, .int v1, .int v2, .int v3, .int v4] [(a_p0, .inr (2, [.int i_p0_crossings, .int i_p0_circles, .ref a_p0_arcs])), (a_p0_arcs, .inl (cyI, 32, .inl f_p0_arcs))] sz) (kQi D cyI cyZ (va_A [(a_p0, .inr (2, [.int i_p0_crossings, .int i_p0_circles, .ref a_p0_arcs])), (a_p0_arcs, .inl (cyI, 32, .inl f_p0_arcs))] sz) [(a_p0, .inr (2, [.int i_p0_crossings, .int i_p0_circles, .ref a_p0_arcs])), (a_p0_arcs, .inl (cyI, 32, .inl f_p0_arcs))] r) 0 0 (va_A [(a_p0, .inr (2, [.int i_p0_crossings, .int i_p0_circles, .ref a_p0_arcs])), (a_p0_arcs, .inl (cyI, 32, .inl f_p0_arcs))] sz) := by
  refine Met.ofW (cc := cX3_isBigon) (maxL := 5) (ret := (some .boolean)) (by decide) rfl ?_
  intro p e s m args below meth c s₁ B hml hv
  obtain ⟨rfl, hsz, hP, hK, hD0, hN⟩ := hv
  have hx := B.exec
  have hb := B.bytes
  have hr := B.returns
  have hts := atoms_spec (ws := wsX3_isBigon) B.pre
  have hown : s.vm.findClass RX3 = some m.cls := findClass_of_methodNamed B.named
  have hlocks := B.notSynchronized
  subst hsz
  have hD := hD0.self (sz := s.heap.size)
  generalize hAe : va_A [(a_p0, .inr (2, [.int i_p0_crossings, .int i_p0_circles, .ref a_p0_arcs])), (a_p0_arcs, .inl (cyI, 32, .inl f_p0_arcs))] s.heap.size = A at hD ⊢
  have hA : ∀ q : Nat, s.heap.size ≤ q → A q := fun q h => by rw [← hAe]; exact Or.inr h
  clear hAe hD0
  have hS : va_S A s.heap s.heap [] := va_S.rf
  have S : CallFix p m c cX3_isBigon 5 s (([.ref a_p0, .int v1, .int v2, .int v3, .int v4] : List Value).toArray) wsX3_isBigon RX3 := ⟨hx, hb, hml, hown, hts⟩
  have hl := lv_entry ([.ref a_p0, .int v1, .int v2, .int v3, .int v4]) (n := 5) (Nat.le_of_ble_eq_true rfl)
  rw [lg_entry_eq]
  generalize (lg_sl ([.ref a_p0, .int v1, .int v2, .int v3, .int v4]) ++ List.replicate (5 - (lg_sl ([.ref a_p0, .int v1, .int v2, .int v3, .int v4])).length) Slot.unset).toArray = ls at hl ⊢
  replace hl : lv_has ls 5 [(0, .ref a_p0), (1, .int v1), (2, .int v2), (3, .int v3), (4, .int v4)] := hl
  generalize ([] : List Loc) = locs at hS ⊢
  delta kX3_isBigon at hf
  obtain ⟨H, hH⟩ : ∃ H, H = s.heap := ⟨_, rfl⟩
  have hS : va_S A s.heap H locs := by rw [hH]; exact hS
  have hP : va_P D vwCl [(a_p0, .inr (2, [.int i_p0_crossings, .int i_p0_circles, .ref a_p0_arcs])), (a_p0_arcs, .inl (cyI, 32, .inl f_p0_arcs))] H := by rw [hH]; exact hP
  suffices hgo : W p l e (headSpec wsX3_isBigon rmX3_isBigon).room s m (([.ref a_p0, .int v1, .int v2, .int v3, .int v4] : List Value).toArray) below meth c H locs 0 0 (MQ below (kQi D cyI cyZ A [(a_p0, .inr (2, [.int i_p0_crossings, .int i_p0_circles, .ref a_p0_arcs])), (a_p0_arcs, .inl (cyI, 32, .inl f_p0_arcs))] r) (([.ref a_p0, .int v1, .int v2, .int v3, .int v4] : List Value).toArray) s 0 0 A) (F0 m 0 ls []) by rw [hH] at hgo; exact hgo
  clear hH
  refine lv_iload_n hx hb dX3_isBigon_0 rfl (lv_at hl 2 rfl) ?_
  refine lv_iload hx hb dX3_isBigon_1 (lv_at hl 4 rfl) ?_
  refine lv_iadd hx hb dX3_isBigon_3 ?_
  refine lv_iconst (v := 1) hx hb dX3_isBigon_4 (by decide) ?_
  refine lv_iand hx hb dX3_isBigon_5 ?_
  refine lv_iconst (v := 1) hx hb dX3_isBigon_6 (by decide) ?_
  have hJ_1 : ∀  (H : Heap) (locs : List Loc) (ls : Array Slot), kX3_isBigon_J1  = some r → va_P D vwCl [(a_p0, .inr (2, [.int i_p0_crossings, .int i_p0_circles, .ref a_p0_arcs])), (a_p0_arcs, .inl (cyI, 32, .inl f_p0_arcs))] H → va_D A [(a_p0, .inr (2, [.int i_p0_crossings, .int i_p0_circles, .ref a_p0_arcs])), (a_p0_arcs, .inl (cyI, 32, .inl f_p0_arcs))] → va_S A s.heap H locs → lv_has ls 5 [] → W p l e (headSpec wsX3_isBigon rmX3_isBigon).room s m (([.ref a_p0, .int v1, .int v2, .int v3, .int v4] : List Value).toArray) below meth c H locs 0 0 (MQ below (kQi D cyI cyZ A [(a_p0, .inr (2, [.int i_p0_crossings, .int i_p0_circles, .ref a_p0_arcs])), (a_p0_arcs, .inl (cyI, 32, .inl f_p0_arcs))] r) (([.ref a_p0, .int v1, .int v2, .int v3, .int v4] : List Value).toArray) s 0 0 A) (F0 m 62 ls []) := by
    intro  H locs ls hf hP hD hS hl
    delta kX3_isBigon_J1 at hf
    refine lv_iconst (v := 0) hx hb dX3_isBigon_62 (by decide) ?_
    obtain rfl := some1_s hf
    exact kRz hx hb hr hlocks hP hK hD hS zn0 rfl dX3_isBigon_63
  refine lv_icmp_ne (tgt := 62) hx hb dX3_isBigon_7 (by decide) (fun c_11 => ?_) (fun c_11 => ?_)
  · replace hf := kt_n hf c_11
    exact hJ_1 H locs ls hf hP hD hS (lv_sub hl [] rfl)
  · replace hf := kt_p hf c_11
    refine lv_aload_n hx hb dX3_isBigon_10 rfl (lv_at hl 0 rfl) ?_
    refine lv_iload_n hx hb dX3_isBigon_11 rfl (lv_at hl 1 rfl) ?_
    refine lv_iload_n hx hb dX3_isBigon_12 rfl (lv_at hl 2 rfl) ?_
    obtain ⟨r_1, hc_1, hf⟩ := bnd1_s hf
    refine kcSi (As := [.int v1, .int v2]) (rest := [.ref a_p0]) (w2 := [(a_p0, .inr (2, [.int i_p0_crossings, .int i_p0_circles, .ref a_p0_arcs])), (a_p0_arcs, .inl (cyI, 32, .inl f_p0_arcs))]) S hK hP hD hS hA hN (mX3_endOf l D cyI cyZ H.size v1 v2 r_1 hc_1) (va_cwS 2 hts gX3_isBigon_X3_endOf rfl rfl rfl (by decide +kernel) ⟨Nat.le_of_ble_eq_true rfl, Nat.le_of_ble_eq_true rfl⟩) [] [0, 1] [0, 1] rfl rfl rfl rfl (by decide) rfl rfl hl.1 (Nat.le_of_ble_eq_true rfl) dX3_isBigon_13 ⟨Nat.le_of_ble_eq_true rfl, Nat.le_of_ble_eq_true rfl⟩ (fun H locs hP hD hS => ?_)
    obtain ⟨r_2, hc_2, hf⟩ := bnd1_s hf
    refine kcVi (As := [.int r_1]) (rest := []) (w2 := [(a_p0, .inr (2, [.int i_p0_crossings, .int i_p0_circles, .ref a_p0_arcs])), (a_p0_arcs, .inl (cyI, 32, .inl f_p0_arcs))]) S hK hP hD hS hA hN (mX2_arc l D cyI cyZ H.size a_p0 a_p0_arcs r_1 i_p0_crossings i_p0_circles f_p0_arcs r_2 hc_2) (cwV 1 hts gX3_isBigon_X2_arc rfl rfl rfl (by decide +kernel) ⟨Nat.le_of_ble_eq_true rfl, Nat.le_of_ble_eq_true rfl⟩) 2 0 rfl rfl [0, 1] [] [0, 1] rfl rfl rfl rfl (by decide) rfl rfl hl.1 (Nat.le_of_ble_eq_true rfl) dX3_isBigon_16 ⟨Nat.le_of_ble_eq_true rfl, Nat.le_of_ble_eq_true rfl⟩ (fun H locs hP hD hS => ?_)
    refine lv_aload_n hx hb dX3_isBigon_19 rfl (lv_at hl 0 rfl) ?_
    refine lv_iload_n hx hb dX3_isBigon_20 rfl (lv_at hl 3 rfl) ?_
    refine lv_iload hx hb dX3_isBigon_21 (lv_at hl 4 rfl) ?_
    refine lv_iconst (v := 1) hx hb dX3_isBigon_23 (by decide) ?_
    refine lv_iadd hx hb dX3_isBigon_24 ?_
    obtain ⟨r_3, hc_3, hf⟩ := bnd1_s hf
    refine kcSi (As := [.int v3, .int (v4 + 1)]) (rest := [.ref a_p0, .int r_2]) (w2 := [(a_p0, .inr (2, [.int i_p0_crossings, .int i_p0_circles, .ref a_p0_arcs])), (a_p0_arcs, .inl (cyI, 32, .inl f_p0_arcs))]) S hK hP hD hS hA hN (mX3_endOf l D cyI cyZ H.size v3 (v4 + 1) r_3 hc_3) (va_cwS 2 hts gX3_isBigon_X3_endOf rfl rfl rfl (by decide +kernel) ⟨Nat.le_of_ble_eq_true rfl, Nat.le_of_ble_eq_true rfl⟩) [] [0, 1] [0, 1] rfl rfl rfl rfl (by decide) rfl rfl hl.1 (Nat.le_of_ble_eq_true rfl) dX3_isBigon_25 ⟨Nat.le_of_ble_eq_true rfl, Nat.le_of_ble_eq_true rfl⟩ (fun H locs hP hD hS => ?_)
    obtain ⟨r_4, hc_4, hf⟩ := bnd1_s hf
    refine kcVi (As := [.int r_3]) (rest := [.int r_2]) (w2 := [(a_p0, .inr (2, [.int i_p0_crossings, .int i_p0_circles, .ref a_p0_arcs])), (a_p0_arcs, .inl (cyI, 32, .inl f_p0_arcs))]) S hK hP hD hS hA hN (mX2_arc l D cyI cyZ H.size a_p0 a_p0_arcs r_3 i_p0_crossings i_p0_circles f_p0_arcs r_4 hc_4) (cwV 1 hts gX3_isBigon_X2_arc rfl rfl rfl (by decide +kernel) ⟨Nat.le_of_ble_eq_true rfl, Nat.le_of_ble_eq_true rfl⟩) 2 0 rfl rfl [0, 1] [] [0, 1] rfl rfl rfl rfl (by decide) rfl rfl hl.1 (Nat.le_of_ble_eq_true rfl) dX3_isBigon_28 ⟨Nat.le_of_ble_eq_true rfl, Nat.le_of_ble_eq_true rfl⟩ (fun H locs hP hD hS => ?_)
    refine lv_icmp_ne (tgt := 62) hx hb dX3_isBigon_31 (by decide) (fun c_10 => ?_) (fun c_10 => ?_)
    · replace hf := kt_n hf c_10
      exact hJ_1 H locs ls hf hP hD hS (lv_sub hl [] rfl)
    · replace hf := kt_p hf c_10
      refine lv_aload_n hx hb dX3_isBigon_34 rfl (lv_at hl 0 rfl) ?_
      refine lv_iload_n hx hb dX3_isBigon_35 rfl (lv_at hl 1 rfl) ?_
      refine lv_iload_n hx hb dX3_isBigon_36 rfl (lv_at hl 2 rfl) ?_
      refine lv_iconst (v := 1) hx hb dX3_isBigon_37 (by decide) ?_
      refine lv_iadd hx hb dX3_isBigon_38 ?_
      obtain ⟨r_5, hc_5, hf⟩ := bnd1_s hf
      refine kcSi (As := [.int v1, .int (v2 + 1)]) (rest := [.ref a_p0]) (w2 := [(a_p0, .inr (2, [.int i_p0_crossings, .int i_p0_circles, .ref a_p0_arcs])), (a_p0_arcs, .inl (cyI, 32, .inl f_p0_arcs))]) S hK hP hD hS hA hN (mX3_endOf l D cyI cyZ H.size v1 (v2 + 1) r_5 hc_5) (va_cwS 2 hts gX3_isBigon_X3_endOf rfl rfl rfl (by decide +kernel) ⟨Nat.le_of_ble_eq_true rfl, Nat.le_of_ble_eq_true rfl⟩) [] [0, 1] [0, 1] rfl rfl rfl rfl (by decide) rfl rfl hl.1 (Nat.le_of_ble_eq_true rfl) dX3_isBigon_39 ⟨Nat.le_of_ble_eq_true rfl, Nat.le_of_ble_eq_true rfl⟩ (fun H locs hP hD hS => ?_)
      obtain ⟨r_6, hc_6, hf⟩ := bnd1_s hf
      refine kcVi (As := [.int r_5]) (rest := []) (w2 := [(a_p0, .inr (2, [.int i_p0_crossings, .int i_p0_circles, .ref a_p0_arcs])), (a_p0_arcs, .inl (cyI, 32, .inl f_p0_arcs))]) S hK hP hD hS hA hN (mX2_arc l D cyI cyZ H.size a_p0 a_p0_arcs r_5 i_p0_crossings i_p0_circles f_p0_arcs r_6 hc_6) (cwV 1 hts gX3_isBigon_X2_arc rfl rfl rfl (by decide +kernel) ⟨Nat.le_of_ble_eq_true rfl, Nat.le_of_ble_eq_true rfl⟩) 2 0 rfl rfl [0, 1] [] [0, 1] rfl rfl rfl rfl (by decide) rfl rfl hl.1 (Nat.le_of_ble_eq_true rfl) dX3_isBigon_42 ⟨Nat.le_of_ble_eq_true rfl, Nat.le_of_ble_eq_true rfl⟩ (fun H locs hP hD hS => ?_)
      refine lv_aload_n hx hb dX3_isBigon_45 rfl (lv_at hl 0 rfl) ?_
      refine lv_iload_n hx hb dX3_isBigon_46 rfl (lv_at hl 3 rfl) ?_
      refine lv_iload hx hb dX3_isBigon_47 (lv_at hl 4 rfl) ?_
      obtain ⟨r_7, hc_7, hf⟩ := bnd1_s hf
      refine kcSi (As := [.int v3, .int v4]) (rest := [.ref a_p0, .int r_6]) (w2 := [(a_p0, .inr (2, [.int i_p0_crossings, .int i_p0_circles, .ref a_p0_arcs])), (a_p0_arcs, .inl (cyI, 32, .inl f_p0_arcs))]) S hK hP hD hS hA hN (mX3_endOf l D cyI cyZ H.size v3 v4 r_7 hc_7) (va_cwS 2 hts gX3_isBigon_X3_endOf rfl rfl rfl (by decide +kernel) ⟨Nat.le_of_ble_eq_true rfl, Nat.le_of_ble_eq_true rfl⟩) [] [0, 1] [0, 1] rfl rfl rfl rfl (by decide) rfl rfl hl.1 (Nat.le_of_ble_eq_true rfl) dX3_isBigon_49 ⟨Nat.le_of_ble_eq_true rfl, Nat.le_of_ble_eq_true rfl⟩ (fun H locs hP hD hS => ?_)
      obtain ⟨r_8, hc_8, hf⟩ := bnd1_s hf
      refine kcVi (As := [.int r_7]) (rest := [.int r_6]) (w2 := [(a_p0, .inr (2, [.int i_p0_crossings, .int i_p0_circles, .ref a_p0_arcs])), (a_p0_arcs, .inl (cyI, 32, .inl f_p0_arcs))]) S hK hP hD hS hA hN (mX2_arc l D cyI cyZ H.size a_p0 a_p0_arcs r_7 i_p0_crossings i_p0_circles f_p0_arcs r_8 hc_8) (cwV 1 hts gX3_isBigon_X2_arc rfl rfl rfl (by decide +kernel) ⟨Nat.le_of_ble_eq_true rfl, Nat.le_of_ble_eq_true rfl⟩) 2 0 rfl rfl [0, 1] [] [0, 1] rfl rfl rfl rfl (by decide) rfl rfl hl.1 (Nat.le_of_ble_eq_true rfl) dX3_isBigon_52 ⟨Nat.le_of_ble_eq_true rfl, Nat.le_of_ble_eq_true rfl⟩ (fun H locs hP hD hS => ?_)
      refine lv_icmp_ne (tgt := 62) hx hb dX3_isBigon_55 (by decide) (fun c_9 => ?_) (fun c_9 => ?_)
      · replace hf := kt_n hf c_9
        exact hJ_1 H locs ls hf hP hD hS (lv_sub hl [] rfl)
      · replace hf := kt_p hf c_9
        refine lv_iconst (v := 1) hx hb dX3_isBigon_58 (by decide) ?_
        refine lv_goto (tgt := 63) hx hb dX3_isBigon_59 (by decide) ?_
        obtain rfl := some1_s hf
        exact kRz hx hb hr hlocks hP hK hD hS zn1 rfl dX3_isBigon_63
def kX3_bigonCorner_L1 (v1 : Int32) (v2 : Int32) (f_p0_arcs : Nat → Int32) (K_1 : Int32 → Option (Int32)) (v3_1 : Int32) : Option (Int32) :=
  if 16 ≤ v3_1 then some (-1) else bnd1 (kX3_isBigon v1 (ishr v3_1 2) v2 (v3_1 &&& 3) f_p0_arcs) (fun r_1 => if r_1 = 0 then K_1 (v3_1 + 1) else some v3_1)
def kX3_bigonCorner (v1 : Int32) (v2 : Int32) (f_p0_arcs : Nat → Int32) : Option (Int32) :=
  it1 (kX3_bigonCorner_L1 v1 v2 f_p0_arcs) 400 0
def rmX3_bigonCorner : Room := { frames := 2, cells := 0, slots := 0, locals := 45 }
set_option maxHeartbeats 4000000 in
set_option maxRecDepth 100000 in
theorem mX3_bigonCorner (l : Launch) (D : va_G) (cyI cyZ : ClassId) (sz : Nat) (a_p0 a_p0_arcs : Nat) (v1 : Int32) (v2 : Int32) (i_p0_crossings : Int32) (i_p0_circles : Int32) (f_p0_arcs : Nat → Int32) (r : Int32) (hf : kX3_bigonCorner v1 v2 f_p0_arcs = some r) : Met l yX3_bigonCorner wsX3_bigonCorner rmX3_bigonCorner (kPre D cyI cyZ [.ref a_p0, .int v1, .int v2] [(a_p0, .inr (2, [.int i_p0_crossings, .int i_p0_circles, .ref a_p0_arcs])), (a_p0_arcs, .inl (cyI, 32, .inl f_p0_arcs))] sz) (kQi D cyI cyZ (va_A [(a_p0, .inr (2, [.int i_p0_crossings, .int i_p0_circles, .ref a_p0_arcs])), (a_p0_arcs, .inl (cyI, 32, .inl f_p0_arcs))] sz) [(a_p0, .inr (2, [.int i_p0_crossings, .int i_p0_circles, .ref a_p0_arcs])), (a_p0_arcs, .inl (cyI, 32, .inl f_p0_arcs))] r) 0 0 (va_A [(a_p0, .inr (2, [.int i_p0_crossings, .int i_p0_circles, .ref a_p0_arcs])), (a_p0_arcs, .inl (cyI, 32, .inl f_p0_arcs))] sz) := by
  refine Met.ofW (cc := cX3_bigonCorner) (maxL := 4) (ret := (some .int)) (by decide) rfl ?_
  intro p e s m args below meth c s₁ B hml hv
  obtain ⟨rfl, hsz, hP, hK, hD0, hN⟩ := hv
  have hx := B.exec
  have hb := B.bytes
  have hr := B.returns
  have hts := atoms_spec (ws := wsX3_bigonCorner) B.pre
  have hown : s.vm.findClass RX3 = some m.cls := findClass_of_methodNamed B.named
  have hlocks := B.notSynchronized
  subst hsz
  have hD := hD0.self (sz := s.heap.size)
  generalize hAe : va_A [(a_p0, .inr (2, [.int i_p0_crossings, .int i_p0_circles, .ref a_p0_arcs])), (a_p0_arcs, .inl (cyI, 32, .inl f_p0_arcs))] s.heap.size = A at hD ⊢
  have hA : ∀ q : Nat, s.heap.size ≤ q → A q := fun q h => by rw [← hAe]; exact Or.inr h
  clear hAe hD0
  have hS : va_S A s.heap s.heap [] := va_S.rf
  have S : CallFix p m c cX3_bigonCorner 4 s (([.ref a_p0, .int v1, .int v2] : List Value).toArray) wsX3_bigonCorner RX3 := ⟨hx, hb, hml, hown, hts⟩
  have hl := lv_entry ([.ref a_p0, .int v1, .int v2]) (n := 4) (Nat.le_of_ble_eq_true rfl)
  rw [lg_entry_eq]
  generalize (lg_sl ([.ref a_p0, .int v1, .int v2]) ++ List.replicate (4 - (lg_sl ([.ref a_p0, .int v1, .int v2])).length) Slot.unset).toArray = ls at hl ⊢
  replace hl : lv_has ls 4 [(0, .ref a_p0), (1, .int v1), (2, .int v2)] := hl
  generalize ([] : List Loc) = locs at hS ⊢
  delta kX3_bigonCorner at hf
  obtain ⟨H, hH⟩ : ∃ H, H = s.heap := ⟨_, rfl⟩
  have hS : va_S A s.heap H locs := by rw [hH]; exact hS
  have hP : va_P D vwCl [(a_p0, .inr (2, [.int i_p0_crossings, .int i_p0_circles, .ref a_p0_arcs])), (a_p0_arcs, .inl (cyI, 32, .inl f_p0_arcs))] H := by rw [hH]; exact hP
  suffices hgo : W p l e (headSpec wsX3_bigonCorner rmX3_bigonCorner).room s m (([.ref a_p0, .int v1, .int v2] : List Value).toArray) below meth c H locs 0 0 (MQ below (kQi D cyI cyZ A [(a_p0, .inr (2, [.int i_p0_crossings, .int i_p0_circles, .ref a_p0_arcs])), (a_p0_arcs, .inl (cyI, 32, .inl f_p0_arcs))] r) (([.ref a_p0, .int v1, .int v2] : List Value).toArray) s 0 0 A) (F0 m 0 ls []) by rw [hH] at hgo; exact hgo
  clear hH
  refine lv_iconst (v := 0) hx hb dX3_bigonCorner_0 (by decide) ?_
  refine lv_istore_n (lv' := [(3, .int 0), (0, .ref a_p0), (1, .int v1), (2, .int v2)]) hx hb dX3_bigonCorner_1 rfl hl (by decide) rfl (fun ls hl => ?_)
  have hL_1 : ∀ (n : Nat) (v3_1 : Int32) (H : Heap) (locs : List Loc) (ls : Array Slot), it1 (kX3_bigonCorner_L1 v1 v2 f_p0_arcs) n v3_1 = some r → va_P D vwCl [(a_p0, .inr (2, [.int i_p0_crossings, .int i_p0_circles, .ref a_p0_arcs])), (a_p0_arcs, .inl (cyI, 32, .inl f_p0_arcs))] H → va_D A [(a_p0, .inr (2, [.int i_p0_crossings, .int i_p0_circles, .ref a_p0_arcs])), (a_p0_arcs, .inl (cyI, 32, .inl f_p0_arcs))] → va_S A s.heap H locs → lv_has ls 4 [(0, .ref a_p0), (1, .int v1), (2, .int v2), (3, .int v3_1)] → W p l e (headSpec wsX3_bigonCorner rmX3_bigonCorner).room s m (([.ref a_p0, .int v1, .int v2] : List Value).toArray) below meth c H locs 0 0 (MQ below (kQi D cyI cyZ A [(a_p0, .inr (2, [.int i_p0_crossings, .int i_p0_circles, .ref a_p0_arcs])), (a_p0_arcs, .inl (cyI, 32, .inl f_p0_arcs))] r) (([.ref a_p0, .int v1, .int v2] : List Value).toArray) s 0 0 A) (F0 m 2 ls []) := by
    intro n_1
    induction n_1 with
    | zero =>
      intro _ _ _ _ hf
      exact (it1_z hf).elim
    | succ n_1 ih_1 =>
      intro v3_1 H locs ls hf hP hD hS hl
      replace hf := it1_s hf
      rw [kX3_bigonCorner_L1] at hf
      refine lv_iload_n hx hb dX3_bigonCorner_2 rfl (lv_at hl 3 rfl) ?_
      refine lv_bipush (v := 16) hx hb dX3_bigonCorner_3 (by decide) ?_
      refine lv_icmp_ge (tgt := 31) hx hb dX3_bigonCorner_5 (by decide) (fun c_3 => ?_) (fun c_3 => ?_)
      · replace hf := kt_p hf c_3
        refine lv_iconst (v := (-1)) hx hb dX3_bigonCorner_31 (by decide) ?_
        obtain rfl := some1_s hf
        exact kRi hx hb hr hlocks hP hK hD hS rfl dX3_bigonCorner_32
      · replace hf := kt_n hf c_3
        refine lv_aload_n hx hb dX3_bigonCorner_8 rfl (lv_at hl 0 rfl) ?_
        refine lv_iload_n hx hb dX3_bigonCorner_9 rfl (lv_at hl 1 rfl) ?_
        refine lv_iload_n hx hb dX3_bigonCorner_10 rfl (lv_at hl 3 rfl) ?_
        refine lv_iconst (v := 2) hx hb dX3_bigonCorner_11 (by decide) ?_
        refine k_ishr hx hb dX3_bigonCorner_12 ?_
        refine lv_iload_n hx hb dX3_bigonCorner_13 rfl (lv_at hl 2 rfl) ?_
        refine lv_iload_n hx hb dX3_bigonCorner_14 rfl (lv_at hl 3 rfl) ?_
        refine lv_iconst (v := 3) hx hb dX3_bigonCorner_15 (by decide) ?_
        refine lv_iand hx hb dX3_bigonCorner_16 ?_
        obtain ⟨r_1, hc_1, hf⟩ := bnd1_s hf
        refine kcSi (As := [.ref a_p0, .int v1, .int (ishr v3_1 2), .int v2, .int (v3_1 &&& 3)]) (rest := []) (w2 := [(a_p0, .inr (2, [.int i_p0_crossings, .int i_p0_circles, .ref a_p0_arcs])), (a_p0_arcs, .inl (cyI, 32, .inl f_p0_arcs))]) S hK hP hD hS hA hN (mX3_isBigon l D cyI cyZ H.size a_p0 a_p0_arcs v1 (ishr v3_1 2) v2 (v3_1 &&& 3) i_p0_crossings i_p0_circles f_p0_arcs r_1 hc_1) (va_cwS 5 hts gX3_bigonCorner_X3_isBigon rfl rfl rfl (by decide +kernel) ⟨Nat.le_of_ble_eq_true rfl, Nat.le_of_ble_eq_true rfl⟩) [0, 1] [] [0, 1] rfl rfl rfl rfl (by decide) rfl rfl hl.1 (Nat.le_of_ble_eq_true rfl) dX3_bigonCorner_17 ⟨Nat.le_of_ble_eq_true rfl, Nat.le_of_ble_eq_true rfl⟩ (fun H locs hP hD hS => ?_)
        refine lv_if_eq (tgt := 25) hx hb dX3_bigonCorner_20 (by decide) (fun c_2 => ?_) (fun c_2 => ?_)
        · replace hf := kt_p hf c_2
          refine lv_iinc (v := (v3_1 + 1)) (lv' := [(3, .int (v3_1 + 1)), (0, .ref a_p0), (1, .int v1), (2, .int v2)]) hx hb dX3_bigonCorner_25 hl (k := 3) rfl rfl (by decide) rfl (fun ls hl => ?_)
          refine lv_goto (tgt := 2) hx hb dX3_bigonCorner_28 (by decide) ?_
          exact ih_1 (v3_1 + 1) H locs ls hf hP hD hS (lv_sub hl [1, 2, 3, 0] rfl)
        · replace hf := kt_n hf c_2
          refine lv_iload_n hx hb dX3_bigonCorner_23 rfl (lv_at hl 3 rfl) ?_
          obtain rfl := some1_s hf
          exact kRi hx hb hr hlocks hP hK hD hS rfl dX3_bigonCorner_24
  exact hL_1 400 0 H locs ls hf hP hD hS (lv_sub hl [1, 2, 3, 0] rfl)
