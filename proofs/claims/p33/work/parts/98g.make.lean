/-! ===== the constructors ===== -/
theorem kSameI {D : va_G} {cyI cyZ cA : ClassId} {U : State} (h : va_K D vwCl (kTy cyI cyZ ++ [(cA, .int)]) U) : cA = cyI := by
  have a : U.vm.findClass ("[" ++ (FieldType.int).toString) = some cyI := (h.2 0 (cyI, .int) rfl).2
  have b : U.vm.findClass ("[" ++ (FieldType.int).toString) = some cA := (h.2 2 (cA, .int) rfl).2
  rw [a] at b
  exact (Option.some.inj b).symm
theorem kSameZ {D : va_G} {cyI cyZ cA : ClassId} {U : State} (h : va_K D vwCl (kTy cyI cyZ ++ [(cA, .boolean)]) U) : cA = cyZ := by
  have a : U.vm.findClass ("[" ++ (FieldType.boolean).toString) = some cyZ := (h.2 1 (cyZ, .boolean) rfl).2
  have b : U.vm.findClass ("[" ++ (FieldType.boolean).toString) = some cA := (h.2 2 (cA, .boolean) rfl).2
  rw [a] at b
  exact (Option.some.inj b).symm
def zf : Nat → Int32 := fun _ => 0
theorem kCellI (n : Nat) (cA : ClassId) : vp_cell cA (n, .inl zf) = arrV cA n (fun _ => defaultValue .int) := rfl
theorem kCellZ (n : Nat) (cA : ClassId) : vp_cell cA (n, .inl zf) = arrV cA n (fun _ => defaultValue .boolean) := rfl
def rmX4_init : Room := { frames := 1, cells := 0, slots := 0, locals := 22 }
def kCX4 (D : va_G) (cyI cyZ : ClassId) (h0 : Nat) (A : Nat → Prop) (t : State) : Prop := va_P D vwCl [(h0, .inr (3, [.int 0, .int 0]))] t.heap ∧ va_K D vwCl (kTy cyI cyZ) t ∧ va_D A [(h0, .inr (3, [.int 0, .int 0]))]
set_option maxRecDepth 100000 in
theorem mX4_init (l : Launch) (D : va_G) (cyI cyZ : ClassId) (sz h0 : Nat) : Met l yX4_init wsX4_init rmX4_init (kPre D cyI cyZ [.ref h0] [(h0, .inr (3, [.int 0, .int 0]))] sz) (va_Qv (fun (_ : Unit) => True) (fun _ t => kCX4 D cyI cyZ h0 (va_A [(h0, .inr (3, [.int 0, .int 0]))] sz) t) (va_A [(h0, .inr (3, [.int 0, .int 0]))] sz)) 0 0 (va_A [(h0, .inr (3, [.int 0, .int 0]))] sz) := by
  refine Met.ofW (cc := cX4_init) (maxL := 1) (ret := none) (by decide) rfl ?_
  intro p e s m args below meth c s₁ B hml hv
  obtain ⟨rfl, hsz, hP, hK, hD0, hN⟩ := hv
  have hx := B.exec
  have hb := B.bytes
  have hr := B.returns
  have hts := atoms_spec (ws := wsX4_init) B.pre
  have hown : s.vm.findClass RX4 = some m.cls := findClass_of_methodNamed B.named
  have hlocks := B.notSynchronized
  have hin : meth.name = "<init>" := (name_of_methodNamed B.named B.method).1
  subst hsz
  have hD := hD0.self (sz := s.heap.size)
  generalize hAe : va_A [(h0, .inr (3, [.int 0, .int 0]))] s.heap.size = A at hD ⊢
  have hA : ∀ q : Nat, s.heap.size ≤ q → A q := fun q h => by rw [← hAe]; exact Or.inr h
  have hS : va_S A s.heap s.heap [] := va_S.rf
  have hP : va_P D vwCl [(h0, .inr (3, [.int 0, .int 0]))] s.heap := hP
  have hl := lv_entry ([.ref h0]) (n := 1) (Nat.le_of_ble_eq_true rfl)
  rw [lg_entry_eq]
  generalize (lg_sl ([.ref h0]) ++ List.replicate (1 - (lg_sl ([.ref h0])).length) Slot.unset).toArray = ls at hl ⊢
  have hl : lv_has ls 1 [(0, .ref h0)] := hl
  refine lv_aload_n hx hb dX4_init_0 rfl (lv_at hl 0 rfl) ?_
  refine W.objInit hx hb hown (hts (.methodLink RX4 3 objectInit) (by decide +kernel)) (hts (.instanceMethod objectInit) (by decide +kernel)) (hts _ (List.mem_cons_of_mem _ (List.mem_of_getElem? (i := 2) rfl))) rfl (by rw [hml]; exact hl.1) rfl dX4_init_1 (Nat.le_of_ble_eq_true rfl) (Nat.le_of_ble_eq_true rfl) ?_
  refine W.eq (g2 := F0 m 4 ls []) rfl ?_
  refine W.vret hx hb hr (fun t ht hW => ?_) hS.2.2 dX4_init_4
  refine ⟨⟨(), rfl, trivial, ?_⟩, hS.F ht⟩
  unfold kCX4
  refine ⟨?_, va_K.moved hW.alike hK, hD⟩
  rw [ht]; exact hP
def rmX8_init : Room := { frames := 1, cells := 1, slots := 160, locals := 22 }
def kCX8 (D : va_G) (cyI cyZ : ClassId) (h0 : Nat) (A : Nat → Prop) (t : State) : Prop := ∃ q8 : Nat, va_P D vwCl [(h0, .inr (5, [.ref q8, .int 0])), (q8, .inl (cyI, 160, .inl zf))] t.heap ∧ va_K D vwCl (kTy cyI cyZ) t ∧ va_D A [(h0, .inr (5, [.ref q8, .int 0])), (q8, .inl (cyI, 160, .inl zf))]
set_option maxRecDepth 100000 in
theorem mX8_init (l : Launch) (D : va_G) (cyI cyZ : ClassId) (sz h0 : Nat) : Met l yX8_init wsX8_init rmX8_init (kPre D cyI cyZ [.ref h0] [(h0, .inr (5, [.null, .int 0]))] sz) (va_Qv (fun (_ : Unit) => True) (fun _ t => kCX8 D cyI cyZ h0 (va_A [(h0, .inr (5, [.null, .int 0]))] sz) t) (va_A [(h0, .inr (5, [.null, .int 0]))] sz)) 1 160 (va_A [(h0, .inr (5, [.null, .int 0]))] sz) := by
  refine Met.ofW (cc := cX8_init) (maxL := 1) (ret := none) (by decide) rfl ?_
  intro p e s m args below meth c s₁ B hml hv
  obtain ⟨rfl, hsz, hP, hK, hD0, hN⟩ := hv
  have hx := B.exec
  have hb := B.bytes
  have hr := B.returns
  have hts := atoms_spec (ws := wsX8_init) B.pre
  have hown : s.vm.findClass RX8 = some m.cls := findClass_of_methodNamed B.named
  have hlocks := B.notSynchronized
  have hin : meth.name = "<init>" := (name_of_methodNamed B.named B.method).1
  subst hsz
  have hD := hD0.self (sz := s.heap.size)
  generalize hAe : va_A [(h0, .inr (5, [.null, .int 0]))] s.heap.size = A at hD ⊢
  have hA : ∀ q : Nat, s.heap.size ≤ q → A q := fun q h => by rw [← hAe]; exact Or.inr h
  have hS : va_S A s.heap s.heap [] := va_S.rf
  have hP : va_P D vwCl [(h0, .inr (5, [.null, .int 0]))] s.heap := hP
  have hl := lv_entry ([.ref h0]) (n := 1) (Nat.le_of_ble_eq_true rfl)
  rw [lg_entry_eq]
  generalize (lg_sl ([.ref h0]) ++ List.replicate (1 - (lg_sl ([.ref h0])).length) Slot.unset).toArray = ls at hl ⊢
  have hl : lv_has ls 1 [(0, .ref h0)] := hl
  refine lv_aload_n hx hb dX8_init_0 rfl (lv_at hl 0 rfl) ?_
  refine W.objInit hx hb hown (hts (.methodLink RX8 3 objectInit) (by decide +kernel)) (hts (.instanceMethod objectInit) (by decide +kernel)) (hts _ (List.mem_cons_of_mem _ (List.mem_append_left _ (List.mem_of_getElem? (i := 2) rfl)))) rfl (by rw [hml]; exact hl.1) rfl dX8_init_1 (Nat.le_of_ble_eq_true rfl) (Nat.le_of_ble_eq_true rfl) ?_
  refine W.eq (g2 := F0 m 4 ls []) rfl ?_
  refine lv_aload_n hx hb dX8_init_4 rfl (lv_at hl 0 rfl) ?_
  refine lv_sipush (v := 160) hx hb dX8_init_5 (by decide) ?_
  refine va_newa (atype := .int) (a0 := (160, .inl zf)) (N' := 160) hx hb (hts (.arrayClass .int) (by decide +kernel)) (ty := .int) rfl hK hP hD hS hA (kCellI 160) (by decide +kernel) (by decide +kernel) (by decide +kernel) (Nat.le_of_ble_eq_true rfl) (Nat.le_of_ble_eq_true rfl) dX8_init_8 (fun q8 cA H hKn hP hD hS => ?_)
  have hcA := kSameI hKn
  rw [hcA] at hP hD
  clear hKn hcA
  replace hP : va_P D vwCl [(h0, .inr (5, [.null, .int 0])), (q8, .inl (cyI, 160, .inl zf))] H := hP
  replace hD : va_D A [(h0, .inr (5, [.null, .int 0])), (q8, .inl (cyI, 160, .inl zf))] := hD
  refine W.widen (k := 1) (n := 160) (Nat.le_of_ble_eq_true rfl) (Nat.le_of_ble_eq_true rfl) ?_
  refine va_putF (D := D) (ci := 5) (v := .ref q8) (ty := .array .int) (C := RX8) (T := TX8) (N := 2) hx hb hts (by decide +kernel) tyX8 tyX8_ok nmX8 hown hK hP hD hS 0 rfl rfl 0 (by decide) (hts (.fieldLink RX8 9 "KnotDiagram$Text" "characters" "[I") (by decide +kernel)) (fun _ h9 => h9) rfl hin rfl (by decide +kernel) rfl rfl (Nat.le_of_ble_eq_true rfl) dX8_init_10 (fun H locs hP hD hS => ?_)
  replace hP : va_P D vwCl [(h0, .inr (5, [.ref q8, .int 0])), (q8, .inl (cyI, 160, .inl zf))] H := hP
  replace hD : va_D A [(h0, .inr (5, [.ref q8, .int 0])), (q8, .inl (cyI, 160, .inl zf))] := hD
  refine W.vret hx hb hr (fun t ht hW => ?_) hS.2.2 dX8_init_13
  refine ⟨⟨(), rfl, trivial, ?_⟩, hS.F ht⟩
  unfold kCX8
  refine ⟨q8, ?_, va_K.moved hW.alike hK, hD⟩
  rw [ht]; exact hP
def rmX2_init : Room := { frames := 1, cells := 1, slots := 32, locals := 22 }
def kCX2 (D : va_G) (cyI cyZ : ClassId) (h0 : Nat) (A : Nat → Prop) (t : State) : Prop := ∃ q7 : Nat, va_P D vwCl [(h0, .inr (2, [.int 0, .int 0, .ref q7])), (q7, .inl (cyI, 32, .inl zf))] t.heap ∧ va_K D vwCl (kTy cyI cyZ) t ∧ va_D A [(h0, .inr (2, [.int 0, .int 0, .ref q7])), (q7, .inl (cyI, 32, .inl zf))]
set_option maxRecDepth 100000 in
theorem mX2_init (l : Launch) (D : va_G) (cyI cyZ : ClassId) (sz h0 : Nat) : Met l yX2_init wsX2_init rmX2_init (kPre D cyI cyZ [.ref h0] [(h0, .inr (2, [.int 0, .int 0, .null]))] sz) (va_Qv (fun (_ : Unit) => True) (fun _ t => kCX2 D cyI cyZ h0 (va_A [(h0, .inr (2, [.int 0, .int 0, .null]))] sz) t) (va_A [(h0, .inr (2, [.int 0, .int 0, .null]))] sz)) 1 32 (va_A [(h0, .inr (2, [.int 0, .int 0, .null]))] sz) := by
  refine Met.ofW (cc := cX2_init) (maxL := 1) (ret := none) (by decide) rfl ?_
  intro p e s m args below meth c s₁ B hml hv
  obtain ⟨rfl, hsz, hP, hK, hD0, hN⟩ := hv
  have hx := B.exec
  have hb := B.bytes
  have hr := B.returns
  have hts := atoms_spec (ws := wsX2_init) B.pre
  have hown : s.vm.findClass RX2 = some m.cls := findClass_of_methodNamed B.named
  have hlocks := B.notSynchronized
  have hin : meth.name = "<init>" := (name_of_methodNamed B.named B.method).1
  subst hsz
  have hD := hD0.self (sz := s.heap.size)
  generalize hAe : va_A [(h0, .inr (2, [.int 0, .int 0, .null]))] s.heap.size = A at hD ⊢
  have hA : ∀ q : Nat, s.heap.size ≤ q → A q := fun q h => by rw [← hAe]; exact Or.inr h
  have hS : va_S A s.heap s.heap [] := va_S.rf
  have hP : va_P D vwCl [(h0, .inr (2, [.int 0, .int 0, .null]))] s.heap := hP
  have hl := lv_entry ([.ref h0]) (n := 1) (Nat.le_of_ble_eq_true rfl)
  rw [lg_entry_eq]
  generalize (lg_sl ([.ref h0]) ++ List.replicate (1 - (lg_sl ([.ref h0])).length) Slot.unset).toArray = ls at hl ⊢
  have hl : lv_has ls 1 [(0, .ref h0)] := hl
  refine lv_aload_n hx hb dX2_init_0 rfl (lv_at hl 0 rfl) ?_
  refine W.objInit hx hb hown (hts (.methodLink RX2 3 objectInit) (by decide +kernel)) (hts (.instanceMethod objectInit) (by decide +kernel)) (hts _ (List.mem_cons_of_mem _ (List.mem_append_left _ (List.mem_of_getElem? (i := 2) rfl)))) rfl (by rw [hml]; exact hl.1) rfl dX2_init_1 (Nat.le_of_ble_eq_true rfl) (Nat.le_of_ble_eq_true rfl) ?_
  refine W.eq (g2 := F0 m 4 ls []) rfl ?_
  refine lv_aload_n hx hb dX2_init_4 rfl (lv_at hl 0 rfl) ?_
  refine lv_bipush (v := 32) hx hb dX2_init_5 (by decide) ?_
  refine va_newa (atype := .int) (a0 := (32, .inl zf)) (N' := 32) hx hb (hts (.arrayClass .int) (by decide +kernel)) (ty := .int) rfl hK hP hD hS hA (kCellI 32) (by decide +kernel) (by decide +kernel) (by decide +kernel) (Nat.le_of_ble_eq_true rfl) (Nat.le_of_ble_eq_true rfl) dX2_init_7 (fun q7 cA H hKn hP hD hS => ?_)
  have hcA := kSameI hKn
  rw [hcA] at hP hD
  clear hKn hcA
  replace hP : va_P D vwCl [(h0, .inr (2, [.int 0, .int 0, .null])), (q7, .inl (cyI, 32, .inl zf))] H := hP
  replace hD : va_D A [(h0, .inr (2, [.int 0, .int 0, .null])), (q7, .inl (cyI, 32, .inl zf))] := hD
  refine W.widen (k := 1) (n := 32) (Nat.le_of_ble_eq_true rfl) (Nat.le_of_ble_eq_true rfl) ?_
  refine va_putF (D := D) (ci := 2) (v := .ref q7) (ty := .array .int) (C := RX2) (T := TX2) (N := 3) hx hb hts (by decide +kernel) tyX2 tyX2_ok nmX2 hown hK hP hD hS 0 rfl rfl 2 (by decide) (hts (.fieldLink RX2 9 "KnotDiagram$Diagram" "arcs" "[I") (by decide +kernel)) (fun _ h9 => h9) rfl hin rfl (by decide +kernel) rfl rfl (Nat.le_of_ble_eq_true rfl) dX2_init_9 (fun H locs hP hD hS => ?_)
  replace hP : va_P D vwCl [(h0, .inr (2, [.int 0, .int 0, .ref q7])), (q7, .inl (cyI, 32, .inl zf))] H := hP
  replace hD : va_D A [(h0, .inr (2, [.int 0, .int 0, .ref q7])), (q7, .inl (cyI, 32, .inl zf))] := hD
  refine W.vret hx hb hr (fun t ht hW => ?_) hS.2.2 dX2_init_12
  refine ⟨⟨(), rfl, trivial, ?_⟩, hS.F ht⟩
  unfold kCX2
  refine ⟨q7, ?_, va_K.moved hW.alike hK, hD⟩
  rw [ht]; exact hP
def rmX6_init : Room := { frames := 1, cells := 2, slots := 350, locals := 22 }
def kCX6 (D : va_G) (cyI cyZ : ClassId) (h0 : Nat) (A : Nat → Prop) (t : State) : Prop := ∃ q8 : Nat, ∃ q16 : Nat, va_P D vwCl [(h0, .inr (4, [.ref q8, .ref q16])), (q8, .inl (cyI, 340, .inl zf)), (q16, .inl (cyZ, 10, .inl zf))] t.heap ∧ va_K D vwCl (kTy cyI cyZ) t ∧ va_D A [(h0, .inr (4, [.ref q8, .ref q16])), (q8, .inl (cyI, 340, .inl zf)), (q16, .inl (cyZ, 10, .inl zf))]
set_option maxRecDepth 100000 in
theorem mX6_init (l : Launch) (D : va_G) (cyI cyZ : ClassId) (sz h0 : Nat) : Met l yX6_init wsX6_init rmX6_init (kPre D cyI cyZ [.ref h0] [(h0, .inr (4, [.null, .null]))] sz) (va_Qv (fun (_ : Unit) => True) (fun _ t => kCX6 D cyI cyZ h0 (va_A [(h0, .inr (4, [.null, .null]))] sz) t) (va_A [(h0, .inr (4, [.null, .null]))] sz)) 2 350 (va_A [(h0, .inr (4, [.null, .null]))] sz) := by
  refine Met.ofW (cc := cX6_init) (maxL := 1) (ret := none) (by decide) rfl ?_
  intro p e s m args below meth c s₁ B hml hv
  obtain ⟨rfl, hsz, hP, hK, hD0, hN⟩ := hv
  have hx := B.exec
  have hb := B.bytes
  have hr := B.returns
  have hts := atoms_spec (ws := wsX6_init) B.pre
  have hown : s.vm.findClass RX6 = some m.cls := findClass_of_methodNamed B.named
  have hlocks := B.notSynchronized
  have hin : meth.name = "<init>" := (name_of_methodNamed B.named B.method).1
  subst hsz
  have hD := hD0.self (sz := s.heap.size)
  generalize hAe : va_A [(h0, .inr (4, [.null, .null]))] s.heap.size = A at hD ⊢
  have hA : ∀ q : Nat, s.heap.size ≤ q → A q := fun q h => by rw [← hAe]; exact Or.inr h
  have hS : va_S A s.heap s.heap [] := va_S.rf
  have hP : va_P D vwCl [(h0, .inr (4, [.null, .null]))] s.heap := hP
  have hl := lv_entry ([.ref h0]) (n := 1) (Nat.le_of_ble_eq_true rfl)
  rw [lg_entry_eq]
  generalize (lg_sl ([.ref h0]) ++ List.replicate (1 - (lg_sl ([.ref h0])).length) Slot.unset).toArray = ls at hl ⊢
  have hl : lv_has ls 1 [(0, .ref h0)] := hl
  refine lv_aload_n hx hb dX6_init_0 rfl (lv_at hl 0 rfl) ?_
  refine W.objInit hx hb hown (hts (.methodLink RX6 3 objectInit) (by decide +kernel)) (hts (.instanceMethod objectInit) (by decide +kernel)) (hts _ (List.mem_cons_of_mem _ (List.mem_append_left _ (List.mem_of_getElem? (i := 2) rfl)))) rfl (by rw [hml]; exact hl.1) rfl dX6_init_1 (Nat.le_of_ble_eq_true rfl) (Nat.le_of_ble_eq_true rfl) ?_
  refine W.eq (g2 := F0 m 4 ls []) rfl ?_
  refine lv_aload_n hx hb dX6_init_4 rfl (lv_at hl 0 rfl) ?_
  refine lv_sipush (v := 340) hx hb dX6_init_5 (by decide) ?_
  refine va_newa (atype := .int) (a0 := (340, .inl zf)) (N' := 340) hx hb (hts (.arrayClass .int) (by decide +kernel)) (ty := .int) rfl hK hP hD hS hA (kCellI 340) (by decide +kernel) (by decide +kernel) (by decide +kernel) (Nat.le_of_ble_eq_true rfl) (Nat.le_of_ble_eq_true rfl) dX6_init_8 (fun q8 cA H hKn hP hD hS => ?_)
  have hcA := kSameI hKn
  rw [hcA] at hP hD
  clear hKn hcA
  replace hP : va_P D vwCl [(h0, .inr (4, [.null, .null])), (q8, .inl (cyI, 340, .inl zf))] H := hP
  replace hD : va_D A [(h0, .inr (4, [.null, .null])), (q8, .inl (cyI, 340, .inl zf))] := hD
  refine W.widen (k := 1) (n := 340) (Nat.le_of_ble_eq_true rfl) (Nat.le_of_ble_eq_true rfl) ?_
  refine va_putF (D := D) (ci := 4) (v := .ref q8) (ty := .array .int) (C := RX6) (T := TX6) (N := 2) hx hb hts (by decide +kernel) tyX6 tyX6_ok nmX6 hown hK hP hD hS 0 rfl rfl 0 (by decide) (hts (.fieldLink RX6 11 "KnotDiagram$Shelf" "cells" "[I") (by decide +kernel)) (fun _ h9 => h9) rfl hin rfl (by decide +kernel) rfl rfl (Nat.le_of_ble_eq_true rfl) dX6_init_10 (fun H locs hP hD hS => ?_)
  replace hP : va_P D vwCl [(h0, .inr (4, [.ref q8, .null])), (q8, .inl (cyI, 340, .inl zf))] H := hP
  replace hD : va_D A [(h0, .inr (4, [.ref q8, .null])), (q8, .inl (cyI, 340, .inl zf))] := hD
  refine lv_aload_n hx hb dX6_init_13 rfl (lv_at hl 0 rfl) ?_
  refine lv_bipush (v := 10) hx hb dX6_init_14 (by decide) ?_
  refine va_newa (atype := .boolean) (a0 := (10, .inl zf)) (N' := 10) hx hb (hts (.arrayClass .boolean) (by decide +kernel)) (ty := .boolean) rfl hK hP hD hS hA (kCellZ 10) (by decide +kernel) (by decide +kernel) (by decide +kernel) (Nat.le_of_ble_eq_true rfl) (Nat.le_of_ble_eq_true rfl) dX6_init_16 (fun q16 cA H hKn hP hD hS => ?_)
  have hcA := kSameZ hKn
  rw [hcA] at hP hD
  clear hKn hcA
  replace hP : va_P D vwCl [(h0, .inr (4, [.ref q8, .null])), (q8, .inl (cyI, 340, .inl zf)), (q16, .inl (cyZ, 10, .inl zf))] H := hP
  replace hD : va_D A [(h0, .inr (4, [.ref q8, .null])), (q8, .inl (cyI, 340, .inl zf)), (q16, .inl (cyZ, 10, .inl zf))] := hD
  refine W.widen (k := 2) (n := 350) (Nat.le_of_ble_eq_true rfl) (Nat.le_of_ble_eq_true rfl) ?_
  refine va_putF (D := D) (ci := 4) (v := .ref q16) (ty := .array .boolean) (C := RX6) (T := TX6) (N := 2) hx hb hts (by decide +kernel) tyX6 tyX6_ok nmX6 hown hK hP hD hS 0 rfl rfl 1 (by decide) (hts (.fieldLink RX6 15 "KnotDiagram$Shelf" "filled" "[Z") (by decide +kernel)) (fun _ h9 => h9) rfl hin rfl (by decide +kernel) rfl rfl (Nat.le_of_ble_eq_true rfl) dX6_init_18 (fun H locs hP hD hS => ?_)
  replace hP : va_P D vwCl [(h0, .inr (4, [.ref q8, .ref q16])), (q8, .inl (cyI, 340, .inl zf)), (q16, .inl (cyZ, 10, .inl zf))] H := hP
  replace hD : va_D A [(h0, .inr (4, [.ref q8, .ref q16])), (q8, .inl (cyI, 340, .inl zf)), (q16, .inl (cyZ, 10, .inl zf))] := hD
  refine W.vret hx hb hr (fun t ht hW => ?_) hS.2.2 dX6_init_21
  refine ⟨⟨(), rfl, trivial, ?_⟩, hS.F ht⟩
  unfold kCX6
  refine ⟨q8, q16, ?_, va_K.moved hW.alike hK, hD⟩
  rw [ht]; exact hP
def rmX0_init : Room := { frames := 1, cells := 4, slots := 463, locals := 22 }
def kCX0 (D : va_G) (cyI cyZ : ClassId) (h0 : Nat) (A : Nat → Prop) (t : State) : Prop := ∃ q7 : Nat, ∃ q16 : Nat, ∃ q24 : Nat, ∃ q32 : Nat, va_P D vwCl [(h0, .inr (0, [.ref q7, .ref q16, .ref q24, .ref q32, .int 0])), (q7, .inl (cyI, 32, .inl zf)), (q16, .inl (cyI, 189, .inl zf)), (q24, .inl (cyI, 121, .inl zf)), (q32, .inl (cyI, 121, .inl zf))] t.heap ∧ va_K D vwCl (kTy cyI cyZ) t ∧ va_D A [(h0, .inr (0, [.ref q7, .ref q16, .ref q24, .ref q32, .int 0])), (q7, .inl (cyI, 32, .inl zf)), (q16, .inl (cyI, 189, .inl zf)), (q24, .inl (cyI, 121, .inl zf)), (q32, .inl (cyI, 121, .inl zf))]
set_option maxRecDepth 100000 in
theorem mX0_init (l : Launch) (D : va_G) (cyI cyZ : ClassId) (sz h0 : Nat) : Met l yX0_init wsX0_init rmX0_init (kPre D cyI cyZ [.ref h0] [(h0, .inr (0, [.null, .null, .null, .null, .int 0]))] sz) (va_Qv (fun (_ : Unit) => True) (fun _ t => kCX0 D cyI cyZ h0 (va_A [(h0, .inr (0, [.null, .null, .null, .null, .int 0]))] sz) t) (va_A [(h0, .inr (0, [.null, .null, .null, .null, .int 0]))] sz)) 4 463 (va_A [(h0, .inr (0, [.null, .null, .null, .null, .int 0]))] sz) := by
  refine Met.ofW (cc := cX0_init) (maxL := 1) (ret := none) (by decide) rfl ?_
  intro p e s m args below meth c s₁ B hml hv
  obtain ⟨rfl, hsz, hP, hK, hD0, hN⟩ := hv
  have hx := B.exec
  have hb := B.bytes
  have hr := B.returns
  have hts := atoms_spec (ws := wsX0_init) B.pre
  have hown : s.vm.findClass RX0 = some m.cls := findClass_of_methodNamed B.named
  have hlocks := B.notSynchronized
  have hin : meth.name = "<init>" := (name_of_methodNamed B.named B.method).1
  subst hsz
  have hD := hD0.self (sz := s.heap.size)
  generalize hAe : va_A [(h0, .inr (0, [.null, .null, .null, .null, .int 0]))] s.heap.size = A at hD ⊢
  have hA : ∀ q : Nat, s.heap.size ≤ q → A q := fun q h => by rw [← hAe]; exact Or.inr h
  have hS : va_S A s.heap s.heap [] := va_S.rf
  have hP : va_P D vwCl [(h0, .inr (0, [.null, .null, .null, .null, .int 0]))] s.heap := hP
  have hl := lv_entry ([.ref h0]) (n := 1) (Nat.le_of_ble_eq_true rfl)
  rw [lg_entry_eq]
  generalize (lg_sl ([.ref h0]) ++ List.replicate (1 - (lg_sl ([.ref h0])).length) Slot.unset).toArray = ls at hl ⊢
  have hl : lv_has ls 1 [(0, .ref h0)] := hl
  refine lv_aload_n hx hb dX0_init_0 rfl (lv_at hl 0 rfl) ?_
  refine W.objInit hx hb hown (hts (.methodLink RX0 5 objectInit) (by decide +kernel)) (hts (.instanceMethod objectInit) (by decide +kernel)) (hts _ (List.mem_cons_of_mem _ (List.mem_append_left _ (List.mem_of_getElem? (i := 2) rfl)))) rfl (by rw [hml]; exact hl.1) rfl dX0_init_1 (Nat.le_of_ble_eq_true rfl) (Nat.le_of_ble_eq_true rfl) ?_
  refine W.eq (g2 := F0 m 4 ls []) rfl ?_
  refine lv_aload_n hx hb dX0_init_4 rfl (lv_at hl 0 rfl) ?_
  refine lv_bipush (v := 32) hx hb dX0_init_5 (by decide) ?_
  refine va_newa (atype := .int) (a0 := (32, .inl zf)) (N' := 32) hx hb (hts (.arrayClass .int) (by decide +kernel)) (ty := .int) rfl hK hP hD hS hA (kCellI 32) (by decide +kernel) (by decide +kernel) (by decide +kernel) (Nat.le_of_ble_eq_true rfl) (Nat.le_of_ble_eq_true rfl) dX0_init_7 (fun q7 cA H hKn hP hD hS => ?_)
  have hcA := kSameI hKn
  rw [hcA] at hP hD
  clear hKn hcA
  replace hP : va_P D vwCl [(h0, .inr (0, [.null, .null, .null, .null, .int 0])), (q7, .inl (cyI, 32, .inl zf))] H := hP
  replace hD : va_D A [(h0, .inr (0, [.null, .null, .null, .null, .int 0])), (q7, .inl (cyI, 32, .inl zf))] := hD
  refine W.widen (k := 1) (n := 32) (Nat.le_of_ble_eq_true rfl) (Nat.le_of_ble_eq_true rfl) ?_
  refine va_putF (D := D) (ci := 0) (v := .ref q7) (ty := .array .int) (C := RX0) (T := TX0) (N := 5) hx hb hts (by decide +kernel) tyX0 tyX0_ok nmX0 hown hK hP hD hS 0 rfl rfl 0 (by decide) (hts (.fieldLink RX0 11 "KnotDiagram$Bracket" "otherEnds" "[I") (by decide +kernel)) (fun _ h9 => h9) rfl hin rfl (by decide +kernel) rfl rfl (Nat.le_of_ble_eq_true rfl) dX0_init_9 (fun H locs hP hD hS => ?_)
  replace hP : va_P D vwCl [(h0, .inr (0, [.ref q7, .null, .null, .null, .int 0])), (q7, .inl (cyI, 32, .inl zf))] H := hP
  replace hD : va_D A [(h0, .inr (0, [.ref q7, .null, .null, .null, .int 0])), (q7, .inl (cyI, 32, .inl zf))] := hD
  refine lv_aload_n hx hb dX0_init_12 rfl (lv_at hl 0 rfl) ?_
  refine lv_sipush (v := 189) hx hb dX0_init_13 (by decide) ?_
  refine va_newa (atype := .int) (a0 := (189, .inl zf)) (N' := 189) hx hb (hts (.arrayClass .int) (by decide +kernel)) (ty := .int) rfl hK hP hD hS hA (kCellI 189) (by decide +kernel) (by decide +kernel) (by decide +kernel) (Nat.le_of_ble_eq_true rfl) (Nat.le_of_ble_eq_true rfl) dX0_init_16 (fun q16 cA H hKn hP hD hS => ?_)
  have hcA := kSameI hKn
  rw [hcA] at hP hD
  clear hKn hcA
  replace hP : va_P D vwCl [(h0, .inr (0, [.ref q7, .null, .null, .null, .int 0])), (q7, .inl (cyI, 32, .inl zf)), (q16, .inl (cyI, 189, .inl zf))] H := hP
  replace hD : va_D A [(h0, .inr (0, [.ref q7, .null, .null, .null, .int 0])), (q7, .inl (cyI, 32, .inl zf)), (q16, .inl (cyI, 189, .inl zf))] := hD
  refine W.widen (k := 2) (n := 221) (Nat.le_of_ble_eq_true rfl) (Nat.le_of_ble_eq_true rfl) ?_
  refine va_putF (D := D) (ci := 0) (v := .ref q16) (ty := .array .int) (C := RX0) (T := TX0) (N := 5) hx hb hts (by decide +kernel) tyX0 tyX0_ok nmX0 hown hK hP hD hS 0 rfl rfl 1 (by decide) (hts (.fieldLink RX0 15 "KnotDiagram$Bracket" "tally" "[I") (by decide +kernel)) (fun _ h9 => h9) rfl hin rfl (by decide +kernel) rfl rfl (Nat.le_of_ble_eq_true rfl) dX0_init_18 (fun H locs hP hD hS => ?_)
  replace hP : va_P D vwCl [(h0, .inr (0, [.ref q7, .ref q16, .null, .null, .int 0])), (q7, .inl (cyI, 32, .inl zf)), (q16, .inl (cyI, 189, .inl zf))] H := hP
  replace hD : va_D A [(h0, .inr (0, [.ref q7, .ref q16, .null, .null, .int 0])), (q7, .inl (cyI, 32, .inl zf)), (q16, .inl (cyI, 189, .inl zf))] := hD
  refine lv_aload_n hx hb dX0_init_21 rfl (lv_at hl 0 rfl) ?_
  refine lv_bipush (v := 121) hx hb dX0_init_22 (by decide) ?_
  refine va_newa (atype := .int) (a0 := (121, .inl zf)) (N' := 121) hx hb (hts (.arrayClass .int) (by decide +kernel)) (ty := .int) rfl hK hP hD hS hA (kCellI 121) (by decide +kernel) (by decide +kernel) (by decide +kernel) (Nat.le_of_ble_eq_true rfl) (Nat.le_of_ble_eq_true rfl) dX0_init_24 (fun q24 cA H hKn hP hD hS => ?_)
  have hcA := kSameI hKn
  rw [hcA] at hP hD
  clear hKn hcA
  replace hP : va_P D vwCl [(h0, .inr (0, [.ref q7, .ref q16, .null, .null, .int 0])), (q7, .inl (cyI, 32, .inl zf)), (q16, .inl (cyI, 189, .inl zf)), (q24, .inl (cyI, 121, .inl zf))] H := hP
  replace hD : va_D A [(h0, .inr (0, [.ref q7, .ref q16, .null, .null, .int 0])), (q7, .inl (cyI, 32, .inl zf)), (q16, .inl (cyI, 189, .inl zf)), (q24, .inl (cyI, 121, .inl zf))] := hD
  refine W.widen (k := 3) (n := 342) (Nat.le_of_ble_eq_true rfl) (Nat.le_of_ble_eq_true rfl) ?_
  refine va_putF (D := D) (ci := 0) (v := .ref q24) (ty := .array .int) (C := RX0) (T := TX0) (N := 5) hx hb hts (by decide +kernel) tyX0 tyX0_ok nmX0 hown hK hP hD hS 0 rfl rfl 2 (by decide) (hts (.fieldLink RX0 18 "KnotDiagram$Bracket" "coefficients" "[I") (by decide +kernel)) (fun _ h9 => h9) rfl hin rfl (by decide +kernel) rfl rfl (Nat.le_of_ble_eq_true rfl) dX0_init_26 (fun H locs hP hD hS => ?_)
  replace hP : va_P D vwCl [(h0, .inr (0, [.ref q7, .ref q16, .ref q24, .null, .int 0])), (q7, .inl (cyI, 32, .inl zf)), (q16, .inl (cyI, 189, .inl zf)), (q24, .inl (cyI, 121, .inl zf))] H := hP
  replace hD : va_D A [(h0, .inr (0, [.ref q7, .ref q16, .ref q24, .null, .int 0])), (q7, .inl (cyI, 32, .inl zf)), (q16, .inl (cyI, 189, .inl zf)), (q24, .inl (cyI, 121, .inl zf))] := hD
  refine lv_aload_n hx hb dX0_init_29 rfl (lv_at hl 0 rfl) ?_
  refine lv_bipush (v := 121) hx hb dX0_init_30 (by decide) ?_
  refine va_newa (atype := .int) (a0 := (121, .inl zf)) (N' := 121) hx hb (hts (.arrayClass .int) (by decide +kernel)) (ty := .int) rfl hK hP hD hS hA (kCellI 121) (by decide +kernel) (by decide +kernel) (by decide +kernel) (Nat.le_of_ble_eq_true rfl) (Nat.le_of_ble_eq_true rfl) dX0_init_32 (fun q32 cA H hKn hP hD hS => ?_)
  have hcA := kSameI hKn
  rw [hcA] at hP hD
  clear hKn hcA
  replace hP : va_P D vwCl [(h0, .inr (0, [.ref q7, .ref q16, .ref q24, .null, .int 0])), (q7, .inl (cyI, 32, .inl zf)), (q16, .inl (cyI, 189, .inl zf)), (q24, .inl (cyI, 121, .inl zf)), (q32, .inl (cyI, 121, .inl zf))] H := hP
  replace hD : va_D A [(h0, .inr (0, [.ref q7, .ref q16, .ref q24, .null, .int 0])), (q7, .inl (cyI, 32, .inl zf)), (q16, .inl (cyI, 189, .inl zf)), (q24, .inl (cyI, 121, .inl zf)), (q32, .inl (cyI, 121, .inl zf))] := hD
  refine W.widen (k := 4) (n := 463) (Nat.le_of_ble_eq_true rfl) (Nat.le_of_ble_eq_true rfl) ?_
  refine va_putF (D := D) (ci := 0) (v := .ref q32) (ty := .array .int) (C := RX0) (T := TX0) (N := 5) hx hb hts (by decide +kernel) tyX0 tyX0_ok nmX0 hown hK hP hD hS 0 rfl rfl 3 (by decide) (hts (.fieldLink RX0 21 "KnotDiagram$Bracket" "product" "[I") (by decide +kernel)) (fun _ h9 => h9) rfl hin rfl (by decide +kernel) rfl rfl (Nat.le_of_ble_eq_true rfl) dX0_init_34 (fun H locs hP hD hS => ?_)
  replace hP : va_P D vwCl [(h0, .inr (0, [.ref q7, .ref q16, .ref q24, .ref q32, .int 0])), (q7, .inl (cyI, 32, .inl zf)), (q16, .inl (cyI, 189, .inl zf)), (q24, .inl (cyI, 121, .inl zf)), (q32, .inl (cyI, 121, .inl zf))] H := hP
  replace hD : va_D A [(h0, .inr (0, [.ref q7, .ref q16, .ref q24, .ref q32, .int 0])), (q7, .inl (cyI, 32, .inl zf)), (q16, .inl (cyI, 189, .inl zf)), (q24, .inl (cyI, 121, .inl zf)), (q32, .inl (cyI, 121, .inl zf))] := hD
  refine W.vret hx hb hr (fun t ht hW => ?_) hS.2.2 dX0_init_37
  refine ⟨⟨(), rfl, trivial, ?_⟩, hS.F ht⟩
  unfold kCX0
  refine ⟨q7, q16, q24, q32, ?_, va_K.moved hW.alike hK, hD⟩
  rw [ht]; exact hP
def rmX1_init : Room := { frames := 1, cells := 2, slots := 153, locals := 22 }
def kCX1 (D : va_G) (cyI cyZ : ClassId) (h0 : Nat) (A : Nat → Prop) (t : State) : Prop := ∃ q7 : Nat, ∃ q16 : Nat, va_P D vwCl [(h0, .inr (1, [.ref q7, .ref q16])), (q7, .inl (cyI, 17, .inl zf)), (q16, .inl (cyI, 136, .inl zf))] t.heap ∧ va_K D vwCl (kTy cyI cyZ) t ∧ va_D A [(h0, .inr (1, [.ref q7, .ref q16])), (q7, .inl (cyI, 17, .inl zf)), (q16, .inl (cyI, 136, .inl zf))]
set_option maxRecDepth 100000 in
theorem mX1_init (l : Launch) (D : va_G) (cyI cyZ : ClassId) (sz h0 : Nat) : Met l yX1_init wsX1_init rmX1_init (kPre D cyI cyZ [.ref h0] [(h0, .inr (1, [.null, .null]))] sz) (va_Qv (fun (_ : Unit) => True) (fun _ t => kCX1 D cyI cyZ h0 (va_A [(h0, .inr (1, [.null, .null]))] sz) t) (va_A [(h0, .inr (1, [.null, .null]))] sz)) 2 153 (va_A [(h0, .inr (1, [.null, .null]))] sz) := by
  refine Met.ofW (cc := cX1_init) (maxL := 1) (ret := none) (by decide) rfl ?_
  intro p e s m args below meth c s₁ B hml hv
  obtain ⟨rfl, hsz, hP, hK, hD0, hN⟩ := hv
  have hx := B.exec
  have hb := B.bytes
  have hr := B.returns
  have hts := atoms_spec (ws := wsX1_init) B.pre
  have hown : s.vm.findClass RX1 = some m.cls := findClass_of_methodNamed B.named
  have hlocks := B.notSynchronized
  have hin : meth.name = "<init>" := (name_of_methodNamed B.named B.method).1
  subst hsz
  have hD := hD0.self (sz := s.heap.size)
  generalize hAe : va_A [(h0, .inr (1, [.null, .null]))] s.heap.size = A at hD ⊢
  have hA : ∀ q : Nat, s.heap.size ≤ q → A q := fun q h => by rw [← hAe]; exact Or.inr h
  have hS : va_S A s.heap s.heap [] := va_S.rf
  have hP : va_P D vwCl [(h0, .inr (1, [.null, .null]))] s.heap := hP
  have hl := lv_entry ([.ref h0]) (n := 1) (Nat.le_of_ble_eq_true rfl)
  rw [lg_entry_eq]
  generalize (lg_sl ([.ref h0]) ++ List.replicate (1 - (lg_sl ([.ref h0])).length) Slot.unset).toArray = ls at hl ⊢
  have hl : lv_has ls 1 [(0, .ref h0)] := hl
  refine lv_aload_n hx hb dX1_init_0 rfl (lv_at hl 0 rfl) ?_
  refine W.objInit hx hb hown (hts (.methodLink RX1 5 objectInit) (by decide +kernel)) (hts (.instanceMethod objectInit) (by decide +kernel)) (hts _ (List.mem_cons_of_mem _ (List.mem_append_left _ (List.mem_of_getElem? (i := 2) rfl)))) rfl (by rw [hml]; exact hl.1) rfl dX1_init_1 (Nat.le_of_ble_eq_true rfl) (Nat.le_of_ble_eq_true rfl) ?_
  refine W.eq (g2 := F0 m 4 ls []) rfl ?_
  refine lv_aload_n hx hb dX1_init_4 rfl (lv_at hl 0 rfl) ?_
  refine lv_bipush (v := 17) hx hb dX1_init_5 (by decide) ?_
  refine va_newa (atype := .int) (a0 := (17, .inl zf)) (N' := 17) hx hb (hts (.arrayClass .int) (by decide +kernel)) (ty := .int) rfl hK hP hD hS hA (kCellI 17) (by decide +kernel) (by decide +kernel) (by decide +kernel) (Nat.le_of_ble_eq_true rfl) (Nat.le_of_ble_eq_true rfl) dX1_init_7 (fun q7 cA H hKn hP hD hS => ?_)
  have hcA := kSameI hKn
  rw [hcA] at hP hD
  clear hKn hcA
  replace hP : va_P D vwCl [(h0, .inr (1, [.null, .null])), (q7, .inl (cyI, 17, .inl zf))] H := hP
  replace hD : va_D A [(h0, .inr (1, [.null, .null])), (q7, .inl (cyI, 17, .inl zf))] := hD
  refine W.widen (k := 1) (n := 17) (Nat.le_of_ble_eq_true rfl) (Nat.le_of_ble_eq_true rfl) ?_
  refine va_putF (D := D) (ci := 1) (v := .ref q7) (ty := .array .int) (C := RX1) (T := TX1) (N := 2) hx hb hts (by decide +kernel) tyX1 tyX1_ok nmX1 hown hK hP hD hS 0 rfl rfl 0 (by decide) (hts (.fieldLink RX1 11 "KnotDiagram$Colouring" "classes" "[I") (by decide +kernel)) (fun _ h9 => h9) rfl hin rfl (by decide +kernel) rfl rfl (Nat.le_of_ble_eq_true rfl) dX1_init_9 (fun H locs hP hD hS => ?_)
  replace hP : va_P D vwCl [(h0, .inr (1, [.ref q7, .null])), (q7, .inl (cyI, 17, .inl zf))] H := hP
  replace hD : va_D A [(h0, .inr (1, [.ref q7, .null])), (q7, .inl (cyI, 17, .inl zf))] := hD
  refine lv_aload_n hx hb dX1_init_12 rfl (lv_at hl 0 rfl) ?_
  refine lv_sipush (v := 136) hx hb dX1_init_13 (by decide) ?_
  refine va_newa (atype := .int) (a0 := (136, .inl zf)) (N' := 136) hx hb (hts (.arrayClass .int) (by decide +kernel)) (ty := .int) rfl hK hP hD hS hA (kCellI 136) (by decide +kernel) (by decide +kernel) (by decide +kernel) (Nat.le_of_ble_eq_true rfl) (Nat.le_of_ble_eq_true rfl) dX1_init_16 (fun q16 cA H hKn hP hD hS => ?_)
  have hcA := kSameI hKn
  rw [hcA] at hP hD
  clear hKn hcA
  replace hP : va_P D vwCl [(h0, .inr (1, [.ref q7, .null])), (q7, .inl (cyI, 17, .inl zf)), (q16, .inl (cyI, 136, .inl zf))] H := hP
  replace hD : va_D A [(h0, .inr (1, [.ref q7, .null])), (q7, .inl (cyI, 17, .inl zf)), (q16, .inl (cyI, 136, .inl zf))] := hD
  refine W.widen (k := 2) (n := 153) (Nat.le_of_ble_eq_true rfl) (Nat.le_of_ble_eq_true rfl) ?_
  refine va_putF (D := D) (ci := 1) (v := .ref q16) (ty := .array .int) (C := RX1) (T := TX1) (N := 2) hx hb hts (by decide +kernel) tyX1 tyX1_ok nmX1 hown hK hP hD hS 0 rfl rfl 1 (by decide) (hts (.fieldLink RX1 15 "KnotDiagram$Colouring" "cells" "[I") (by decide +kernel)) (fun _ h9 => h9) rfl hin rfl (by decide +kernel) rfl rfl (Nat.le_of_ble_eq_true rfl) dX1_init_18 (fun H locs hP hD hS => ?_)
  replace hP : va_P D vwCl [(h0, .inr (1, [.ref q7, .ref q16])), (q7, .inl (cyI, 17, .inl zf)), (q16, .inl (cyI, 136, .inl zf))] H := hP
  replace hD : va_D A [(h0, .inr (1, [.ref q7, .ref q16])), (q7, .inl (cyI, 17, .inl zf)), (q16, .inl (cyI, 136, .inl zf))] := hD
  refine W.vret hx hb hr (fun t ht hW => ?_) hS.2.2 dX1_init_21
  refine ⟨⟨(), rfl, trivial, ?_⟩, hS.F ht⟩
  unfold kCX1
  refine ⟨q7, q16, ?_, va_K.moved hW.alike hK, hD⟩
  rw [ht]; exact hP
