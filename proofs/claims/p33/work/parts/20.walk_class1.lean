def kJ6_bitCount_0f7a4 (v0 : Int32) : Option (Int32) :=
  some ((((((((v0 - ((iushr v0 1) &&& 1431655765)) &&& 858993459) + ((iushr (v0 - ((iushr v0 1) &&& 1431655765)) 2) &&& 858993459)) + (iushr (((v0 - ((iushr v0 1) &&& 1431655765)) &&& 858993459) + ((iushr (v0 - ((iushr v0 1) &&& 1431655765)) 2) &&& 858993459)) 4)) &&& 252645135) + (iushr (((((v0 - ((iushr v0 1) &&& 1431655765)) &&& 858993459) + ((iushr (v0 - ((iushr v0 1) &&& 1431655765)) 2) &&& 858993459)) + (iushr (((v0 - ((iushr v0 1) &&& 1431655765)) &&& 858993459) + ((iushr (v0 - ((iushr v0 1) &&& 1431655765)) 2) &&& 858993459)) 4)) &&& 252645135) 8)) + (iushr ((((((v0 - ((iushr v0 1) &&& 1431655765)) &&& 858993459) + ((iushr (v0 - ((iushr v0 1) &&& 1431655765)) 2) &&& 858993459)) + (iushr (((v0 - ((iushr v0 1) &&& 1431655765)) &&& 858993459) + ((iushr (v0 - ((iushr v0 1) &&& 1431655765)) 2) &&& 858993459)) 4)) &&& 252645135) + (iushr (((((v0 - ((iushr v0 1) &&& 1431655765)) &&& 858993459) + ((iushr (v0 - ((iushr v0 1) &&& 1431655765)) 2) &&& 858993459)) + (iushr (((v0 - ((iushr v0 1) &&& 1431655765)) &&& 858993459) + ((iushr (v0 - ((iushr v0 1) &&& 1431655765)) 2) &&& 858993459)) 4)) &&& 252645135) 8)) 16)) &&& 63)
def rmJ6_bitCount_0f7a4 : Room := { frames := 0, cells := 0, slots := 0, locals := 0 }
theorem qJ6_bitCount_0f7a4_0 : (.constant RJ6 265 (1431655765) : Cond) ∈ wsJ6_bitCount_0f7a4 := by decide +kernel
theorem qJ6_bitCount_0f7a4_1 : (.constant RJ6 266 (858993459) : Cond) ∈ wsJ6_bitCount_0f7a4 := by decide +kernel
theorem qJ6_bitCount_0f7a4_2 : (.constant RJ6 267 (252645135) : Cond) ∈ wsJ6_bitCount_0f7a4 := by decide +kernel
set_option maxHeartbeats 4000000 in
set_option maxRecDepth 100000 in
theorem mJ6_bitCount_0f7a4 (l : Launch) (D : va_G) (cyI cyZ : ClassId) (sz : Nat) (v0 : Int32) (r : Int32) (hf : kJ6_bitCount_0f7a4 v0 = some r) : Met l yJ6_bitCount_0f7a4 wsJ6_bitCount_0f7a4 rmJ6_bitCount_0f7a4 (kPre D cyI cyZ [.int v0] [] sz) (kQi D cyI cyZ (va_A [] sz) [] r) 0 0 (va_A [] sz) := by
  refine va_MetF (cc := cJ6_bitCount_0f7a4) (maxL := 1) (ret := (some .int)) (by decide +kernel) rfl ?_
  intro p e s m args below meth c s₁ B hml hv
  obtain ⟨rfl, hsz, hP, hK, hD0, hN⟩ := hv
  have hx := B.exec
  have hb := B.bytes
  have hr := B.returns
  have hts := atoms_spec (ws := wsJ6_bitCount_0f7a4) B.pre
  have hown : s.vm.findClass RJ6 = some m.cls := findClass_of_methodNamed B.named
  have hlocks := B.notSynchronized
  subst hsz
  have hD := hD0.self (sz := s.heap.size)
  generalize hAe : va_A [] s.heap.size = A at hD ⊢
  have hA : ∀ q : Nat, s.heap.size ≤ q → A q := fun q h => by rw [← hAe]; exact Or.inr h
  clear hAe hD0
  have hS : va_S A s.heap s.heap [] := va_S.rf
  have S : CallFix p m c cJ6_bitCount_0f7a4 1 s (([.int v0] : List Value).toArray) wsJ6_bitCount_0f7a4 RJ6 := ⟨hx, hb, hml, hown, hts⟩
  have hl := lv_entry ([.int v0]) (n := 1) (Nat.le_of_ble_eq_true rfl)
  rw [lg_entry_eq]
  generalize (lg_sl ([.int v0]) ++ List.replicate (1 - (lg_sl ([.int v0])).length) Slot.unset).toArray = ls at hl ⊢
  replace hl : lv_has ls 1 [(0, .int v0)] := hl
  generalize ([] : List Loc) = locs at hS ⊢
  delta kJ6_bitCount_0f7a4 at hf
  obtain ⟨H, hH⟩ : ∃ H, H = s.heap := ⟨_, rfl⟩
  have hS : va_S A s.heap H locs := by rw [hH]; exact hS
  have hP : va_P D vwCl [] H := by rw [hH]; exact hP
  suffices hgo : W p l e (headSpec wsJ6_bitCount_0f7a4 rmJ6_bitCount_0f7a4).room s m (([.int v0] : List Value).toArray) below meth c H locs 0 0 (MQ below (kQi D cyI cyZ A [] r) (([.int v0] : List Value).toArray) s 0 0 A) (F0 m 0 ls []) by rw [hH] at hgo; exact hgo
  clear hH
  refine lv_iload_n hx hb dJ6_bitCount_0f7a4_0 rfl (lv_at hl 0 rfl) ?_
  refine lv_iload_n hx hb dJ6_bitCount_0f7a4_1 rfl (lv_at hl 0 rfl) ?_
  refine lv_iconst (v := 1) hx hb dJ6_bitCount_0f7a4_2 (by decide) ?_
  refine k_iushr hx hb dJ6_bitCount_0f7a4_3 ?_
  refine lv_ldcw (v := 1431655765) hx hb hown (hts (.constant RJ6 265 (1431655765)) qJ6_bitCount_0f7a4_0) dJ6_bitCount_0f7a4_4 ?_
  refine lv_iand hx hb dJ6_bitCount_0f7a4_7 ?_
  refine lv_isub hx hb dJ6_bitCount_0f7a4_8 ?_
  refine lv_istore_n (lv' := [(0, .int (v0 - ((iushr v0 1) &&& 1431655765)))]) hx hb dJ6_bitCount_0f7a4_9 rfl hl (by decide) rfl (fun ls hl => ?_)
  refine lv_iload_n hx hb dJ6_bitCount_0f7a4_10 rfl (lv_at hl 0 rfl) ?_
  refine lv_ldcw (v := 858993459) hx hb hown (hts (.constant RJ6 266 (858993459)) qJ6_bitCount_0f7a4_1) dJ6_bitCount_0f7a4_11 ?_
  refine lv_iand hx hb dJ6_bitCount_0f7a4_14 ?_
  refine lv_iload_n hx hb dJ6_bitCount_0f7a4_15 rfl (lv_at hl 0 rfl) ?_
  refine lv_iconst (v := 2) hx hb dJ6_bitCount_0f7a4_16 (by decide) ?_
  refine k_iushr hx hb dJ6_bitCount_0f7a4_17 ?_
  refine lv_ldcw (v := 858993459) hx hb hown (hts (.constant RJ6 266 (858993459)) qJ6_bitCount_0f7a4_1) dJ6_bitCount_0f7a4_18 ?_
  refine lv_iand hx hb dJ6_bitCount_0f7a4_21 ?_
  refine lv_iadd hx hb dJ6_bitCount_0f7a4_22 ?_
  refine lv_istore_n (lv' := [(0, .int (((v0 - ((iushr v0 1) &&& 1431655765)) &&& 858993459) + ((iushr (v0 - ((iushr v0 1) &&& 1431655765)) 2) &&& 858993459)))]) hx hb dJ6_bitCount_0f7a4_23 rfl hl (by decide) rfl (fun ls hl => ?_)
  refine lv_iload_n hx hb dJ6_bitCount_0f7a4_24 rfl (lv_at hl 0 rfl) ?_
  refine lv_iload_n hx hb dJ6_bitCount_0f7a4_25 rfl (lv_at hl 0 rfl) ?_
  refine lv_iconst (v := 4) hx hb dJ6_bitCount_0f7a4_26 (by decide) ?_
  refine k_iushr hx hb dJ6_bitCount_0f7a4_27 ?_
  refine lv_iadd hx hb dJ6_bitCount_0f7a4_28 ?_
  refine lv_ldcw (v := 252645135) hx hb hown (hts (.constant RJ6 267 (252645135)) qJ6_bitCount_0f7a4_2) dJ6_bitCount_0f7a4_29 ?_
  refine lv_iand hx hb dJ6_bitCount_0f7a4_32 ?_
  refine lv_istore_n (lv' := [(0, .int (((((v0 - ((iushr v0 1) &&& 1431655765)) &&& 858993459) + ((iushr (v0 - ((iushr v0 1) &&& 1431655765)) 2) &&& 858993459)) + (iushr (((v0 - ((iushr v0 1) &&& 1431655765)) &&& 858993459) + ((iushr (v0 - ((iushr v0 1) &&& 1431655765)) 2) &&& 858993459)) 4)) &&& 252645135))]) hx hb dJ6_bitCount_0f7a4_33 rfl hl (by decide) rfl (fun ls hl => ?_)
  refine lv_iload_n hx hb dJ6_bitCount_0f7a4_34 rfl (lv_at hl 0 rfl) ?_
  refine lv_iload_n hx hb dJ6_bitCount_0f7a4_35 rfl (lv_at hl 0 rfl) ?_
  refine lv_bipush (v := 8) hx hb dJ6_bitCount_0f7a4_36 (by decide) ?_
  refine k_iushr hx hb dJ6_bitCount_0f7a4_38 ?_
  refine lv_iadd hx hb dJ6_bitCount_0f7a4_39 ?_
  refine lv_istore_n (lv' := [(0, .int ((((((v0 - ((iushr v0 1) &&& 1431655765)) &&& 858993459) + ((iushr (v0 - ((iushr v0 1) &&& 1431655765)) 2) &&& 858993459)) + (iushr (((v0 - ((iushr v0 1) &&& 1431655765)) &&& 858993459) + ((iushr (v0 - ((iushr v0 1) &&& 1431655765)) 2) &&& 858993459)) 4)) &&& 252645135) + (iushr (((((v0 - ((iushr v0 1) &&& 1431655765)) &&& 858993459) + ((iushr (v0 - ((iushr v0 1) &&& 1431655765)) 2) &&& 858993459)) + (iushr (((v0 - ((iushr v0 1) &&& 1431655765)) &&& 858993459) + ((iushr (v0 - ((iushr v0 1) &&& 1431655765)) 2) &&& 858993459)) 4)) &&& 252645135) 8)))]) hx hb dJ6_bitCount_0f7a4_40 rfl hl (by decide) rfl (fun ls hl => ?_)
  refine lv_iload_n hx hb dJ6_bitCount_0f7a4_41 rfl (lv_at hl 0 rfl) ?_
  refine lv_iload_n hx hb dJ6_bitCount_0f7a4_42 rfl (lv_at hl 0 rfl) ?_
  refine lv_bipush (v := 16) hx hb dJ6_bitCount_0f7a4_43 (by decide) ?_
  refine k_iushr hx hb dJ6_bitCount_0f7a4_45 ?_
  refine lv_iadd hx hb dJ6_bitCount_0f7a4_46 ?_
  refine lv_istore_n (lv' := [(0, .int (((((((v0 - ((iushr v0 1) &&& 1431655765)) &&& 858993459) + ((iushr (v0 - ((iushr v0 1) &&& 1431655765)) 2) &&& 858993459)) + (iushr (((v0 - ((iushr v0 1) &&& 1431655765)) &&& 858993459) + ((iushr (v0 - ((iushr v0 1) &&& 1431655765)) 2) &&& 858993459)) 4)) &&& 252645135) + (iushr (((((v0 - ((iushr v0 1) &&& 1431655765)) &&& 858993459) + ((iushr (v0 - ((iushr v0 1) &&& 1431655765)) 2) &&& 858993459)) + (iushr (((v0 - ((iushr v0 1) &&& 1431655765)) &&& 858993459) + ((iushr (v0 - ((iushr v0 1) &&& 1431655765)) 2) &&& 858993459)) 4)) &&& 252645135) 8)) + (iushr ((((((v0 - ((iushr v0 1) &&& 1431655765)) &&& 858993459) + ((iushr (v0 - ((iushr v0 1) &&& 1431655765)) 2) &&& 858993459)) + (iushr (((v0 - ((iushr v0 1) &&& 1431655765)) &&& 858993459) + ((iushr (v0 - ((iushr v0 1) &&& 1431655765)) 2) &&& 858993459)) 4)) &&& 252645135) + (iushr (((((v0 - ((iushr v0 1) &&& 1431655765)) &&& 858993459) + ((iushr (v0 - ((iushr v0 1) &&& 1431655765)) 2) &&& 858993459)) + (iushr (((v0 - ((iushr v0 1) &&& 1431655765)) &&& 858993459) + ((iushr (v0 - ((iushr v0 1) &&& 1431655765)) 2) &&& 858993459)) 4)) &&& 252645135) 8)) 16)))]) hx hb dJ6_bitCount_0f7a4_47 rfl hl (by decide) rfl (fun ls hl => ?_)
  refine lv_iload_n hx hb dJ6_bitCount_0f7a4_48 rfl (lv_at hl 0 rfl) ?_
  refine lv_bipush (v := 63) hx hb dJ6_bitCount_0f7a4_49 (by decide) ?_
  refine lv_iand hx hb dJ6_bitCount_0f7a4_51 ?_
  obtain rfl := some1_s hf
  exact kRi hx hb hr hlocks hP hK hD hS rfl dJ6_bitCount_0f7a4_52
def kJ9_floorMod_7cf53 (v0 : Int32) (v1 : Int32) : Option (Int32) :=
  cz v1 (if 0 ≤ (v0 ^^^ v1) then some (irem v0 v1) else if (irem v0 v1) = 0 then some (irem v0 v1) else some ((irem v0 v1) + v1))
def rmJ9_floorMod_7cf53 : Room := { frames := 0, cells := 0, slots := 0, locals := 0 }
set_option maxHeartbeats 4000000 in
set_option maxRecDepth 100000 in
theorem mJ9_floorMod_7cf53 (l : Launch) (D : va_G) (cyI cyZ : ClassId) (sz : Nat) (v0 : Int32) (v1 : Int32) (r : Int32) (hf : kJ9_floorMod_7cf53 v0 v1 = some r) : Met l yJ9_floorMod_7cf53 wsJ9_floorMod_7cf53 rmJ9_floorMod_7cf53 (kPre D cyI cyZ [.int v0, .int v1] [] sz) (kQi D cyI cyZ (va_A [] sz) [] r) 0 0 (va_A [] sz) := by
  refine va_MetF (cc := cJ9_floorMod_7cf53) (maxL := 3) (ret := (some .int)) (by decide +kernel) rfl ?_
  intro p e s m args below meth c s₁ B hml hv
  obtain ⟨rfl, hsz, hP, hK, hD0, hN⟩ := hv
  have hx := B.exec
  have hb := B.bytes
  have hr := B.returns
  have hts := atoms_spec (ws := wsJ9_floorMod_7cf53) B.pre
  have hown : s.vm.findClass RJ9 = some m.cls := findClass_of_methodNamed B.named
  have hlocks := B.notSynchronized
  subst hsz
  have hD := hD0.self (sz := s.heap.size)
  generalize hAe : va_A [] s.heap.size = A at hD ⊢
  have hA : ∀ q : Nat, s.heap.size ≤ q → A q := fun q h => by rw [← hAe]; exact Or.inr h
  clear hAe hD0
  have hS : va_S A s.heap s.heap [] := va_S.rf
  have S : CallFix p m c cJ9_floorMod_7cf53 3 s (([.int v0, .int v1] : List Value).toArray) wsJ9_floorMod_7cf53 RJ9 := ⟨hx, hb, hml, hown, hts⟩
  have hl := lv_entry ([.int v0, .int v1]) (n := 3) (Nat.le_of_ble_eq_true rfl)
  rw [lg_entry_eq]
  generalize (lg_sl ([.int v0, .int v1]) ++ List.replicate (3 - (lg_sl ([.int v0, .int v1])).length) Slot.unset).toArray = ls at hl ⊢
  replace hl : lv_has ls 3 [(0, .int v0), (1, .int v1)] := hl
  generalize ([] : List Loc) = locs at hS ⊢
  delta kJ9_floorMod_7cf53 at hf
  obtain ⟨H, hH⟩ : ∃ H, H = s.heap := ⟨_, rfl⟩
  have hS : va_S A s.heap H locs := by rw [hH]; exact hS
  have hP : va_P D vwCl [] H := by rw [hH]; exact hP
  suffices hgo : W p l e (headSpec wsJ9_floorMod_7cf53 rmJ9_floorMod_7cf53).room s m (([.int v0, .int v1] : List Value).toArray) below meth c H locs 0 0 (MQ below (kQi D cyI cyZ A [] r) (([.int v0, .int v1] : List Value).toArray) s 0 0 A) (F0 m 0 ls []) by rw [hH] at hgo; exact hgo
  clear hH
  refine lv_iload_n hx hb dJ9_floorMod_7cf53_0 rfl (lv_at hl 0 rfl) ?_
  refine lv_iload_n hx hb dJ9_floorMod_7cf53_1 rfl (lv_at hl 1 rfl) ?_
  obtain ⟨hz_1, hf⟩ := cz_s hf
  refine k_irem hx hb dJ9_floorMod_7cf53_2 hz_1 ?_
  refine lv_istore_n (lv' := [(2, .int (irem v0 v1)), (0, .int v0), (1, .int v1)]) hx hb dJ9_floorMod_7cf53_3 rfl hl (by decide) rfl (fun ls hl => ?_)
  refine lv_iload_n hx hb dJ9_floorMod_7cf53_4 rfl (lv_at hl 1 rfl) ?_
  refine lv_iload_n hx hb dJ9_floorMod_7cf53_5 rfl (lv_at hl 2 rfl) ?_
  refine lv_ixor hx hb dJ9_floorMod_7cf53_6 ?_
  refine lv_if_ge (tgt := 18) hx hb dJ9_floorMod_7cf53_7 (by decide) (fun c_3 => ?_) (fun c_3 => ?_)
  · replace hf := kt_p hf c_3
    refine lv_iload_n hx hb dJ9_floorMod_7cf53_18 rfl (lv_at hl 0 rfl) ?_
    obtain rfl := some1_s hf
    exact kRi hx hb hr hlocks hP hK hD hS rfl dJ9_floorMod_7cf53_19
  · replace hf := kt_n hf c_3
    refine lv_iload_n hx hb dJ9_floorMod_7cf53_10 rfl (lv_at hl 0 rfl) ?_
    refine lv_if_eq (tgt := 18) hx hb dJ9_floorMod_7cf53_11 (by decide) (fun c_2 => ?_) (fun c_2 => ?_)
    · replace hf := kt_p hf c_2
      refine lv_iload_n hx hb dJ9_floorMod_7cf53_18 rfl (lv_at hl 0 rfl) ?_
      obtain rfl := some1_s hf
      exact kRi hx hb hr hlocks hP hK hD hS rfl dJ9_floorMod_7cf53_19
    · replace hf := kt_n hf c_2
      refine lv_iload_n hx hb dJ9_floorMod_7cf53_14 rfl (lv_at hl 0 rfl) ?_
      refine lv_iload_n hx hb dJ9_floorMod_7cf53_15 rfl (lv_at hl 2 rfl) ?_
      refine lv_iadd hx hb dJ9_floorMod_7cf53_16 ?_
      obtain rfl := some1_s hf
      exact kRi hx hb hr hlocks hP hK hD hS rfl dJ9_floorMod_7cf53_17
def kX0_forget (i_prepared : Int32) : Option (Int32) :=
  some 0
def rmX0_forget : Room := { frames := 0, cells := 0, slots := 0, locals := 0 }
theorem qX0_forget_0 : (.fieldLink RX0 24 "KnotDiagram$Bracket" "prepared" "Z" : Cond) ∈ wsX0_forget := by decide +kernel
theorem qX0_forget_X0 : ∀ w ∈ wsX00, w ∈ wsX0_forget := by decide +kernel
set_option maxHeartbeats 4000000 in
set_option maxRecDepth 100000 in
theorem mX0_forget (l : Launch) (D : va_G) (cyI cyZ : ClassId) (sz : Nat) (a_this a_otherEnds a_tally a_coefficients a_product : Nat) (i_prepared : Int32) (o_prepared : Int32) (hf : kX0_forget i_prepared = some o_prepared) : Met l yX0_forget wsX0_forget rmX0_forget (kPre D cyI cyZ [.ref a_this] [(a_this, .inr (0, [.ref a_otherEnds, .ref a_tally, .ref a_coefficients, .ref a_product, .int i_prepared]))] sz) (kQv D cyI cyZ (va_A [(a_this, .inr (0, [.ref a_otherEnds, .ref a_tally, .ref a_coefficients, .ref a_product, .int i_prepared]))] sz) [(a_this, .inr (0, [.ref a_otherEnds, .ref a_tally, .ref a_coefficients, .ref a_product, .int o_prepared]))]) 0 0 (va_A [(a_this, .inr (0, [.ref a_otherEnds, .ref a_tally, .ref a_coefficients, .ref a_product, .int i_prepared]))] sz) := by
  refine Met.ofW (cc := cX0_forget) (maxL := 1) (ret := none) (by decide) rfl ?_
  intro p e s m args below meth c s₁ B hml hv
  obtain ⟨rfl, hsz, hP, hK, hD0, hN⟩ := hv
  have hx := B.exec
  have hb := B.bytes
  have hr := B.returns
  have hts := atoms_spec (ws := wsX0_forget) B.pre
  have hown : s.vm.findClass RX0 = some m.cls := findClass_of_methodNamed B.named
  have hlocks := B.notSynchronized
  subst hsz
  have hD := hD0.self (sz := s.heap.size)
  generalize hAe : va_A [(a_this, .inr (0, [.ref a_otherEnds, .ref a_tally, .ref a_coefficients, .ref a_product, .int i_prepared]))] s.heap.size = A at hD ⊢
  have hA : ∀ q : Nat, s.heap.size ≤ q → A q := fun q h => by rw [← hAe]; exact Or.inr h
  clear hAe hD0
  have hS : va_S A s.heap s.heap [] := va_S.rf
  have S : CallFix p m c cX0_forget 1 s (([.ref a_this] : List Value).toArray) wsX0_forget RX0 := ⟨hx, hb, hml, hown, hts⟩
  have hl := lv_entry ([.ref a_this]) (n := 1) (Nat.le_of_ble_eq_true rfl)
  rw [lg_entry_eq]
  generalize (lg_sl ([.ref a_this]) ++ List.replicate (1 - (lg_sl ([.ref a_this])).length) Slot.unset).toArray = ls at hl ⊢
  replace hl : lv_has ls 1 [(0, .ref a_this)] := hl
  generalize ([] : List Loc) = locs at hS ⊢
  delta kX0_forget at hf
  obtain ⟨H, hH⟩ : ∃ H, H = s.heap := ⟨_, rfl⟩
  have hS : va_S A s.heap H locs := by rw [hH]; exact hS
  have hP : va_P D vwCl [(a_this, .inr (0, [.ref a_otherEnds, .ref a_tally, .ref a_coefficients, .ref a_product, .int i_prepared]))] H := by rw [hH]; exact hP
  suffices hgo : W p l e (headSpec wsX0_forget rmX0_forget).room s m (([.ref a_this] : List Value).toArray) below meth c H locs 0 0 (MQ below (kQv D cyI cyZ A [(a_this, .inr (0, [.ref a_otherEnds, .ref a_tally, .ref a_coefficients, .ref a_product, .int o_prepared]))]) (([.ref a_this] : List Value).toArray) s 0 0 A) (F0 m 0 ls []) by rw [hH] at hgo; exact hgo
  clear hH
  refine lv_aload_n hx hb dX0_forget_0 rfl (lv_at hl 0 rfl) ?_
  refine lv_iconst (v := 0) hx hb dX0_forget_1 (by decide) ?_
  refine va_put (D := D) (ci := 0) (v := .int 0) (ty := .boolean) (C := RX0) (T := TX0) (N := 5) hx hb hts qX0_forget_X0 tyX0 tyX0_ok nmX0 hown hK hP hD hS 0 rfl rfl 4 (Nat.le_of_ble_eq_true rfl) (hts (.fieldLink RX0 24 "KnotDiagram$Bracket" "prepared" "Z") qX0_forget_0) (fun _ h9 => h9) rfl (by decide +kernel) rfl rfl (Nat.le_of_ble_eq_true rfl) dX0_forget_2 (fun H locs hP hD hS => ?_)
  replace hP : va_P D vwCl [(a_this, .inr (0, [.ref a_otherEnds, .ref a_tally, .ref a_coefficients, .ref a_product, .int 0]))] H := hP
  replace hD : va_D A [(a_this, .inr (0, [.ref a_otherEnds, .ref a_tally, .ref a_coefficients, .ref a_product, .int 0]))] := hD
  obtain rfl := some1_s hf
  exact kRv hx hb hr hlocks hP hK hD hS dX0_forget_5
def kX0_at_J1   : Option (Int32) :=
  some 0
def kX0_at (v1 : Int32) (f_coefficients : Nat → Int32) : Option (Int32) :=
  if (v1 + 60) < 0 then kX0_at_J1 else if 121 ≤ (v1 + 60) then kX0_at_J1 else ck (v1 + 60) 121 (some (f_coefficients (v1 + 60).toNatClampNeg))
def rmX0_at : Room := { frames := 0, cells := 0, slots := 0, locals := 0 }
theorem qX0_at_0 : (.fieldLink RX0 18 "KnotDiagram$Bracket" "coefficients" "[I" : Cond) ∈ wsX0_at := by decide +kernel
theorem qX0_at_X0 : ∀ w ∈ wsX00, w ∈ wsX0_at := by decide +kernel
set_option maxHeartbeats 4000000 in
set_option maxRecDepth 100000 in
theorem mX0_at (l : Launch) (D : va_G) (cyI cyZ : ClassId) (sz : Nat) (a_this a_otherEnds a_tally a_coefficients a_product : Nat) (v1 : Int32) (i_prepared : Int32) (f_coefficients : Nat → Int32) (r : Int32) (hf : kX0_at v1 f_coefficients = some r) : Met l yX0_at wsX0_at rmX0_at (kPre D cyI cyZ [.ref a_this, .int v1] [(a_this, .inr (0, [.ref a_otherEnds, .ref a_tally, .ref a_coefficients, .ref a_product, .int i_prepared])), (a_coefficients, .inl (cyI, 121, .inl f_coefficients))] sz) (kQi D cyI cyZ (va_A [(a_this, .inr (0, [.ref a_otherEnds, .ref a_tally, .ref a_coefficients, .ref a_product, .int i_prepared])), (a_coefficients, .inl (cyI, 121, .inl f_coefficients))] sz) [(a_this, .inr (0, [.ref a_otherEnds, .ref a_tally, .ref a_coefficients, .ref a_product, .int i_prepared])), (a_coefficients, .inl (cyI, 121, .inl f_coefficients))] r) 0 0 (va_A [(a_this, .inr (0, [.ref a_otherEnds, .ref a_tally, .ref a_coefficients, .ref a_product, .int i_prepared])), (a_coefficients, .inl (cyI, 121, .inl f_coefficients))] sz) := by
  refine Met.ofW (cc := cX0_at) (maxL := 3) (ret := (some .int)) (by decide) rfl ?_
  intro p e s m args below meth c s₁ B hml hv
  obtain ⟨rfl, hsz, hP, hK, hD0, hN⟩ := hv
  have hx := B.exec
  have hb := B.bytes
  have hr := B.returns
  have hts := atoms_spec (ws := wsX0_at) B.pre
  have hown : s.vm.findClass RX0 = some m.cls := findClass_of_methodNamed B.named
  have hlocks := B.notSynchronized
  subst hsz
  have hD := hD0.self (sz := s.heap.size)
  generalize hAe : va_A [(a_this, .inr (0, [.ref a_otherEnds, .ref a_tally, .ref a_coefficients, .ref a_product, .int i_prepared])), (a_coefficients, .inl (cyI, 121, .inl f_coefficients))] s.heap.size = A at hD ⊢
  have hA : ∀ q : Nat, s.heap.size ≤ q → A q := fun q h => by rw [← hAe]; exact Or.inr h
  clear hAe hD0
  have hS : va_S A s.heap s.heap [] := va_S.rf
  have S : CallFix p m c cX0_at 3 s (([.ref a_this, .int v1] : List Value).toArray) wsX0_at RX0 := ⟨hx, hb, hml, hown, hts⟩
  have hl := lv_entry ([.ref a_this, .int v1]) (n := 3) (Nat.le_of_ble_eq_true rfl)
  rw [lg_entry_eq]
  generalize (lg_sl ([.ref a_this, .int v1]) ++ List.replicate (3 - (lg_sl ([.ref a_this, .int v1])).length) Slot.unset).toArray = ls at hl ⊢
  replace hl : lv_has ls 3 [(0, .ref a_this), (1, .int v1)] := hl
  generalize ([] : List Loc) = locs at hS ⊢
  delta kX0_at at hf
  obtain ⟨H, hH⟩ : ∃ H, H = s.heap := ⟨_, rfl⟩
  have hS : va_S A s.heap H locs := by rw [hH]; exact hS
  have hP : va_P D vwCl [(a_this, .inr (0, [.ref a_otherEnds, .ref a_tally, .ref a_coefficients, .ref a_product, .int i_prepared])), (a_coefficients, .inl (cyI, 121, .inl f_coefficients))] H := by rw [hH]; exact hP
  suffices hgo : W p l e (headSpec wsX0_at rmX0_at).room s m (([.ref a_this, .int v1] : List Value).toArray) below meth c H locs 0 0 (MQ below (kQi D cyI cyZ A [(a_this, .inr (0, [.ref a_otherEnds, .ref a_tally, .ref a_coefficients, .ref a_product, .int i_prepared])), (a_coefficients, .inl (cyI, 121, .inl f_coefficients))] r) (([.ref a_this, .int v1] : List Value).toArray) s 0 0 A) (F0 m 0 ls []) by rw [hH] at hgo; exact hgo
  clear hH
  refine lv_iload_n hx hb dX0_at_0 rfl (lv_at hl 1 rfl) ?_
  refine lv_bipush (v := 60) hx hb dX0_at_1 (by decide) ?_
  refine lv_iadd hx hb dX0_at_3 ?_
  refine lv_istore_n (lv' := [(2, .int (v1 + 60)), (0, .ref a_this), (1, .int v1)]) hx hb dX0_at_4 rfl hl (by decide) rfl (fun ls hl => ?_)
  refine lv_iload_n hx hb dX0_at_5 rfl (lv_at hl 0 rfl) ?_
  have hJ_1 : ∀  (H : Heap) (locs : List Loc) (ls : Array Slot), kX0_at_J1  = some r → va_P D vwCl [(a_this, .inr (0, [.ref a_otherEnds, .ref a_tally, .ref a_coefficients, .ref a_product, .int i_prepared])), (a_coefficients, .inl (cyI, 121, .inl f_coefficients))] H → va_D A [(a_this, .inr (0, [.ref a_otherEnds, .ref a_tally, .ref a_coefficients, .ref a_product, .int i_prepared])), (a_coefficients, .inl (cyI, 121, .inl f_coefficients))] → va_S A s.heap H locs → lv_has ls 3 [] → W p l e (headSpec wsX0_at rmX0_at).room s m (([.ref a_this, .int v1] : List Value).toArray) below meth c H locs 0 0 (MQ below (kQi D cyI cyZ A [(a_this, .inr (0, [.ref a_otherEnds, .ref a_tally, .ref a_coefficients, .ref a_product, .int i_prepared])), (a_coefficients, .inl (cyI, 121, .inl f_coefficients))] r) (([.ref a_this, .int v1] : List Value).toArray) s 0 0 A) (F0 m 24 ls []) := by
    intro  H locs ls hf hP hD hS hl
    delta kX0_at_J1 at hf
    refine lv_iconst (v := 0) hx hb dX0_at_24 (by decide) ?_
    obtain rfl := some1_s hf
    exact kRi hx hb hr hlocks hP hK hD hS rfl dX0_at_25
  refine lv_if_lt (tgt := 24) hx hb dX0_at_6 (by decide) (fun c_3 => ?_) (fun c_3 => ?_)
  · replace hf := kt_p hf c_3
    exact hJ_1 H locs ls hf hP hD hS (lv_sub hl [] rfl)
  · replace hf := kt_n hf c_3
    refine lv_iload_n hx hb dX0_at_9 rfl (lv_at hl 0 rfl) ?_
    refine lv_bipush (v := 121) hx hb dX0_at_10 (by decide) ?_
    refine lv_icmp_ge (tgt := 24) hx hb dX0_at_12 (by decide) (fun c_2 => ?_) (fun c_2 => ?_)
    · replace hf := kt_p hf c_2
      exact hJ_1 H locs ls hf hP hD hS (lv_sub hl [] rfl)
    · replace hf := kt_n hf c_2
      refine lv_aload_n hx hb dX0_at_15 rfl (lv_at hl 1 rfl) ?_
      refine va_get (D := D) (ci := 0) (v := .ref a_coefficients) (C := RX0) (T := TX0) (N := 5) hx hb hts qX0_at_X0 hown hK hP 0 rfl rfl 2 (Nat.le_of_ble_eq_true rfl) (hts (.fieldLink RX0 18 "KnotDiagram$Bracket" "coefficients" "[I") qX0_at_0) (fun _ h9 => h9) rfl dX0_at_16 ?_
      refine lv_iload_n hx hb dX0_at_19 rfl (lv_at hl 0 rfl) ?_
      obtain ⟨hi_1, hf⟩ := ck_s hf
      refine va_iald hx hb hK hP 1 0 rfl rfl hi_1 dX0_at_20 ?_
      refine lv_goto (tgt := 25) hx hb dX0_at_21 (by decide) ?_
      obtain rfl := some1_s hf
      exact kRi hx hb hr hlocks hP hK hD hS rfl dX0_at_25
def kX0_lowest_L1 (f_coefficients : Nat → Int32) (K_1 : Int32 → Option (Int32)) (v1_1 : Int32) : Option (Int32) :=
  if 60 < v1_1 then some (-1000009) else bnd1 (kX0_at v1_1 f_coefficients) (fun r_1 => if r_1 = 0 then K_1 (v1_1 + 1) else some v1_1)
def kX0_lowest (f_coefficients : Nat → Int32) : Option (Int32) :=
  it1 (kX0_lowest_L1 f_coefficients) 400 (-60)
def rmX0_lowest : Room := { frames := 1, cells := 0, slots := 0, locals := 22 }
theorem qX0_lowest_0 : (.constant RX0 32 (-1000009) : Cond) ∈ wsX0_lowest := by decide +kernel
set_option maxHeartbeats 4000000 in
set_option maxRecDepth 100000 in
theorem mX0_lowest (l : Launch) (D : va_G) (cyI cyZ : ClassId) (sz : Nat) (a_this a_otherEnds a_tally a_coefficients a_product : Nat) (i_prepared : Int32) (f_coefficients : Nat → Int32) (r : Int32) (hf : kX0_lowest f_coefficients = some r) : Met l yX0_lowest wsX0_lowest rmX0_lowest (kPre D cyI cyZ [.ref a_this] [(a_this, .inr (0, [.ref a_otherEnds, .ref a_tally, .ref a_coefficients, .ref a_product, .int i_prepared])), (a_coefficients, .inl (cyI, 121, .inl f_coefficients))] sz) (kQi D cyI cyZ (va_A [(a_this, .inr (0, [.ref a_otherEnds, .ref a_tally, .ref a_coefficients, .ref a_product, .int i_prepared])), (a_coefficients, .inl (cyI, 121, .inl f_coefficients))] sz) [(a_this, .inr (0, [.ref a_otherEnds, .ref a_tally, .ref a_coefficients, .ref a_product, .int i_prepared])), (a_coefficients, .inl (cyI, 121, .inl f_coefficients))] r) 0 0 (va_A [(a_this, .inr (0, [.ref a_otherEnds, .ref a_tally, .ref a_coefficients, .ref a_product, .int i_prepared])), (a_coefficients, .inl (cyI, 121, .inl f_coefficients))] sz) := by
  refine Met.ofW (cc := cX0_lowest) (maxL := 2) (ret := (some .int)) (by decide) rfl ?_
  intro p e s m args below meth c s₁ B hml hv
  obtain ⟨rfl, hsz, hP, hK, hD0, hN⟩ := hv
  have hx := B.exec
  have hb := B.bytes
  have hr := B.returns
  have hts := atoms_spec (ws := wsX0_lowest) B.pre
  have hown : s.vm.findClass RX0 = some m.cls := findClass_of_methodNamed B.named
  have hlocks := B.notSynchronized
  subst hsz
  have hD := hD0.self (sz := s.heap.size)
  generalize hAe : va_A [(a_this, .inr (0, [.ref a_otherEnds, .ref a_tally, .ref a_coefficients, .ref a_product, .int i_prepared])), (a_coefficients, .inl (cyI, 121, .inl f_coefficients))] s.heap.size = A at hD ⊢
  have hA : ∀ q : Nat, s.heap.size ≤ q → A q := fun q h => by rw [← hAe]; exact Or.inr h
  clear hAe hD0
  have hS : va_S A s.heap s.heap [] := va_S.rf
  have S : CallFix p m c cX0_lowest 2 s (([.ref a_this] : List Value).toArray) wsX0_lowest RX0 := ⟨hx, hb, hml, hown, hts⟩
  have hl := lv_entry ([.ref a_this]) (n := 2) (Nat.le_of_ble_eq_true rfl)
  rw [lg_entry_eq]
  generalize (lg_sl ([.ref a_this]) ++ List.replicate (2 - (lg_sl ([.ref a_this])).length) Slot.unset).toArray = ls at hl ⊢
  replace hl : lv_has ls 2 [(0, .ref a_this)] := hl
  generalize ([] : List Loc) = locs at hS ⊢
  delta kX0_lowest at hf
  obtain ⟨H, hH⟩ : ∃ H, H = s.heap := ⟨_, rfl⟩
  have hS : va_S A s.heap H locs := by rw [hH]; exact hS
  have hP : va_P D vwCl [(a_this, .inr (0, [.ref a_otherEnds, .ref a_tally, .ref a_coefficients, .ref a_product, .int i_prepared])), (a_coefficients, .inl (cyI, 121, .inl f_coefficients))] H := by rw [hH]; exact hP
  suffices hgo : W p l e (headSpec wsX0_lowest rmX0_lowest).room s m (([.ref a_this] : List Value).toArray) below meth c H locs 0 0 (MQ below (kQi D cyI cyZ A [(a_this, .inr (0, [.ref a_otherEnds, .ref a_tally, .ref a_coefficients, .ref a_product, .int i_prepared])), (a_coefficients, .inl (cyI, 121, .inl f_coefficients))] r) (([.ref a_this] : List Value).toArray) s 0 0 A) (F0 m 0 ls []) by rw [hH] at hgo; exact hgo
  clear hH
  refine lv_bipush (v := (-60)) hx hb dX0_lowest_0 (by decide) ?_
  refine lv_istore_n (lv' := [(1, .int (-60)), (0, .ref a_this)]) hx hb dX0_lowest_2 rfl hl (by decide) rfl (fun ls hl => ?_)
  have hL_1 : ∀ (n : Nat) (v1_1 : Int32) (H : Heap) (locs : List Loc) (ls : Array Slot), it1 (kX0_lowest_L1 f_coefficients) n v1_1 = some r → va_P D vwCl [(a_this, .inr (0, [.ref a_otherEnds, .ref a_tally, .ref a_coefficients, .ref a_product, .int i_prepared])), (a_coefficients, .inl (cyI, 121, .inl f_coefficients))] H → va_D A [(a_this, .inr (0, [.ref a_otherEnds, .ref a_tally, .ref a_coefficients, .ref a_product, .int i_prepared])), (a_coefficients, .inl (cyI, 121, .inl f_coefficients))] → va_S A s.heap H locs → lv_has ls 2 [(0, .ref a_this), (1, .int v1_1)] → W p l e (headSpec wsX0_lowest rmX0_lowest).room s m (([.ref a_this] : List Value).toArray) below meth c H locs 0 0 (MQ below (kQi D cyI cyZ A [(a_this, .inr (0, [.ref a_otherEnds, .ref a_tally, .ref a_coefficients, .ref a_product, .int i_prepared])), (a_coefficients, .inl (cyI, 121, .inl f_coefficients))] r) (([.ref a_this] : List Value).toArray) s 0 0 A) (F0 m 3 ls []) := by
    intro n_1
    induction n_1 with
    | zero =>
      intro _ _ _ _ hf
      exact (it1_z hf).elim
    | succ n_1 ih_1 =>
      intro v1_1 H locs ls hf hP hD hS hl
      replace hf := it1_s hf
      rw [kX0_lowest_L1] at hf
      refine lv_iload_n hx hb dX0_lowest_3 rfl (lv_at hl 1 rfl) ?_
      refine lv_bipush (v := 60) hx hb dX0_lowest_4 (by decide) ?_
      refine lv_icmp_gt (tgt := 25) hx hb dX0_lowest_6 (by decide) (fun c_3 => ?_) (fun c_3 => ?_)
      · replace hf := kt_p hf c_3
        refine lv_ldc (v := (-1000009)) hx hb hown (hts (.constant RX0 32 (-1000009)) qX0_lowest_0) dX0_lowest_25 ?_
        obtain rfl := some1_s hf
        exact kRi hx hb hr hlocks hP hK hD hS rfl dX0_lowest_27
      · replace hf := kt_n hf c_3
        refine lv_aload_n hx hb dX0_lowest_9 rfl (lv_at hl 0 rfl) ?_
        refine lv_iload_n hx hb dX0_lowest_10 rfl (lv_at hl 1 rfl) ?_
        obtain ⟨r_1, hc_1, hf⟩ := bnd1_s hf
        refine kcVi (As := [.int v1_1]) (rest := []) (w2 := [(a_this, .inr (0, [.ref a_otherEnds, .ref a_tally, .ref a_coefficients, .ref a_product, .int i_prepared])), (a_coefficients, .inl (cyI, 121, .inl f_coefficients))]) S hK hP hD hS hA hN (mX0_at l D cyI cyZ H.size a_this a_otherEnds a_tally a_coefficients a_product v1_1 i_prepared f_coefficients r_1 hc_1) (cwV 1 hts gX0_lowest_X0_at rfl rfl rfl (by decide +kernel) ⟨Nat.le_of_ble_eq_true rfl, Nat.le_of_ble_eq_true rfl⟩) 0 0 rfl rfl [0, 1] [] [0, 1] rfl rfl rfl rfl (by decide) rfl rfl hl.1 (Nat.le_of_ble_eq_true rfl) dX0_lowest_11 ⟨Nat.le_of_ble_eq_true rfl, Nat.le_of_ble_eq_true rfl⟩ (fun H locs hP hD hS => ?_)
        refine lv_if_eq (tgt := 19) hx hb dX0_lowest_14 (by decide) (fun c_2 => ?_) (fun c_2 => ?_)
        · replace hf := kt_p hf c_2
          refine lv_iinc (v := (v1_1 + 1)) (lv' := [(1, .int (v1_1 + 1)), (0, .ref a_this)]) hx hb dX0_lowest_19 hl (k := 1) rfl rfl (by decide) rfl (fun ls hl => ?_)
          refine lv_goto (tgt := 3) hx hb dX0_lowest_22 (by decide) ?_
          exact ih_1 (v1_1 + 1) H locs ls hf hP hD hS (lv_sub hl [1, 0] rfl)
        · replace hf := kt_n hf c_2
          refine lv_iload_n hx hb dX0_lowest_17 rfl (lv_at hl 1 rfl) ?_
          obtain rfl := some1_s hf
          exact kRi hx hb hr hlocks hP hK hD hS rfl dX0_lowest_18
  exact hL_1 400 (-60) H locs ls hf hP hD hS (lv_sub hl [1, 0] rfl)
def kX0_highest_L1 (f_coefficients : Nat → Int32) (K_1 : Int32 → Option (Int32)) (v1_1 : Int32) : Option (Int32) :=
  if v1_1 < (-60) then some (-1000009) else bnd1 (kX0_at v1_1 f_coefficients) (fun r_1 => if r_1 = 0 then K_1 (v1_1 + (-1)) else some v1_1)
def kX0_highest (f_coefficients : Nat → Int32) : Option (Int32) :=
  it1 (kX0_highest_L1 f_coefficients) 400 60
def rmX0_highest : Room := { frames := 1, cells := 0, slots := 0, locals := 22 }
theorem qX0_highest_0 : (.constant RX0 32 (-1000009) : Cond) ∈ wsX0_highest := by decide +kernel
set_option maxHeartbeats 4000000 in
set_option maxRecDepth 100000 in
theorem mX0_highest (l : Launch) (D : va_G) (cyI cyZ : ClassId) (sz : Nat) (a_this a_otherEnds a_tally a_coefficients a_product : Nat) (i_prepared : Int32) (f_coefficients : Nat → Int32) (r : Int32) (hf : kX0_highest f_coefficients = some r) : Met l yX0_highest wsX0_highest rmX0_highest (kPre D cyI cyZ [.ref a_this] [(a_this, .inr (0, [.ref a_otherEnds, .ref a_tally, .ref a_coefficients, .ref a_product, .int i_prepared])), (a_coefficients, .inl (cyI, 121, .inl f_coefficients))] sz) (kQi D cyI cyZ (va_A [(a_this, .inr (0, [.ref a_otherEnds, .ref a_tally, .ref a_coefficients, .ref a_product, .int i_prepared])), (a_coefficients, .inl (cyI, 121, .inl f_coefficients))] sz) [(a_this, .inr (0, [.ref a_otherEnds, .ref a_tally, .ref a_coefficients, .ref a_product, .int i_prepared])), (a_coefficients, .inl (cyI, 121, .inl f_coefficients))] r) 0 0 (va_A [(a_this, .inr (0, [.ref a_otherEnds, .ref a_tally, .ref a_coefficients, .ref a_product, .int i_prepared])), (a_coefficients, .inl (cyI, 121, .inl f_coefficients))] sz) := by
  refine Met.ofW (cc := cX0_highest) (maxL := 2) (ret := (some .int)) (by decide) rfl ?_
  intro p e s m args below meth c s₁ B hml hv
  obtain ⟨rfl, hsz, hP, hK, hD0, hN⟩ := hv
  have hx := B.exec
  have hb := B.bytes
  have hr := B.returns
  have hts := atoms_spec (ws := wsX0_highest) B.pre
  have hown : s.vm.findClass RX0 = some m.cls := findClass_of_methodNamed B.named
  have hlocks := B.notSynchronized
  subst hsz
  have hD := hD0.self (sz := s.heap.size)
  generalize hAe : va_A [(a_this, .inr (0, [.ref a_otherEnds, .ref a_tally, .ref a_coefficients, .ref a_product, .int i_prepared])), (a_coefficients, .inl (cyI, 121, .inl f_coefficients))] s.heap.size = A at hD ⊢
  have hA : ∀ q : Nat, s.heap.size ≤ q → A q := fun q h => by rw [← hAe]; exact Or.inr h
  clear hAe hD0
  have hS : va_S A s.heap s.heap [] := va_S.rf
  have S : CallFix p m c cX0_highest 2 s (([.ref a_this] : List Value).toArray) wsX0_highest RX0 := ⟨hx, hb, hml, hown, hts⟩
  have hl := lv_entry ([.ref a_this]) (n := 2) (Nat.le_of_ble_eq_true rfl)
  rw [lg_entry_eq]
  generalize (lg_sl ([.ref a_this]) ++ List.replicate (2 - (lg_sl ([.ref a_this])).length) Slot.unset).toArray = ls at hl ⊢
  replace hl : lv_has ls 2 [(0, .ref a_this)] := hl
  generalize ([] : List Loc) = locs at hS ⊢
  delta kX0_highest at hf
  obtain ⟨H, hH⟩ : ∃ H, H = s.heap := ⟨_, rfl⟩
  have hS : va_S A s.heap H locs := by rw [hH]; exact hS
  have hP : va_P D vwCl [(a_this, .inr (0, [.ref a_otherEnds, .ref a_tally, .ref a_coefficients, .ref a_product, .int i_prepared])), (a_coefficients, .inl (cyI, 121, .inl f_coefficients))] H := by rw [hH]; exact hP
  suffices hgo : W p l e (headSpec wsX0_highest rmX0_highest).room s m (([.ref a_this] : List Value).toArray) below meth c H locs 0 0 (MQ below (kQi D cyI cyZ A [(a_this, .inr (0, [.ref a_otherEnds, .ref a_tally, .ref a_coefficients, .ref a_product, .int i_prepared])), (a_coefficients, .inl (cyI, 121, .inl f_coefficients))] r) (([.ref a_this] : List Value).toArray) s 0 0 A) (F0 m 0 ls []) by rw [hH] at hgo; exact hgo
  clear hH
  refine lv_bipush (v := 60) hx hb dX0_highest_0 (by decide) ?_
  refine lv_istore_n (lv' := [(1, .int 60), (0, .ref a_this)]) hx hb dX0_highest_2 rfl hl (by decide) rfl (fun ls hl => ?_)
  have hL_1 : ∀ (n : Nat) (v1_1 : Int32) (H : Heap) (locs : List Loc) (ls : Array Slot), it1 (kX0_highest_L1 f_coefficients) n v1_1 = some r → va_P D vwCl [(a_this, .inr (0, [.ref a_otherEnds, .ref a_tally, .ref a_coefficients, .ref a_product, .int i_prepared])), (a_coefficients, .inl (cyI, 121, .inl f_coefficients))] H → va_D A [(a_this, .inr (0, [.ref a_otherEnds, .ref a_tally, .ref a_coefficients, .ref a_product, .int i_prepared])), (a_coefficients, .inl (cyI, 121, .inl f_coefficients))] → va_S A s.heap H locs → lv_has ls 2 [(0, .ref a_this), (1, .int v1_1)] → W p l e (headSpec wsX0_highest rmX0_highest).room s m (([.ref a_this] : List Value).toArray) below meth c H locs 0 0 (MQ below (kQi D cyI cyZ A [(a_this, .inr (0, [.ref a_otherEnds, .ref a_tally, .ref a_coefficients, .ref a_product, .int i_prepared])), (a_coefficients, .inl (cyI, 121, .inl f_coefficients))] r) (([.ref a_this] : List Value).toArray) s 0 0 A) (F0 m 3 ls []) := by
    intro n_1
    induction n_1 with
    | zero =>
      intro _ _ _ _ hf
      exact (it1_z hf).elim
    | succ n_1 ih_1 =>
      intro v1_1 H locs ls hf hP hD hS hl
      replace hf := it1_s hf
      rw [kX0_highest_L1] at hf
      refine lv_iload_n hx hb dX0_highest_3 rfl (lv_at hl 1 rfl) ?_
      refine lv_bipush (v := (-60)) hx hb dX0_highest_4 (by decide) ?_
      refine lv_icmp_lt (tgt := 25) hx hb dX0_highest_6 (by decide) (fun c_3 => ?_) (fun c_3 => ?_)
      · replace hf := kt_p hf c_3
        refine lv_ldc (v := (-1000009)) hx hb hown (hts (.constant RX0 32 (-1000009)) qX0_highest_0) dX0_highest_25 ?_
        obtain rfl := some1_s hf
        exact kRi hx hb hr hlocks hP hK hD hS rfl dX0_highest_27
      · replace hf := kt_n hf c_3
        refine lv_aload_n hx hb dX0_highest_9 rfl (lv_at hl 0 rfl) ?_
        refine lv_iload_n hx hb dX0_highest_10 rfl (lv_at hl 1 rfl) ?_
        obtain ⟨r_1, hc_1, hf⟩ := bnd1_s hf
        refine kcVi (As := [.int v1_1]) (rest := []) (w2 := [(a_this, .inr (0, [.ref a_otherEnds, .ref a_tally, .ref a_coefficients, .ref a_product, .int i_prepared])), (a_coefficients, .inl (cyI, 121, .inl f_coefficients))]) S hK hP hD hS hA hN (mX0_at l D cyI cyZ H.size a_this a_otherEnds a_tally a_coefficients a_product v1_1 i_prepared f_coefficients r_1 hc_1) (cwV 1 hts gX0_highest_X0_at rfl rfl rfl (by decide +kernel) ⟨Nat.le_of_ble_eq_true rfl, Nat.le_of_ble_eq_true rfl⟩) 0 0 rfl rfl [0, 1] [] [0, 1] rfl rfl rfl rfl (by decide) rfl rfl hl.1 (Nat.le_of_ble_eq_true rfl) dX0_highest_11 ⟨Nat.le_of_ble_eq_true rfl, Nat.le_of_ble_eq_true rfl⟩ (fun H locs hP hD hS => ?_)
        refine lv_if_eq (tgt := 19) hx hb dX0_highest_14 (by decide) (fun c_2 => ?_) (fun c_2 => ?_)
        · replace hf := kt_p hf c_2
          refine lv_iinc (v := (v1_1 + (-1))) (lv' := [(1, .int (v1_1 + (-1))), (0, .ref a_this)]) hx hb dX0_highest_19 hl (k := 1) rfl rfl (by decide) rfl (fun ls hl => ?_)
          refine lv_goto (tgt := 3) hx hb dX0_highest_22 (by decide) ?_
          exact ih_1 (v1_1 + (-1)) H locs ls hf hP hD hS (lv_sub hl [1, 0] rfl)
        · replace hf := kt_n hf c_2
          refine lv_iload_n hx hb dX0_highest_17 rfl (lv_at hl 1 rfl) ?_
          obtain rfl := some1_s hf
          exact kRi hx hb hr hlocks hP hK hD hS rfl dX0_highest_18
  exact hL_1 400 60 H locs ls hf hP hD hS (lv_sub hl [1, 0] rfl)
def kX0_alternatingSum_L1 (f_coefficients : Nat → Int32) (K_1 : Int32 → Int32 → Int32 → Option (Int32)) (v2_1 : Int32) (v3_1 : Int32) (v4_1 : Int32) : Option (Int32) :=
  if 60 < v4_1 then some (iabs v2_1) else bnd1 (kX0_at v4_1 f_coefficients) (fun r_2 => K_1 (v2_1 + (v3_1 * r_2)) (-v3_1) (v4_1 + 4))
def kX0_alternatingSum (f_coefficients : Nat → Int32) : Option (Int32) :=
  bnd1 (kX0_lowest f_coefficients) (fun r_1 => if r_1 = (-1000009) then some 0 else it3 (kX0_alternatingSum_L1 f_coefficients) 400 0 1 r_1)
def rmX0_alternatingSum : Room := { frames := 2, cells := 0, slots := 0, locals := 43 }
theorem qX0_alternatingSum_0 : (.constant RX0 32 (-1000009) : Cond) ∈ wsX0_alternatingSum := by decide +kernel
theorem qX0_alternatingSum_1 : (.methodLink RX0 37 Lib.Math.abs.name : Cond) ∈ wsX0_alternatingSum := by decide +kernel
theorem qX0_alternatingSum_2 : (.static Lib.Math.abs.name : Cond) ∈ wsX0_alternatingSum := by decide +kernel
theorem qX0_alternatingSum_3 : (.initialized "java/lang/Math" : Cond) ∈ wsX0_alternatingSum := by decide +kernel
theorem qX0_alternatingSum_4 : (.code Lib.Math.abs.name Lib.Math.abs.code 1 (some .int) : Cond) ∈ wsX0_alternatingSum := by decide +kernel
set_option maxHeartbeats 4000000 in
set_option maxRecDepth 100000 in
theorem mX0_alternatingSum (l : Launch) (D : va_G) (cyI cyZ : ClassId) (sz : Nat) (a_this a_otherEnds a_tally a_coefficients a_product : Nat) (i_prepared : Int32) (f_coefficients : Nat → Int32) (r : Int32) (hf : kX0_alternatingSum f_coefficients = some r) : Met l yX0_alternatingSum wsX0_alternatingSum rmX0_alternatingSum (kPre D cyI cyZ [.ref a_this] [(a_this, .inr (0, [.ref a_otherEnds, .ref a_tally, .ref a_coefficients, .ref a_product, .int i_prepared])), (a_coefficients, .inl (cyI, 121, .inl f_coefficients))] sz) (kQi D cyI cyZ (va_A [(a_this, .inr (0, [.ref a_otherEnds, .ref a_tally, .ref a_coefficients, .ref a_product, .int i_prepared])), (a_coefficients, .inl (cyI, 121, .inl f_coefficients))] sz) [(a_this, .inr (0, [.ref a_otherEnds, .ref a_tally, .ref a_coefficients, .ref a_product, .int i_prepared])), (a_coefficients, .inl (cyI, 121, .inl f_coefficients))] r) 0 0 (va_A [(a_this, .inr (0, [.ref a_otherEnds, .ref a_tally, .ref a_coefficients, .ref a_product, .int i_prepared])), (a_coefficients, .inl (cyI, 121, .inl f_coefficients))] sz) := by
  refine Met.ofW (cc := cX0_alternatingSum) (maxL := 5) (ret := (some .int)) (by decide) rfl ?_
  intro p e s m args below meth c s₁ B hml hv
  obtain ⟨rfl, hsz, hP, hK, hD0, hN⟩ := hv
  have hx := B.exec
  have hb := B.bytes
  have hr := B.returns
  have hts := atoms_spec (ws := wsX0_alternatingSum) B.pre
  have hown : s.vm.findClass RX0 = some m.cls := findClass_of_methodNamed B.named
  have hlocks := B.notSynchronized
  subst hsz
  have hD := hD0.self (sz := s.heap.size)
  generalize hAe : va_A [(a_this, .inr (0, [.ref a_otherEnds, .ref a_tally, .ref a_coefficients, .ref a_product, .int i_prepared])), (a_coefficients, .inl (cyI, 121, .inl f_coefficients))] s.heap.size = A at hD ⊢
  have hA : ∀ q : Nat, s.heap.size ≤ q → A q := fun q h => by rw [← hAe]; exact Or.inr h
  clear hAe hD0
  have hS : va_S A s.heap s.heap [] := va_S.rf
  have S : CallFix p m c cX0_alternatingSum 5 s (([.ref a_this] : List Value).toArray) wsX0_alternatingSum RX0 := ⟨hx, hb, hml, hown, hts⟩
  have hl := lv_entry ([.ref a_this]) (n := 5) (Nat.le_of_ble_eq_true rfl)
  rw [lg_entry_eq]
  generalize (lg_sl ([.ref a_this]) ++ List.replicate (5 - (lg_sl ([.ref a_this])).length) Slot.unset).toArray = ls at hl ⊢
  replace hl : lv_has ls 5 [(0, .ref a_this)] := hl
  generalize ([] : List Loc) = locs at hS ⊢
  delta kX0_alternatingSum at hf
  obtain ⟨H, hH⟩ : ∃ H, H = s.heap := ⟨_, rfl⟩
  have hS : va_S A s.heap H locs := by rw [hH]; exact hS
  have hP : va_P D vwCl [(a_this, .inr (0, [.ref a_otherEnds, .ref a_tally, .ref a_coefficients, .ref a_product, .int i_prepared])), (a_coefficients, .inl (cyI, 121, .inl f_coefficients))] H := by rw [hH]; exact hP
  suffices hgo : W p l e (headSpec wsX0_alternatingSum rmX0_alternatingSum).room s m (([.ref a_this] : List Value).toArray) below meth c H locs 0 0 (MQ below (kQi D cyI cyZ A [(a_this, .inr (0, [.ref a_otherEnds, .ref a_tally, .ref a_coefficients, .ref a_product, .int i_prepared])), (a_coefficients, .inl (cyI, 121, .inl f_coefficients))] r) (([.ref a_this] : List Value).toArray) s 0 0 A) (F0 m 0 ls []) by rw [hH] at hgo; exact hgo
  clear hH
  refine lv_aload_n hx hb dX0_alternatingSum_0 rfl (lv_at hl 0 rfl) ?_
  obtain ⟨r_1, hc_1, hf⟩ := bnd1_s hf
  refine kcVi (As := []) (rest := []) (w2 := [(a_this, .inr (0, [.ref a_otherEnds, .ref a_tally, .ref a_coefficients, .ref a_product, .int i_prepared])), (a_coefficients, .inl (cyI, 121, .inl f_coefficients))]) S hK hP hD hS hA hN (mX0_lowest l D cyI cyZ H.size a_this a_otherEnds a_tally a_coefficients a_product i_prepared f_coefficients r_1 hc_1) (cwV 0 hts gX0_alternatingSum_X0_lowest rfl rfl rfl (by decide +kernel) ⟨Nat.le_of_ble_eq_true rfl, Nat.le_of_ble_eq_true rfl⟩) 0 0 rfl rfl [0, 1] [] [0, 1] rfl rfl rfl rfl (by decide) rfl rfl hl.1 (Nat.le_of_ble_eq_true rfl) dX0_alternatingSum_1 ⟨Nat.le_of_ble_eq_true rfl, Nat.le_of_ble_eq_true rfl⟩ (fun H locs hP hD hS => ?_)
  refine lv_istore_n (lv' := [(1, .int r_1), (0, .ref a_this)]) hx hb dX0_alternatingSum_4 rfl hl (by decide) rfl (fun ls hl => ?_)
  refine lv_iload_n hx hb dX0_alternatingSum_5 rfl (lv_at hl 0 rfl) ?_
  refine lv_ldc (v := (-1000009)) hx hb hown (hts (.constant RX0 32 (-1000009)) qX0_alternatingSum_0) dX0_alternatingSum_6 ?_
  refine lv_icmp_ne (tgt := 13) hx hb dX0_alternatingSum_8 (by decide) (fun c_4 => ?_) (fun c_4 => ?_)
  · replace hf := kt_n hf c_4
    refine lv_iconst (v := 0) hx hb dX0_alternatingSum_13 (by decide) ?_
    refine lv_istore_n (lv' := [(2, .int 0), (1, .int r_1), (0, .ref a_this)]) hx hb dX0_alternatingSum_14 rfl hl (by decide) rfl (fun ls hl => ?_)
    refine lv_iconst (v := 1) hx hb dX0_alternatingSum_15 (by decide) ?_
    refine lv_istore_n (lv' := [(3, .int 1), (2, .int 0), (1, .int r_1), (0, .ref a_this)]) hx hb dX0_alternatingSum_16 rfl hl (by decide) rfl (fun ls hl => ?_)
    refine lv_iload_n hx hb dX0_alternatingSum_17 rfl (lv_at hl 2 rfl) ?_
    refine lv_istore (lv' := [(4, .int r_1), (3, .int 1), (2, .int 0), (1, .int r_1), (0, .ref a_this)]) hx hb dX0_alternatingSum_18 hl (by decide) rfl (fun ls hl => ?_)
    have hL_1 : ∀ (n : Nat) (v2_1 : Int32) (v3_1 : Int32) (v4_1 : Int32) (H : Heap) (locs : List Loc) (ls : Array Slot), it3 (kX0_alternatingSum_L1 f_coefficients) n v2_1 v3_1 v4_1 = some r → va_P D vwCl [(a_this, .inr (0, [.ref a_otherEnds, .ref a_tally, .ref a_coefficients, .ref a_product, .int i_prepared])), (a_coefficients, .inl (cyI, 121, .inl f_coefficients))] H → va_D A [(a_this, .inr (0, [.ref a_otherEnds, .ref a_tally, .ref a_coefficients, .ref a_product, .int i_prepared])), (a_coefficients, .inl (cyI, 121, .inl f_coefficients))] → va_S A s.heap H locs → lv_has ls 5 [(0, .ref a_this), (2, .int v2_1), (3, .int v3_1), (4, .int v4_1)] → W p l e (headSpec wsX0_alternatingSum rmX0_alternatingSum).room s m (([.ref a_this] : List Value).toArray) below meth c H locs 0 0 (MQ below (kQi D cyI cyZ A [(a_this, .inr (0, [.ref a_otherEnds, .ref a_tally, .ref a_coefficients, .ref a_product, .int i_prepared])), (a_coefficients, .inl (cyI, 121, .inl f_coefficients))] r) (([.ref a_this] : List Value).toArray) s 0 0 A) (F0 m 20 ls []) := by
      intro n_1
      induction n_1 with
      | zero =>
        intro _ _ _ _ _ _ hf
        exact (it3_z hf).elim
      | succ n_1 ih_1 =>
        intro v2_1 v3_1 v4_1 H locs ls hf hP hD hS hl
        replace hf := it3_s hf
        rw [kX0_alternatingSum_L1] at hf
        refine lv_iload hx hb dX0_alternatingSum_20 (lv_at hl 3 rfl) ?_
        refine lv_bipush (v := 60) hx hb dX0_alternatingSum_22 (by decide) ?_
        refine lv_icmp_gt (tgt := 47) hx hb dX0_alternatingSum_24 (by decide) (fun c_3 => ?_) (fun c_3 => ?_)
        · replace hf := kt_p hf c_3
          refine lv_iload_n hx hb dX0_alternatingSum_47 rfl (lv_at hl 1 rfl) ?_
          refine k_mabs hx hb (by rw [hml]; exact hl.1.symm) hown (hts (.methodLink RX0 37 Lib.Math.abs.name) qX0_alternatingSum_1) (hts (.static Lib.Math.abs.name) qX0_alternatingSum_2) (hts (.initialized "java/lang/Math") qX0_alternatingSum_3) (hts (.code Lib.Math.abs.name Lib.Math.abs.code 1 (some .int)) qX0_alternatingSum_4) (Nat.le_of_ble_eq_true rfl) (Nat.le_of_ble_eq_true rfl) (Nat.zero_le _) (Nat.zero_le _) dX0_alternatingSum_48 ?_
          obtain rfl := some1_s hf
          exact kRi hx hb hr hlocks hP hK hD hS rfl dX0_alternatingSum_51
        · replace hf := kt_n hf c_3
          refine lv_iload_n hx hb dX0_alternatingSum_27 rfl (lv_at hl 1 rfl) ?_
          refine lv_iload_n hx hb dX0_alternatingSum_28 rfl (lv_at hl 2 rfl) ?_
          refine lv_aload_n hx hb dX0_alternatingSum_29 rfl (lv_at hl 0 rfl) ?_
          refine lv_iload hx hb dX0_alternatingSum_30 (lv_at hl 3 rfl) ?_
          obtain ⟨r_2, hc_2, hf⟩ := bnd1_s hf
          refine kcVi (As := [.int v4_1]) (rest := [.int v3_1, .int v2_1]) (w2 := [(a_this, .inr (0, [.ref a_otherEnds, .ref a_tally, .ref a_coefficients, .ref a_product, .int i_prepared])), (a_coefficients, .inl (cyI, 121, .inl f_coefficients))]) S hK hP hD hS hA hN (mX0_at l D cyI cyZ H.size a_this a_otherEnds a_tally a_coefficients a_product v4_1 i_prepared f_coefficients r_2 hc_2) (cwV 1 hts gX0_alternatingSum_X0_at rfl rfl rfl (by decide +kernel) ⟨Nat.le_of_ble_eq_true rfl, Nat.le_of_ble_eq_true rfl⟩) 0 0 rfl rfl [0, 1] [] [0, 1] rfl rfl rfl rfl (by decide) rfl rfl hl.1 (Nat.le_of_ble_eq_true rfl) dX0_alternatingSum_32 ⟨Nat.le_of_ble_eq_true rfl, Nat.le_of_ble_eq_true rfl⟩ (fun H locs hP hD hS => ?_)
          refine lv_imul hx hb dX0_alternatingSum_35 ?_
          refine lv_iadd hx hb dX0_alternatingSum_36 ?_
          refine lv_istore_n (lv' := [(2, .int (v2_1 + (v3_1 * r_2))), (0, .ref a_this), (3, .int v3_1), (4, .int v4_1)]) hx hb dX0_alternatingSum_37 rfl hl (by decide) rfl (fun ls hl => ?_)
          refine lv_iload_n hx hb dX0_alternatingSum_38 rfl (lv_at hl 2 rfl) ?_
          refine lv_ineg hx hb dX0_alternatingSum_39 ?_
          refine lv_istore_n (lv' := [(3, .int (-v3_1)), (2, .int (v2_1 + (v3_1 * r_2))), (0, .ref a_this), (4, .int v4_1)]) hx hb dX0_alternatingSum_40 rfl hl (by decide) rfl (fun ls hl => ?_)
          refine lv_iinc (v := (v4_1 + 4)) (lv' := [(4, .int (v4_1 + 4)), (3, .int (-v3_1)), (2, .int (v2_1 + (v3_1 * r_2))), (0, .ref a_this)]) hx hb dX0_alternatingSum_41 hl (k := 3) rfl rfl (by decide) rfl (fun ls hl => ?_)
          refine lv_goto (tgt := 20) hx hb dX0_alternatingSum_44 (by decide) ?_
          exact ih_1 (v2_1 + (v3_1 * r_2)) (-v3_1) (v4_1 + 4) H locs ls hf hP hD hS (lv_sub hl [3, 2, 1, 0] rfl)
    exact hL_1 400 0 1 r_1 H locs ls hf hP hD hS (lv_sub hl [4, 2, 1, 0] rfl)
  · replace hf := kt_p hf c_4
    refine lv_iconst (v := 0) hx hb dX0_alternatingSum_11 (by decide) ?_
    obtain rfl := some1_s hf
    exact kRi hx hb hr hlocks hP hK hD hS rfl dX0_alternatingSum_12
def kX2_arc_J1   : Option (Int32) :=
  some 0
def kX2_arc (v1 : Int32) (f_arcs : Nat → Int32) : Option (Int32) :=
  if v1 < 0 then kX2_arc_J1 else if 32 ≤ v1 then kX2_arc_J1 else ck v1 32 (some (f_arcs v1.toNatClampNeg))
def rmX2_arc : Room := { frames := 0, cells := 0, slots := 0, locals := 0 }
theorem qX2_arc_0 : (.fieldLink RX2 9 "KnotDiagram$Diagram" "arcs" "[I" : Cond) ∈ wsX2_arc := by decide +kernel
theorem qX2_arc_X2 : ∀ w ∈ wsX20, w ∈ wsX2_arc := by decide +kernel
set_option maxHeartbeats 4000000 in
set_option maxRecDepth 100000 in
theorem mX2_arc (l : Launch) (D : va_G) (cyI cyZ : ClassId) (sz : Nat) (a_this a_arcs : Nat) (v1 : Int32) (i_crossings : Int32) (i_circles : Int32) (f_arcs : Nat → Int32) (r : Int32) (hf : kX2_arc v1 f_arcs = some r) : Met l yX2_arc wsX2_arc rmX2_arc (kPre D cyI cyZ [.ref a_this, .int v1] [(a_this, .inr (2, [.int i_crossings, .int i_circles, .ref a_arcs])), (a_arcs, .inl (cyI, 32, .inl f_arcs))] sz) (kQi D cyI cyZ (va_A [(a_this, .inr (2, [.int i_crossings, .int i_circles, .ref a_arcs])), (a_arcs, .inl (cyI, 32, .inl f_arcs))] sz) [(a_this, .inr (2, [.int i_crossings, .int i_circles, .ref a_arcs])), (a_arcs, .inl (cyI, 32, .inl f_arcs))] r) 0 0 (va_A [(a_this, .inr (2, [.int i_crossings, .int i_circles, .ref a_arcs])), (a_arcs, .inl (cyI, 32, .inl f_arcs))] sz) := by
  refine Met.ofW (cc := cX2_arc) (maxL := 2) (ret := (some .int)) (by decide) rfl ?_
  intro p e s m args below meth c s₁ B hml hv
  obtain ⟨rfl, hsz, hP, hK, hD0, hN⟩ := hv
  have hx := B.exec
  have hb := B.bytes
  have hr := B.returns
  have hts := atoms_spec (ws := wsX2_arc) B.pre
  have hown : s.vm.findClass RX2 = some m.cls := findClass_of_methodNamed B.named
  have hlocks := B.notSynchronized
  subst hsz
  have hD := hD0.self (sz := s.heap.size)
  generalize hAe : va_A [(a_this, .inr (2, [.int i_crossings, .int i_circles, .ref a_arcs])), (a_arcs, .inl (cyI, 32, .inl f_arcs))] s.heap.size = A at hD ⊢
  have hA : ∀ q : Nat, s.heap.size ≤ q → A q := fun q h => by rw [← hAe]; exact Or.inr h
  clear hAe hD0
  have hS : va_S A s.heap s.heap [] := va_S.rf
  have S : CallFix p m c cX2_arc 2 s (([.ref a_this, .int v1] : List Value).toArray) wsX2_arc RX2 := ⟨hx, hb, hml, hown, hts⟩
  have hl := lv_entry ([.ref a_this, .int v1]) (n := 2) (Nat.le_of_ble_eq_true rfl)
  rw [lg_entry_eq]
  generalize (lg_sl ([.ref a_this, .int v1]) ++ List.replicate (2 - (lg_sl ([.ref a_this, .int v1])).length) Slot.unset).toArray = ls at hl ⊢
  replace hl : lv_has ls 2 [(0, .ref a_this), (1, .int v1)] := hl
  generalize ([] : List Loc) = locs at hS ⊢
  delta kX2_arc at hf
  obtain ⟨H, hH⟩ : ∃ H, H = s.heap := ⟨_, rfl⟩
  have hS : va_S A s.heap H locs := by rw [hH]; exact hS
  have hP : va_P D vwCl [(a_this, .inr (2, [.int i_crossings, .int i_circles, .ref a_arcs])), (a_arcs, .inl (cyI, 32, .inl f_arcs))] H := by rw [hH]; exact hP
  suffices hgo : W p l e (headSpec wsX2_arc rmX2_arc).room s m (([.ref a_this, .int v1] : List Value).toArray) below meth c H locs 0 0 (MQ below (kQi D cyI cyZ A [(a_this, .inr (2, [.int i_crossings, .int i_circles, .ref a_arcs])), (a_arcs, .inl (cyI, 32, .inl f_arcs))] r) (([.ref a_this, .int v1] : List Value).toArray) s 0 0 A) (F0 m 0 ls []) by rw [hH] at hgo; exact hgo
  clear hH
  refine lv_iload_n hx hb dX2_arc_0 rfl (lv_at hl 1 rfl) ?_
  have hJ_1 : ∀  (H : Heap) (locs : List Loc) (ls : Array Slot), kX2_arc_J1  = some r → va_P D vwCl [(a_this, .inr (2, [.int i_crossings, .int i_circles, .ref a_arcs])), (a_arcs, .inl (cyI, 32, .inl f_arcs))] H → va_D A [(a_this, .inr (2, [.int i_crossings, .int i_circles, .ref a_arcs])), (a_arcs, .inl (cyI, 32, .inl f_arcs))] → va_S A s.heap H locs → lv_has ls 2 [] → W p l e (headSpec wsX2_arc rmX2_arc).room s m (([.ref a_this, .int v1] : List Value).toArray) below meth c H locs 0 0 (MQ below (kQi D cyI cyZ A [(a_this, .inr (2, [.int i_crossings, .int i_circles, .ref a_arcs])), (a_arcs, .inl (cyI, 32, .inl f_arcs))] r) (([.ref a_this, .int v1] : List Value).toArray) s 0 0 A) (F0 m 19 ls []) := by
    intro  H locs ls hf hP hD hS hl
    delta kX2_arc_J1 at hf
    refine lv_iconst (v := 0) hx hb dX2_arc_19 (by decide) ?_
    obtain rfl := some1_s hf
    exact kRi hx hb hr hlocks hP hK hD hS rfl dX2_arc_20
  refine lv_if_lt (tgt := 19) hx hb dX2_arc_1 (by decide) (fun c_3 => ?_) (fun c_3 => ?_)
  · replace hf := kt_p hf c_3
    exact hJ_1 H locs ls hf hP hD hS (lv_sub hl [] rfl)
  · replace hf := kt_n hf c_3
    refine lv_iload_n hx hb dX2_arc_4 rfl (lv_at hl 1 rfl) ?_
    refine lv_bipush (v := 32) hx hb dX2_arc_5 (by decide) ?_
    refine lv_icmp_ge (tgt := 19) hx hb dX2_arc_7 (by decide) (fun c_2 => ?_) (fun c_2 => ?_)
    · replace hf := kt_p hf c_2
      exact hJ_1 H locs ls hf hP hD hS (lv_sub hl [] rfl)
    · replace hf := kt_n hf c_2
      refine lv_aload_n hx hb dX2_arc_10 rfl (lv_at hl 0 rfl) ?_
      refine va_get (D := D) (ci := 2) (v := .ref a_arcs) (C := RX2) (T := TX2) (N := 3) hx hb hts qX2_arc_X2 hown hK hP 0 rfl rfl 2 (Nat.le_of_ble_eq_true rfl) (hts (.fieldLink RX2 9 "KnotDiagram$Diagram" "arcs" "[I") qX2_arc_0) (fun _ h9 => h9) rfl dX2_arc_11 ?_
      refine lv_iload_n hx hb dX2_arc_14 rfl (lv_at hl 1 rfl) ?_
      obtain ⟨hi_1, hf⟩ := ck_s hf
      refine va_iald hx hb hK hP 1 0 rfl rfl hi_1 dX2_arc_15 ?_
      refine lv_goto (tgt := 20) hx hb dX2_arc_16 (by decide) ?_
      obtain rfl := some1_s hf
      exact kRi hx hb hr hlocks hP hK hD hS rfl dX2_arc_20
def kX2_endCount (i_crossings : Int32) : Option (Int32) :=
  some (4 * i_crossings)
def rmX2_endCount : Room := { frames := 0, cells := 0, slots := 0, locals := 0 }
theorem qX2_endCount_0 : (.fieldLink RX2 15 "KnotDiagram$Diagram" "crossings" "I" : Cond) ∈ wsX2_endCount := by decide +kernel
theorem qX2_endCount_X2 : ∀ w ∈ wsX20, w ∈ wsX2_endCount := by decide +kernel
set_option maxHeartbeats 4000000 in
set_option maxRecDepth 100000 in
theorem mX2_endCount (l : Launch) (D : va_G) (cyI cyZ : ClassId) (sz : Nat) (a_this a_arcs : Nat) (i_crossings : Int32) (i_circles : Int32) (r : Int32) (hf : kX2_endCount i_crossings = some r) : Met l yX2_endCount wsX2_endCount rmX2_endCount (kPre D cyI cyZ [.ref a_this] [(a_this, .inr (2, [.int i_crossings, .int i_circles, .ref a_arcs]))] sz) (kQi D cyI cyZ (va_A [(a_this, .inr (2, [.int i_crossings, .int i_circles, .ref a_arcs]))] sz) [(a_this, .inr (2, [.int i_crossings, .int i_circles, .ref a_arcs]))] r) 0 0 (va_A [(a_this, .inr (2, [.int i_crossings, .int i_circles, .ref a_arcs]))] sz) := by
  refine Met.ofW (cc := cX2_endCount) (maxL := 1) (ret := (some .int)) (by decide) rfl ?_
  intro p e s m args below meth c s₁ B hml hv
  obtain ⟨rfl, hsz, hP, hK, hD0, hN⟩ := hv
  have hx := B.exec
  have hb := B.bytes
  have hr := B.returns
  have hts := atoms_spec (ws := wsX2_endCount) B.pre
  have hown : s.vm.findClass RX2 = some m.cls := findClass_of_methodNamed B.named
  have hlocks := B.notSynchronized
  subst hsz
  have hD := hD0.self (sz := s.heap.size)
  generalize hAe : va_A [(a_this, .inr (2, [.int i_crossings, .int i_circles, .ref a_arcs]))] s.heap.size = A at hD ⊢
  have hA : ∀ q : Nat, s.heap.size ≤ q → A q := fun q h => by rw [← hAe]; exact Or.inr h
  clear hAe hD0
  have hS : va_S A s.heap s.heap [] := va_S.rf
  have S : CallFix p m c cX2_endCount 1 s (([.ref a_this] : List Value).toArray) wsX2_endCount RX2 := ⟨hx, hb, hml, hown, hts⟩
  have hl := lv_entry ([.ref a_this]) (n := 1) (Nat.le_of_ble_eq_true rfl)
  rw [lg_entry_eq]
  generalize (lg_sl ([.ref a_this]) ++ List.replicate (1 - (lg_sl ([.ref a_this])).length) Slot.unset).toArray = ls at hl ⊢
  replace hl : lv_has ls 1 [(0, .ref a_this)] := hl
  generalize ([] : List Loc) = locs at hS ⊢
  delta kX2_endCount at hf
  obtain ⟨H, hH⟩ : ∃ H, H = s.heap := ⟨_, rfl⟩
  have hS : va_S A s.heap H locs := by rw [hH]; exact hS
  have hP : va_P D vwCl [(a_this, .inr (2, [.int i_crossings, .int i_circles, .ref a_arcs]))] H := by rw [hH]; exact hP
  suffices hgo : W p l e (headSpec wsX2_endCount rmX2_endCount).room s m (([.ref a_this] : List Value).toArray) below meth c H locs 0 0 (MQ below (kQi D cyI cyZ A [(a_this, .inr (2, [.int i_crossings, .int i_circles, .ref a_arcs]))] r) (([.ref a_this] : List Value).toArray) s 0 0 A) (F0 m 0 ls []) by rw [hH] at hgo; exact hgo
  clear hH
  refine lv_iconst (v := 4) hx hb dX2_endCount_0 (by decide) ?_
  refine lv_aload_n hx hb dX2_endCount_1 rfl (lv_at hl 0 rfl) ?_
  refine va_get (D := D) (ci := 2) (v := .int i_crossings) (C := RX2) (T := TX2) (N := 3) hx hb hts qX2_endCount_X2 hown hK hP 0 rfl rfl 0 (Nat.le_of_ble_eq_true rfl) (hts (.fieldLink RX2 15 "KnotDiagram$Diagram" "crossings" "I") qX2_endCount_0) (fun _ h9 => h9) rfl dX2_endCount_2 ?_
  refine lv_imul hx hb dX2_endCount_5 ?_
  obtain rfl := some1_s hf
  exact kRi hx hb hr hlocks hP hK hD hS rfl dX2_endCount_6
def kX2_otherEnd_L1 (r_2 : Int32) (v1 : Int32) (f_arcs : Nat → Int32) (r_1 : Int32) (K_1 : Int32 → Option (Int32)) (v4_1 : Int32) : Option (Int32) :=
  if r_2 ≤ v4_1 then some v1 else if v4_1 = v1 then K_1 (v4_1 + 1) else bnd1 (kX2_arc v4_1 f_arcs) (fun r_3 => if r_3 = r_1 then some v4_1 else K_1 (v4_1 + 1))
def kX2_otherEnd (v1 : Int32) (i_crossings : Int32) (f_arcs : Nat → Int32) : Option (Int32) :=
  bnd1 (kX2_arc v1 f_arcs) (fun r_1 => bnd1 (kX2_endCount i_crossings) (fun r_2 => it1 (kX2_otherEnd_L1 r_2 v1 f_arcs r_1) 400 0))
def rmX2_otherEnd : Room := { frames := 1, cells := 0, slots := 0, locals := 21 }
set_option maxHeartbeats 4000000 in
set_option maxRecDepth 100000 in
theorem mX2_otherEnd (l : Launch) (D : va_G) (cyI cyZ : ClassId) (sz : Nat) (a_this a_arcs : Nat) (v1 : Int32) (i_crossings : Int32) (i_circles : Int32) (f_arcs : Nat → Int32) (r : Int32) (hf : kX2_otherEnd v1 i_crossings f_arcs = some r) : Met l yX2_otherEnd wsX2_otherEnd rmX2_otherEnd (kPre D cyI cyZ [.ref a_this, .int v1] [(a_this, .inr (2, [.int i_crossings, .int i_circles, .ref a_arcs])), (a_arcs, .inl (cyI, 32, .inl f_arcs))] sz) (kQi D cyI cyZ (va_A [(a_this, .inr (2, [.int i_crossings, .int i_circles, .ref a_arcs])), (a_arcs, .inl (cyI, 32, .inl f_arcs))] sz) [(a_this, .inr (2, [.int i_crossings, .int i_circles, .ref a_arcs])), (a_arcs, .inl (cyI, 32, .inl f_arcs))] r) 0 0 (va_A [(a_this, .inr (2, [.int i_crossings, .int i_circles, .ref a_arcs])), (a_arcs, .inl (cyI, 32, .inl f_arcs))] sz) := by
  refine Met.ofW (cc := cX2_otherEnd) (maxL := 5) (ret := (some .int)) (by decide) rfl ?_
  intro p e s m args below meth c s₁ B hml hv
  obtain ⟨rfl, hsz, hP, hK, hD0, hN⟩ := hv
  have hx := B.exec
  have hb := B.bytes
  have hr := B.returns
  have hts := atoms_spec (ws := wsX2_otherEnd) B.pre
  have hown : s.vm.findClass RX2 = some m.cls := findClass_of_methodNamed B.named
  have hlocks := B.notSynchronized
  subst hsz
  have hD := hD0.self (sz := s.heap.size)
  generalize hAe : va_A [(a_this, .inr (2, [.int i_crossings, .int i_circles, .ref a_arcs])), (a_arcs, .inl (cyI, 32, .inl f_arcs))] s.heap.size = A at hD ⊢
  have hA : ∀ q : Nat, s.heap.size ≤ q → A q := fun q h => by rw [← hAe]; exact Or.inr h
  clear hAe hD0
  have hS : va_S A s.heap s.heap [] := va_S.rf
  have S : CallFix p m c cX2_otherEnd 5 s (([.ref a_this, .int v1] : List Value).toArray) wsX2_otherEnd RX2 := ⟨hx, hb, hml, hown, hts⟩
  have hl := lv_entry ([.ref a_this, .int v1]) (n := 5) (Nat.le_of_ble_eq_true rfl)
  rw [lg_entry_eq]
  generalize (lg_sl ([.ref a_this, .int v1]) ++ List.replicate (5 - (lg_sl ([.ref a_this, .int v1])).length) Slot.unset).toArray = ls at hl ⊢
  replace hl : lv_has ls 5 [(0, .ref a_this), (1, .int v1)] := hl
  generalize ([] : List Loc) = locs at hS ⊢
  delta kX2_otherEnd at hf
  obtain ⟨H, hH⟩ : ∃ H, H = s.heap := ⟨_, rfl⟩
  have hS : va_S A s.heap H locs := by rw [hH]; exact hS
  have hP : va_P D vwCl [(a_this, .inr (2, [.int i_crossings, .int i_circles, .ref a_arcs])), (a_arcs, .inl (cyI, 32, .inl f_arcs))] H := by rw [hH]; exact hP
  suffices hgo : W p l e (headSpec wsX2_otherEnd rmX2_otherEnd).room s m (([.ref a_this, .int v1] : List Value).toArray) below meth c H locs 0 0 (MQ below (kQi D cyI cyZ A [(a_this, .inr (2, [.int i_crossings, .int i_circles, .ref a_arcs])), (a_arcs, .inl (cyI, 32, .inl f_arcs))] r) (([.ref a_this, .int v1] : List Value).toArray) s 0 0 A) (F0 m 0 ls []) by rw [hH] at hgo; exact hgo
  clear hH
  refine lv_aload_n hx hb dX2_otherEnd_0 rfl (lv_at hl 0 rfl) ?_
  refine lv_iload_n hx hb dX2_otherEnd_1 rfl (lv_at hl 1 rfl) ?_
  obtain ⟨r_1, hc_1, hf⟩ := bnd1_s hf
  refine kcVi (As := [.int v1]) (rest := []) (w2 := [(a_this, .inr (2, [.int i_crossings, .int i_circles, .ref a_arcs])), (a_arcs, .inl (cyI, 32, .inl f_arcs))]) S hK hP hD hS hA hN (mX2_arc l D cyI cyZ H.size a_this a_arcs v1 i_crossings i_circles f_arcs r_1 hc_1) (cwV 1 hts gX2_otherEnd_X2_arc rfl rfl rfl (by decide +kernel) ⟨Nat.le_of_ble_eq_true rfl, Nat.le_of_ble_eq_true rfl⟩) 2 0 rfl rfl [0, 1] [] [0, 1] rfl rfl rfl rfl (by decide) rfl rfl hl.1 (Nat.le_of_ble_eq_true rfl) dX2_otherEnd_2 ⟨Nat.le_of_ble_eq_true rfl, Nat.le_of_ble_eq_true rfl⟩ (fun H locs hP hD hS => ?_)
  refine lv_istore_n (lv' := [(2, .int r_1), (0, .ref a_this), (1, .int v1)]) hx hb dX2_otherEnd_5 rfl hl (by decide) rfl (fun ls hl => ?_)
  refine lv_aload_n hx hb dX2_otherEnd_6 rfl (lv_at hl 1 rfl) ?_
  obtain ⟨r_2, hc_2, hf⟩ := bnd1_s hf
  refine kcVi (As := []) (rest := []) (w2 := [(a_this, .inr (2, [.int i_crossings, .int i_circles, .ref a_arcs])), (a_arcs, .inl (cyI, 32, .inl f_arcs))]) S hK hP hD hS hA hN (mX2_endCount l D cyI cyZ H.size a_this a_arcs i_crossings i_circles r_2 hc_2) (cwV 0 hts gX2_otherEnd_X2_endCount rfl rfl rfl (by decide +kernel) ⟨Nat.le_of_ble_eq_true rfl, Nat.le_of_ble_eq_true rfl⟩) 2 0 rfl rfl [0] [1] [1, 0] rfl rfl rfl rfl (by decide) rfl rfl hl.1 (Nat.le_of_ble_eq_true rfl) dX2_otherEnd_7 ⟨Nat.le_of_ble_eq_true rfl, Nat.le_of_ble_eq_true rfl⟩ (fun H locs hP hD hS => ?_)
  refine lv_istore_n (lv' := [(3, .int r_2), (2, .int r_1), (0, .ref a_this), (1, .int v1)]) hx hb dX2_otherEnd_10 rfl hl (by decide) rfl (fun ls hl => ?_)
  refine lv_iconst (v := 0) hx hb dX2_otherEnd_11 (by decide) ?_
  refine lv_istore (lv' := [(4, .int 0), (3, .int r_2), (2, .int r_1), (0, .ref a_this), (1, .int v1)]) hx hb dX2_otherEnd_12 hl (by decide) rfl (fun ls hl => ?_)
  have hL_1 : ∀ (n : Nat) (v4_1 : Int32) (H : Heap) (locs : List Loc) (ls : Array Slot), it1 (kX2_otherEnd_L1 r_2 v1 f_arcs r_1) n v4_1 = some r → va_P D vwCl [(a_this, .inr (2, [.int i_crossings, .int i_circles, .ref a_arcs])), (a_arcs, .inl (cyI, 32, .inl f_arcs))] H → va_D A [(a_this, .inr (2, [.int i_crossings, .int i_circles, .ref a_arcs])), (a_arcs, .inl (cyI, 32, .inl f_arcs))] → va_S A s.heap H locs → lv_has ls 5 [(0, .ref a_this), (1, .int v1), (2, .int r_1), (3, .int r_2), (4, .int v4_1)] → W p l e (headSpec wsX2_otherEnd rmX2_otherEnd).room s m (([.ref a_this, .int v1] : List Value).toArray) below meth c H locs 0 0 (MQ below (kQi D cyI cyZ A [(a_this, .inr (2, [.int i_crossings, .int i_circles, .ref a_arcs])), (a_arcs, .inl (cyI, 32, .inl f_arcs))] r) (([.ref a_this, .int v1] : List Value).toArray) s 0 0 A) (F0 m 14 ls []) := by
    intro n_1
    induction n_1 with
    | zero =>
      intro _ _ _ _ hf
      exact (it1_z hf).elim
    | succ n_1 ih_1 =>
      intro v4_1 H locs ls hf hP hD hS hl
      replace hf := it1_s hf
      rw [kX2_otherEnd_L1] at hf
      refine lv_iload hx hb dX2_otherEnd_14 (lv_at hl 4 rfl) ?_
      refine lv_iload_n hx hb dX2_otherEnd_16 rfl (lv_at hl 3 rfl) ?_
      refine lv_icmp_ge (tgt := 45) hx hb dX2_otherEnd_17 (by decide) (fun c_6 => ?_) (fun c_6 => ?_)
      · replace hf := kt_p hf c_6
        refine lv_iload_n hx hb dX2_otherEnd_45 rfl (lv_at hl 1 rfl) ?_
        obtain rfl := some1_s hf
        exact kRi hx hb hr hlocks hP hK hD hS rfl dX2_otherEnd_46
      · replace hf := kt_n hf c_6
        refine lv_iload hx hb dX2_otherEnd_20 (lv_at hl 4 rfl) ?_
        refine lv_iload_n hx hb dX2_otherEnd_22 rfl (lv_at hl 1 rfl) ?_
        refine lv_icmp_eq (tgt := 39) hx hb dX2_otherEnd_23 (by decide) (fun c_5 => ?_) (fun c_5 => ?_)
        · replace hf := kt_p hf c_5
          refine lv_iinc (v := (v4_1 + 1)) (lv' := [(4, .int (v4_1 + 1)), (0, .ref a_this), (1, .int v1), (2, .int r_1), (3, .int r_2)]) hx hb dX2_otherEnd_39 hl (k := 4) rfl rfl (by decide) rfl (fun ls hl => ?_)
          refine lv_goto (tgt := 14) hx hb dX2_otherEnd_42 (by decide) ?_
          exact ih_1 (v4_1 + 1) H locs ls hf hP hD hS (lv_sub hl [1, 2, 3, 4, 0] rfl)
        · replace hf := kt_n hf c_5
          refine lv_aload_n hx hb dX2_otherEnd_26 rfl (lv_at hl 0 rfl) ?_
          refine lv_iload hx hb dX2_otherEnd_27 (lv_at hl 4 rfl) ?_
          obtain ⟨r_3, hc_3, hf⟩ := bnd1_s hf
          refine kcVi (As := [.int v4_1]) (rest := []) (w2 := [(a_this, .inr (2, [.int i_crossings, .int i_circles, .ref a_arcs])), (a_arcs, .inl (cyI, 32, .inl f_arcs))]) S hK hP hD hS hA hN (mX2_arc l D cyI cyZ H.size a_this a_arcs v4_1 i_crossings i_circles f_arcs r_3 hc_3) (cwV 1 hts gX2_otherEnd_X2_arc rfl rfl rfl (by decide +kernel) ⟨Nat.le_of_ble_eq_true rfl, Nat.le_of_ble_eq_true rfl⟩) 2 0 rfl rfl [0, 1] [] [0, 1] rfl rfl rfl rfl (by decide) rfl rfl hl.1 (Nat.le_of_ble_eq_true rfl) dX2_otherEnd_29 ⟨Nat.le_of_ble_eq_true rfl, Nat.le_of_ble_eq_true rfl⟩ (fun H locs hP hD hS => ?_)
          refine lv_iload_n hx hb dX2_otherEnd_32 rfl (lv_at hl 2 rfl) ?_
          refine lv_icmp_ne (tgt := 39) hx hb dX2_otherEnd_33 (by decide) (fun c_4 => ?_) (fun c_4 => ?_)
          · replace hf := kt_n hf c_4
            refine lv_iinc (v := (v4_1 + 1)) (lv' := [(4, .int (v4_1 + 1)), (0, .ref a_this), (1, .int v1), (2, .int r_1), (3, .int r_2)]) hx hb dX2_otherEnd_39 hl (k := 4) rfl rfl (by decide) rfl (fun ls hl => ?_)
            refine lv_goto (tgt := 14) hx hb dX2_otherEnd_42 (by decide) ?_
            exact ih_1 (v4_1 + 1) H locs ls hf hP hD hS (lv_sub hl [1, 2, 3, 4, 0] rfl)
          · replace hf := kt_p hf c_4
            refine lv_iload hx hb dX2_otherEnd_36 (lv_at hl 4 rfl) ?_
            obtain rfl := some1_s hf
            exact kRi hx hb hr hlocks hP hK hD hS rfl dX2_otherEnd_38
  exact hL_1 400 0 H locs ls hf hP hD hS (lv_sub hl [3, 4, 2, 1, 0] rfl)
def kX0_noteOtherEnds_L1 (i_p1_crossings : Int32) (f_p1_arcs : Nat → Int32) (K_1 : Int32 → (Nat → Int32) → Option ((Nat → Int32))) (v2_1 : Int32) (f_otherEnds_1 : Nat → Int32) : Option ((Nat → Int32)) :=
  if 32 ≤ v2_1 then some f_otherEnds_1 else bnd1 (kX2_otherEnd v2_1 i_p1_crossings f_p1_arcs) (fun r_1 => ck v2_1 32 (K_1 (v2_1 + 1) (upd f_otherEnds_1 v2_1.toNatClampNeg r_1)))
def kX0_noteOtherEnds (f_otherEnds : Nat → Int32) (i_p1_crossings : Int32) (f_p1_arcs : Nat → Int32) : Option ((Nat → Int32)) :=
  it2 (kX0_noteOtherEnds_L1 i_p1_crossings f_p1_arcs) 400 0 f_otherEnds
def rmX0_noteOtherEnds : Room := { frames := 2, cells := 0, slots := 0, locals := 45 }
theorem qX0_noteOtherEnds_0 : (.fieldLink RX0 11 "KnotDiagram$Bracket" "otherEnds" "[I" : Cond) ∈ wsX0_noteOtherEnds := by decide +kernel
theorem qX0_noteOtherEnds_X0 : ∀ w ∈ wsX00, w ∈ wsX0_noteOtherEnds := by decide +kernel
set_option maxHeartbeats 4000000 in
set_option maxRecDepth 100000 in
theorem mX0_noteOtherEnds (l : Launch) (D : va_G) (cyI cyZ : ClassId) (sz : Nat) (a_this a_p1 a_otherEnds a_tally a_coefficients a_product a_p1_arcs : Nat) (i_prepared : Int32) (f_otherEnds : Nat → Int32) (i_p1_crossings : Int32) (i_p1_circles : Int32) (f_p1_arcs : Nat → Int32) (o_otherEnds : Nat → Int32) (hf : kX0_noteOtherEnds f_otherEnds i_p1_crossings f_p1_arcs = some o_otherEnds) : Met l yX0_noteOtherEnds wsX0_noteOtherEnds rmX0_noteOtherEnds (kPre D cyI cyZ [.ref a_this, .ref a_p1] [(a_this, .inr (0, [.ref a_otherEnds, .ref a_tally, .ref a_coefficients, .ref a_product, .int i_prepared])), (a_otherEnds, .inl (cyI, 32, .inl f_otherEnds)), (a_p1, .inr (2, [.int i_p1_crossings, .int i_p1_circles, .ref a_p1_arcs])), (a_p1_arcs, .inl (cyI, 32, .inl f_p1_arcs))] sz) (kQv D cyI cyZ (va_A [(a_this, .inr (0, [.ref a_otherEnds, .ref a_tally, .ref a_coefficients, .ref a_product, .int i_prepared])), (a_otherEnds, .inl (cyI, 32, .inl f_otherEnds)), (a_p1, .inr (2, [.int i_p1_crossings, .int i_p1_circles, .ref a_p1_arcs])), (a_p1_arcs, .inl (cyI, 32, .inl f_p1_arcs))] sz) [(a_this, .inr (0, [.ref a_otherEnds, .ref a_tally, .ref a_coefficients, .ref a_product, .int i_prepared])), (a_otherEnds, .inl (cyI, 32, .inl o_otherEnds)), (a_p1, .inr (2, [.int i_p1_crossings, .int i_p1_circles, .ref a_p1_arcs])), (a_p1_arcs, .inl (cyI, 32, .inl f_p1_arcs))]) 0 0 (va_A [(a_this, .inr (0, [.ref a_otherEnds, .ref a_tally, .ref a_coefficients, .ref a_product, .int i_prepared])), (a_otherEnds, .inl (cyI, 32, .inl f_otherEnds)), (a_p1, .inr (2, [.int i_p1_crossings, .int i_p1_circles, .ref a_p1_arcs])), (a_p1_arcs, .inl (cyI, 32, .inl f_p1_arcs))] sz) := by
  refine Met.ofW (cc := cX0_noteOtherEnds) (maxL := 3) (ret := none) (by decide) rfl ?_
  intro p e s m args below meth c s₁ B hml hv
  obtain ⟨rfl, hsz, hP, hK, hD0, hN⟩ := hv
  have hx := B.exec
  have hb := B.bytes
  have hr := B.returns
  have hts := atoms_spec (ws := wsX0_noteOtherEnds) B.pre
  have hown : s.vm.findClass RX0 = some m.cls := findClass_of_methodNamed B.named
  have hlocks := B.notSynchronized
  subst hsz
  have hD := hD0.self (sz := s.heap.size)
  generalize hAe : va_A [(a_this, .inr (0, [.ref a_otherEnds, .ref a_tally, .ref a_coefficients, .ref a_product, .int i_prepared])), (a_otherEnds, .inl (cyI, 32, .inl f_otherEnds)), (a_p1, .inr (2, [.int i_p1_crossings, .int i_p1_circles, .ref a_p1_arcs])), (a_p1_arcs, .inl (cyI, 32, .inl f_p1_arcs))] s.heap.size = A at hD ⊢
  have hA : ∀ q : Nat, s.heap.size ≤ q → A q := fun q h => by rw [← hAe]; exact Or.inr h
  clear hAe hD0
  have hS : va_S A s.heap s.heap [] := va_S.rf
  have S : CallFix p m c cX0_noteOtherEnds 3 s (([.ref a_this, .ref a_p1] : List Value).toArray) wsX0_noteOtherEnds RX0 := ⟨hx, hb, hml, hown, hts⟩
  have hl := lv_entry ([.ref a_this, .ref a_p1]) (n := 3) (Nat.le_of_ble_eq_true rfl)
  rw [lg_entry_eq]
  generalize (lg_sl ([.ref a_this, .ref a_p1]) ++ List.replicate (3 - (lg_sl ([.ref a_this, .ref a_p1])).length) Slot.unset).toArray = ls at hl ⊢
  replace hl : lv_has ls 3 [(0, .ref a_this), (1, .ref a_p1)] := hl
  generalize ([] : List Loc) = locs at hS ⊢
  delta kX0_noteOtherEnds at hf
  obtain ⟨H, hH⟩ : ∃ H, H = s.heap := ⟨_, rfl⟩
  have hS : va_S A s.heap H locs := by rw [hH]; exact hS
  have hP : va_P D vwCl [(a_this, .inr (0, [.ref a_otherEnds, .ref a_tally, .ref a_coefficients, .ref a_product, .int i_prepared])), (a_otherEnds, .inl (cyI, 32, .inl f_otherEnds)), (a_p1, .inr (2, [.int i_p1_crossings, .int i_p1_circles, .ref a_p1_arcs])), (a_p1_arcs, .inl (cyI, 32, .inl f_p1_arcs))] H := by rw [hH]; exact hP
  suffices hgo : W p l e (headSpec wsX0_noteOtherEnds rmX0_noteOtherEnds).room s m (([.ref a_this, .ref a_p1] : List Value).toArray) below meth c H locs 0 0 (MQ below (kQv D cyI cyZ A [(a_this, .inr (0, [.ref a_otherEnds, .ref a_tally, .ref a_coefficients, .ref a_product, .int i_prepared])), (a_otherEnds, .inl (cyI, 32, .inl o_otherEnds)), (a_p1, .inr (2, [.int i_p1_crossings, .int i_p1_circles, .ref a_p1_arcs])), (a_p1_arcs, .inl (cyI, 32, .inl f_p1_arcs))]) (([.ref a_this, .ref a_p1] : List Value).toArray) s 0 0 A) (F0 m 0 ls []) by rw [hH] at hgo; exact hgo
  clear hH
  refine lv_iconst (v := 0) hx hb dX0_noteOtherEnds_0 (by decide) ?_
  refine lv_istore_n (lv' := [(2, .int 0), (0, .ref a_this), (1, .ref a_p1)]) hx hb dX0_noteOtherEnds_1 rfl hl (by decide) rfl (fun ls hl => ?_)
  have hL_1 : ∀ (n : Nat) (v2_1 : Int32) (f_otherEnds_1 : Nat → Int32) (H : Heap) (locs : List Loc) (ls : Array Slot), it2 (kX0_noteOtherEnds_L1 i_p1_crossings f_p1_arcs) n v2_1 f_otherEnds_1 = some o_otherEnds → va_P D vwCl [(a_this, .inr (0, [.ref a_otherEnds, .ref a_tally, .ref a_coefficients, .ref a_product, .int i_prepared])), (a_otherEnds, .inl (cyI, 32, .inl f_otherEnds_1)), (a_p1, .inr (2, [.int i_p1_crossings, .int i_p1_circles, .ref a_p1_arcs])), (a_p1_arcs, .inl (cyI, 32, .inl f_p1_arcs))] H → va_D A [(a_this, .inr (0, [.ref a_otherEnds, .ref a_tally, .ref a_coefficients, .ref a_product, .int i_prepared])), (a_otherEnds, .inl (cyI, 32, .inl f_otherEnds_1)), (a_p1, .inr (2, [.int i_p1_crossings, .int i_p1_circles, .ref a_p1_arcs])), (a_p1_arcs, .inl (cyI, 32, .inl f_p1_arcs))] → va_S A s.heap H locs → lv_has ls 3 [(0, .ref a_this), (1, .ref a_p1), (2, .int v2_1)] → W p l e (headSpec wsX0_noteOtherEnds rmX0_noteOtherEnds).room s m (([.ref a_this, .ref a_p1] : List Value).toArray) below meth c H locs 0 0 (MQ below (kQv D cyI cyZ A [(a_this, .inr (0, [.ref a_otherEnds, .ref a_tally, .ref a_coefficients, .ref a_product, .int i_prepared])), (a_otherEnds, .inl (cyI, 32, .inl o_otherEnds)), (a_p1, .inr (2, [.int i_p1_crossings, .int i_p1_circles, .ref a_p1_arcs])), (a_p1_arcs, .inl (cyI, 32, .inl f_p1_arcs))]) (([.ref a_this, .ref a_p1] : List Value).toArray) s 0 0 A) (F0 m 2 ls []) := by
    intro n_1
    induction n_1 with
    | zero =>
      intro _ _ _ _ _ hf
      exact (it2_z hf).elim
    | succ n_1 ih_1 =>
      intro v2_1 f_otherEnds_1 H locs ls hf hP hD hS hl
      replace hf := it2_s hf
      rw [kX0_noteOtherEnds_L1] at hf
      refine lv_iload_n hx hb dX0_noteOtherEnds_2 rfl (lv_at hl 2 rfl) ?_
      refine lv_bipush (v := 32) hx hb dX0_noteOtherEnds_3 (by decide) ?_
      refine lv_icmp_ge (tgt := 25) hx hb dX0_noteOtherEnds_5 (by decide) (fun c_3 => ?_) (fun c_3 => ?_)
      · replace hf := kt_p hf c_3
        obtain rfl := some1_s hf
        exact kRv hx hb hr hlocks hP hK hD hS dX0_noteOtherEnds_25
      · replace hf := kt_n hf c_3
        refine lv_aload_n hx hb dX0_noteOtherEnds_8 rfl (lv_at hl 0 rfl) ?_
        refine va_get (D := D) (ci := 0) (v := .ref a_otherEnds) (C := RX0) (T := TX0) (N := 5) hx hb hts qX0_noteOtherEnds_X0 hown hK hP 0 rfl rfl 0 (Nat.le_of_ble_eq_true rfl) (hts (.fieldLink RX0 11 "KnotDiagram$Bracket" "otherEnds" "[I") qX0_noteOtherEnds_0) (fun _ h9 => h9) rfl dX0_noteOtherEnds_9 ?_
        refine lv_iload_n hx hb dX0_noteOtherEnds_12 rfl (lv_at hl 2 rfl) ?_
        refine lv_aload_n hx hb dX0_noteOtherEnds_13 rfl (lv_at hl 1 rfl) ?_
        refine lv_iload_n hx hb dX0_noteOtherEnds_14 rfl (lv_at hl 2 rfl) ?_
        obtain ⟨r_1, hc_1, hf⟩ := bnd1_s hf
        refine kcVi (As := [.int v2_1]) (rest := [.int v2_1, .ref a_otherEnds]) (w2 := [(a_this, .inr (0, [.ref a_otherEnds, .ref a_tally, .ref a_coefficients, .ref a_product, .int i_prepared])), (a_otherEnds, .inl (cyI, 32, .inl f_otherEnds_1)), (a_p1, .inr (2, [.int i_p1_crossings, .int i_p1_circles, .ref a_p1_arcs])), (a_p1_arcs, .inl (cyI, 32, .inl f_p1_arcs))]) S hK hP hD hS hA hN (mX2_otherEnd l D cyI cyZ H.size a_p1 a_p1_arcs v2_1 i_p1_crossings i_p1_circles f_p1_arcs r_1 hc_1) (cwV 1 hts gX0_noteOtherEnds_X2_otherEnd rfl rfl rfl (by decide +kernel) ⟨Nat.le_of_ble_eq_true rfl, Nat.le_of_ble_eq_true rfl⟩) 2 2 rfl rfl [2, 3] [0, 1] [0, 1, 2, 3] rfl rfl rfl rfl (by decide) rfl rfl hl.1 (Nat.le_of_ble_eq_true rfl) dX0_noteOtherEnds_15 ⟨Nat.le_of_ble_eq_true rfl, Nat.le_of_ble_eq_true rfl⟩ (fun H locs hP hD hS => ?_)
        obtain ⟨hi_2, hf⟩ := ck_s hf
        refine va_iast hx hb hK hP hD hS 1 0 rfl rfl hi_2 dX0_noteOtherEnds_18 (fun H locs hP hD hS => ?_)
        replace hP : va_P D vwCl [(a_this, .inr (0, [.ref a_otherEnds, .ref a_tally, .ref a_coefficients, .ref a_product, .int i_prepared])), (a_otherEnds, .inl (cyI, 32, .inl (upd f_otherEnds_1 v2_1.toNatClampNeg r_1))), (a_p1, .inr (2, [.int i_p1_crossings, .int i_p1_circles, .ref a_p1_arcs])), (a_p1_arcs, .inl (cyI, 32, .inl f_p1_arcs))] H := hP
        replace hD : va_D A [(a_this, .inr (0, [.ref a_otherEnds, .ref a_tally, .ref a_coefficients, .ref a_product, .int i_prepared])), (a_otherEnds, .inl (cyI, 32, .inl (upd f_otherEnds_1 v2_1.toNatClampNeg r_1))), (a_p1, .inr (2, [.int i_p1_crossings, .int i_p1_circles, .ref a_p1_arcs])), (a_p1_arcs, .inl (cyI, 32, .inl f_p1_arcs))] := hD
        refine lv_iinc (v := (v2_1 + 1)) (lv' := [(2, .int (v2_1 + 1)), (0, .ref a_this), (1, .ref a_p1)]) hx hb dX0_noteOtherEnds_19 hl (k := 2) rfl rfl (by decide) rfl (fun ls hl => ?_)
        refine lv_goto (tgt := 2) hx hb dX0_noteOtherEnds_22 (by decide) ?_
        exact ih_1 (v2_1 + 1) (upd f_otherEnds_1 v2_1.toNatClampNeg r_1) H locs ls hf hP hD hS (lv_sub hl [1, 2, 0] rfl)
  exact hL_1 400 0 f_otherEnds H locs ls hf hP hD hS (lv_sub hl [1, 2, 0] rfl)
def kX9_contains (v0 : Int32) (v1 : Int32) : Option (Int32) :=
  if ((iushr v0 v1) &&& 1) = 0 then some 0 else some 1
def rmX9_contains : Room := { frames := 0, cells := 0, slots := 0, locals := 0 }
set_option maxHeartbeats 4000000 in
set_option maxRecDepth 100000 in
theorem mX9_contains (l : Launch) (D : va_G) (cyI cyZ : ClassId) (sz : Nat) (v0 : Int32) (v1 : Int32) (r : Int32) (hf : kX9_contains v0 v1 = some r) : Met l yX9_contains wsX9_contains rmX9_contains (kPre D cyI cyZ [.int v0, .int v1] [] sz) (kQi D cyI cyZ (va_A [] sz) [] r) 0 0 (va_A [] sz) := by
  refine Met.ofW (cc := cX9_contains) (maxL := 2) (ret := (some .boolean)) (by decide) rfl ?_
  intro p e s m args below meth c s₁ B hml hv
  obtain ⟨rfl, hsz, hP, hK, hD0, hN⟩ := hv
  have hx := B.exec
  have hb := B.bytes
  have hr := B.returns
  have hts := atoms_spec (ws := wsX9_contains) B.pre
  have hown : s.vm.findClass RX9 = some m.cls := findClass_of_methodNamed B.named
  have hlocks := B.notSynchronized
  subst hsz
  have hD := hD0.self (sz := s.heap.size)
  generalize hAe : va_A [] s.heap.size = A at hD ⊢
  have hA : ∀ q : Nat, s.heap.size ≤ q → A q := fun q h => by rw [← hAe]; exact Or.inr h
  clear hAe hD0
  have hS : va_S A s.heap s.heap [] := va_S.rf
  have S : CallFix p m c cX9_contains 2 s (([.int v0, .int v1] : List Value).toArray) wsX9_contains RX9 := ⟨hx, hb, hml, hown, hts⟩
  have hl := lv_entry ([.int v0, .int v1]) (n := 2) (Nat.le_of_ble_eq_true rfl)
  rw [lg_entry_eq]
  generalize (lg_sl ([.int v0, .int v1]) ++ List.replicate (2 - (lg_sl ([.int v0, .int v1])).length) Slot.unset).toArray = ls at hl ⊢
  replace hl : lv_has ls 2 [(0, .int v0), (1, .int v1)] := hl
  generalize ([] : List Loc) = locs at hS ⊢
  delta kX9_contains at hf
  obtain ⟨H, hH⟩ : ∃ H, H = s.heap := ⟨_, rfl⟩
  have hS : va_S A s.heap H locs := by rw [hH]; exact hS
  have hP : va_P D vwCl [] H := by rw [hH]; exact hP
  suffices hgo : W p l e (headSpec wsX9_contains rmX9_contains).room s m (([.int v0, .int v1] : List Value).toArray) below meth c H locs 0 0 (MQ below (kQi D cyI cyZ A [] r) (([.int v0, .int v1] : List Value).toArray) s 0 0 A) (F0 m 0 ls []) by rw [hH] at hgo; exact hgo
  clear hH
  refine lv_iload_n hx hb dX9_contains_0 rfl (lv_at hl 0 rfl) ?_
  refine lv_iload_n hx hb dX9_contains_1 rfl (lv_at hl 1 rfl) ?_
  refine k_iushr hx hb dX9_contains_2 ?_
  refine lv_iconst (v := 1) hx hb dX9_contains_3 (by decide) ?_
  refine lv_iand hx hb dX9_contains_4 ?_
  refine lv_if_eq (tgt := 12) hx hb dX9_contains_5 (by decide) (fun c_1 => ?_) (fun c_1 => ?_)
  · replace hf := kt_p hf c_1
    refine lv_iconst (v := 0) hx hb dX9_contains_12 (by decide) ?_
    obtain rfl := some1_s hf
    exact kRz hx hb hr hlocks hP hK hD hS zn0 rfl dX9_contains_13
  · replace hf := kt_n hf c_1
    refine lv_iconst (v := 1) hx hb dX9_contains_8 (by decide) ?_
    refine lv_goto (tgt := 13) hx hb dX9_contains_9 (by decide) ?_
    obtain rfl := some1_s hf
    exact kRz hx hb hr hlocks hP hK hD hS zn1 rfl dX9_contains_13
def kX9_bit (v0 : Int32) : Option (Int32) :=
  some (ishl 1 v0)
def rmX9_bit : Room := { frames := 0, cells := 0, slots := 0, locals := 0 }
set_option maxHeartbeats 4000000 in
set_option maxRecDepth 100000 in
theorem mX9_bit (l : Launch) (D : va_G) (cyI cyZ : ClassId) (sz : Nat) (v0 : Int32) (r : Int32) (hf : kX9_bit v0 = some r) : Met l yX9_bit wsX9_bit rmX9_bit (kPre D cyI cyZ [.int v0] [] sz) (kQi D cyI cyZ (va_A [] sz) [] r) 0 0 (va_A [] sz) := by
  refine Met.ofW (cc := cX9_bit) (maxL := 1) (ret := (some .int)) (by decide) rfl ?_
  intro p e s m args below meth c s₁ B hml hv
  obtain ⟨rfl, hsz, hP, hK, hD0, hN⟩ := hv
  have hx := B.exec
  have hb := B.bytes
  have hr := B.returns
  have hts := atoms_spec (ws := wsX9_bit) B.pre
  have hown : s.vm.findClass RX9 = some m.cls := findClass_of_methodNamed B.named
  have hlocks := B.notSynchronized
  subst hsz
  have hD := hD0.self (sz := s.heap.size)
  generalize hAe : va_A [] s.heap.size = A at hD ⊢
  have hA : ∀ q : Nat, s.heap.size ≤ q → A q := fun q h => by rw [← hAe]; exact Or.inr h
  clear hAe hD0
  have hS : va_S A s.heap s.heap [] := va_S.rf
  have S : CallFix p m c cX9_bit 1 s (([.int v0] : List Value).toArray) wsX9_bit RX9 := ⟨hx, hb, hml, hown, hts⟩
  have hl := lv_entry ([.int v0]) (n := 1) (Nat.le_of_ble_eq_true rfl)
  rw [lg_entry_eq]
  generalize (lg_sl ([.int v0]) ++ List.replicate (1 - (lg_sl ([.int v0])).length) Slot.unset).toArray = ls at hl ⊢
  replace hl : lv_has ls 1 [(0, .int v0)] := hl
  generalize ([] : List Loc) = locs at hS ⊢
  delta kX9_bit at hf
  obtain ⟨H, hH⟩ : ∃ H, H = s.heap := ⟨_, rfl⟩
  have hS : va_S A s.heap H locs := by rw [hH]; exact hS
  have hP : va_P D vwCl [] H := by rw [hH]; exact hP
  suffices hgo : W p l e (headSpec wsX9_bit rmX9_bit).room s m (([.int v0] : List Value).toArray) below meth c H locs 0 0 (MQ below (kQi D cyI cyZ A [] r) (([.int v0] : List Value).toArray) s 0 0 A) (F0 m 0 ls []) by rw [hH] at hgo; exact hgo
  clear hH
  refine lv_iconst (v := 1) hx hb dX9_bit_0 (by decide) ?_
  refine lv_iload_n hx hb dX9_bit_1 rfl (lv_at hl 0 rfl) ?_
  refine k_ishl hx hb dX9_bit_2 ?_
  obtain rfl := some1_s hf
  exact kRi hx hb hr hlocks hP hK hD hS rfl dX9_bit_3
def kX0_followLoop_J3 (K_1 : Int32 → Int32 → Int32 → Option (Int32)) (v4_1 : Int32) (r_3 : Int32) (r_4 : Int32) (v1 : Int32) (v6_1 : Int32)  : Option (Int32) :=
  K_1 (v4_1 ||| (r_3 ||| r_4)) v1 (v6_1 + 1)
def kX0_followLoop_J2 (v5_1 : Int32) (K_1 : Int32 → Int32 → Int32 → Option (Int32)) (v4_1 : Int32) (v1 : Int32) (v6_1 : Int32) (f_otherEnds : Nat → Int32) (t0_2 : Int32) : Option (Int32) :=
  bnd1 (kX9_bit v5_1) (fun r_3 => bnd1 (kX9_bit t0_2) (fun r_4 => if t0_2 < 0 then kX0_followLoop_J3 K_1 v4_1 r_3 r_4 v1 v6_1 else if 32 ≤ t0_2 then kX0_followLoop_J3 K_1 v4_1 r_3 r_4 v1 v6_1 else ck t0_2 32 (K_1 (v4_1 ||| (r_3 ||| r_4)) (f_otherEnds t0_2.toNatClampNeg) (v6_1 + 1))))
def kX0_followLoop_L1 (v2 : Int32) (v1 : Int32) (f_otherEnds : Nat → Int32) (K_1 : Int32 → Int32 → Int32 → Option (Int32)) (v4_1 : Int32) (v5_1 : Int32) (v6_1 : Int32) : Option (Int32) :=
  if 32 ≤ v6_1 then some v4_1 else bnd1 (kX9_contains v4_1 v5_1) (fun r_1 => if r_1 = 0 then bnd1 (kX9_contains v2 (ishr v5_1 2)) (fun r_2 => if r_2 = 0 then kX0_followLoop_J2 v5_1 K_1 v4_1 v1 v6_1 f_otherEnds (v5_1 ^^^ 1) else kX0_followLoop_J2 v5_1 K_1 v4_1 v1 v6_1 f_otherEnds (v5_1 ^^^ 3)) else some v4_1)
def kX0_followLoop (v1 : Int32) (v2 : Int32) (v3 : Int32) (f_otherEnds : Nat → Int32) : Option (Int32) :=
  it3 (kX0_followLoop_L1 v2 v1 f_otherEnds) 400 v3 v1 0
def rmX0_followLoop : Room := { frames := 1, cells := 0, slots := 0, locals := 21 }
theorem qX0_followLoop_0 : (.initialized RX9 : Cond) ∈ wsX0_followLoop := by decide +kernel
theorem qX0_followLoop_1 : (.static yX9_contains : Cond) ∈ wsX0_followLoop := by decide +kernel
theorem qX0_followLoop_2 : (.static yX9_bit : Cond) ∈ wsX0_followLoop := by decide +kernel
theorem qX0_followLoop_3 : (.fieldLink RX0 11 "KnotDiagram$Bracket" "otherEnds" "[I" : Cond) ∈ wsX0_followLoop := by decide +kernel
theorem qX0_followLoop_X0 : ∀ w ∈ wsX00, w ∈ wsX0_followLoop := by decide +kernel
set_option maxHeartbeats 4000000 in
set_option maxRecDepth 100000 in
theorem mX0_followLoop (l : Launch) (D : va_G) (cyI cyZ : ClassId) (sz : Nat) (a_this a_otherEnds a_tally a_coefficients a_product : Nat) (v1 : Int32) (v2 : Int32) (v3 : Int32) (i_prepared : Int32) (f_otherEnds : Nat → Int32) (r : Int32) (hf : kX0_followLoop v1 v2 v3 f_otherEnds = some r) : Met l yX0_followLoop wsX0_followLoop rmX0_followLoop (kPre D cyI cyZ [.ref a_this, .int v1, .int v2, .int v3] [(a_this, .inr (0, [.ref a_otherEnds, .ref a_tally, .ref a_coefficients, .ref a_product, .int i_prepared])), (a_otherEnds, .inl (cyI, 32, .inl f_otherEnds))] sz) (kQi D cyI cyZ (va_A [(a_this, .inr (0, [.ref a_otherEnds, .ref a_tally, .ref a_coefficients, .ref a_product, .int i_prepared])), (a_otherEnds, .inl (cyI, 32, .inl f_otherEnds))] sz) [(a_this, .inr (0, [.ref a_otherEnds, .ref a_tally, .ref a_coefficients, .ref a_product, .int i_prepared])), (a_otherEnds, .inl (cyI, 32, .inl f_otherEnds))] r) 0 0 (va_A [(a_this, .inr (0, [.ref a_otherEnds, .ref a_tally, .ref a_coefficients, .ref a_product, .int i_prepared])), (a_otherEnds, .inl (cyI, 32, .inl f_otherEnds))] sz) := by
  refine Met.ofW (cc := cX0_followLoop) (maxL := 8) (ret := (some .int)) (by decide) rfl ?_
  intro p e s m args below meth c s₁ B hml hv
  obtain ⟨rfl, hsz, hP, hK, hD0, hN⟩ := hv
  have hx := B.exec
  have hb := B.bytes
  have hr := B.returns
  have hts := atoms_spec (ws := wsX0_followLoop) B.pre
  have hown : s.vm.findClass RX0 = some m.cls := findClass_of_methodNamed B.named
  have hlocks := B.notSynchronized
  subst hsz
  have hD := hD0.self (sz := s.heap.size)
  generalize hAe : va_A [(a_this, .inr (0, [.ref a_otherEnds, .ref a_tally, .ref a_coefficients, .ref a_product, .int i_prepared])), (a_otherEnds, .inl (cyI, 32, .inl f_otherEnds))] s.heap.size = A at hD ⊢
  have hA : ∀ q : Nat, s.heap.size ≤ q → A q := fun q h => by rw [← hAe]; exact Or.inr h
  clear hAe hD0
  have hS : va_S A s.heap s.heap [] := va_S.rf
  have S : CallFix p m c cX0_followLoop 8 s (([.ref a_this, .int v1, .int v2, .int v3] : List Value).toArray) wsX0_followLoop RX0 := ⟨hx, hb, hml, hown, hts⟩
  have hl := lv_entry ([.ref a_this, .int v1, .int v2, .int v3]) (n := 8) (Nat.le_of_ble_eq_true rfl)
  rw [lg_entry_eq]
  generalize (lg_sl ([.ref a_this, .int v1, .int v2, .int v3]) ++ List.replicate (8 - (lg_sl ([.ref a_this, .int v1, .int v2, .int v3])).length) Slot.unset).toArray = ls at hl ⊢
  replace hl : lv_has ls 8 [(0, .ref a_this), (1, .int v1), (2, .int v2), (3, .int v3)] := hl
  generalize ([] : List Loc) = locs at hS ⊢
  delta kX0_followLoop at hf
  obtain ⟨H, hH⟩ : ∃ H, H = s.heap := ⟨_, rfl⟩
  have hS : va_S A s.heap H locs := by rw [hH]; exact hS
  have hP : va_P D vwCl [(a_this, .inr (0, [.ref a_otherEnds, .ref a_tally, .ref a_coefficients, .ref a_product, .int i_prepared])), (a_otherEnds, .inl (cyI, 32, .inl f_otherEnds))] H := by rw [hH]; exact hP
  suffices hgo : W p l e (headSpec wsX0_followLoop rmX0_followLoop).room s m (([.ref a_this, .int v1, .int v2, .int v3] : List Value).toArray) below meth c H locs 0 0 (MQ below (kQi D cyI cyZ A [(a_this, .inr (0, [.ref a_otherEnds, .ref a_tally, .ref a_coefficients, .ref a_product, .int i_prepared])), (a_otherEnds, .inl (cyI, 32, .inl f_otherEnds))] r) (([.ref a_this, .int v1, .int v2, .int v3] : List Value).toArray) s 0 0 A) (F0 m 0 ls []) by rw [hH] at hgo; exact hgo
  clear hH
  refine lv_iload_n hx hb dX0_followLoop_0 rfl (lv_at hl 3 rfl) ?_
  refine lv_istore (lv' := [(4, .int v3), (0, .ref a_this), (1, .int v1), (2, .int v2), (3, .int v3)]) hx hb dX0_followLoop_1 hl (by decide) rfl (fun ls hl => ?_)
  refine lv_iload_n hx hb dX0_followLoop_3 rfl (lv_at hl 2 rfl) ?_
  refine lv_istore (lv' := [(5, .int v1), (4, .int v3), (0, .ref a_this), (1, .int v1), (2, .int v2), (3, .int v3)]) hx hb dX0_followLoop_4 hl (by decide) rfl (fun ls hl => ?_)
  refine lv_iconst (v := 0) hx hb dX0_followLoop_6 (by decide) ?_
  refine lv_istore (lv' := [(6, .int 0), (5, .int v1), (4, .int v3), (0, .ref a_this), (1, .int v1), (2, .int v2), (3, .int v3)]) hx hb dX0_followLoop_7 hl (by decide) rfl (fun ls hl => ?_)
  have hL_1 : ∀ (n : Nat) (v4_1 : Int32) (v5_1 : Int32) (v6_1 : Int32) (H : Heap) (locs : List Loc) (ls : Array Slot), it3 (kX0_followLoop_L1 v2 v1 f_otherEnds) n v4_1 v5_1 v6_1 = some r → va_P D vwCl [(a_this, .inr (0, [.ref a_otherEnds, .ref a_tally, .ref a_coefficients, .ref a_product, .int i_prepared])), (a_otherEnds, .inl (cyI, 32, .inl f_otherEnds))] H → va_D A [(a_this, .inr (0, [.ref a_otherEnds, .ref a_tally, .ref a_coefficients, .ref a_product, .int i_prepared])), (a_otherEnds, .inl (cyI, 32, .inl f_otherEnds))] → va_S A s.heap H locs → lv_has ls 8 [(0, .ref a_this), (1, .int v1), (2, .int v2), (4, .int v4_1), (5, .int v5_1), (6, .int v6_1)] → W p l e (headSpec wsX0_followLoop rmX0_followLoop).room s m (([.ref a_this, .int v1, .int v2, .int v3] : List Value).toArray) below meth c H locs 0 0 (MQ below (kQi D cyI cyZ A [(a_this, .inr (0, [.ref a_otherEnds, .ref a_tally, .ref a_coefficients, .ref a_product, .int i_prepared])), (a_otherEnds, .inl (cyI, 32, .inl f_otherEnds))] r) (([.ref a_this, .int v1, .int v2, .int v3] : List Value).toArray) s 0 0 A) (F0 m 9 ls []) := by
    intro n_1
    induction n_1 with
    | zero =>
      intro _ _ _ _ _ _ hf
      exact (it3_z hf).elim
    | succ n_1 ih_1 =>
      intro v4_1 v5_1 v6_1 H locs ls hf hP hD hS hl
      replace hf := it3_s hf
      rw [kX0_followLoop_L1] at hf
      refine lv_iload hx hb dX0_followLoop_9 (lv_at hl 5 rfl) ?_
      refine lv_bipush (v := 32) hx hb dX0_followLoop_11 (by decide) ?_
      refine lv_icmp_ge (tgt := 97) hx hb dX0_followLoop_13 (by decide) (fun c_10 => ?_) (fun c_10 => ?_)
      · replace hf := kt_p hf c_10
        refine lv_iload hx hb dX0_followLoop_97 (lv_at hl 3 rfl) ?_
        obtain rfl := some1_s hf
        exact kRi hx hb hr hlocks hP hK hD hS rfl dX0_followLoop_99
      · replace hf := kt_n hf c_10
        refine lv_iload hx hb dX0_followLoop_16 (lv_at hl 3 rfl) ?_
        refine lv_iload hx hb dX0_followLoop_18 (lv_at hl 4 rfl) ?_
        obtain ⟨r_1, hc_1, hf⟩ := bnd1_s hf
        refine kcNi (As := [.int v4_1, .int v5_1]) (rest := []) (w2 := [(a_this, .inr (0, [.ref a_otherEnds, .ref a_tally, .ref a_coefficients, .ref a_product, .int i_prepared])), (a_otherEnds, .inl (cyI, 32, .inl f_otherEnds))]) S hK hP hD hS hA hN (mX9_contains l D cyI cyZ H.size v4_1 v5_1 r_1 hc_1) ⟨va_cnB 2 hts gX0_followLoop_X9_contains_n72 rfl rfl rfl hN.2.2.2.2.1 (hts (.initialized RX9) qX0_followLoop_0) (by decide +kernel) ⟨Nat.le_of_ble_eq_true rfl, Nat.le_of_ble_eq_true rfl⟩, (hts (.static yX9_contains) qX0_followLoop_1), trivial⟩ [] [0, 1] [0, 1] rfl rfl rfl rfl (by decide) rfl rfl hl.1 (Nat.le_of_ble_eq_true rfl) dX0_followLoop_20 ⟨Nat.le_of_ble_eq_true rfl, Nat.le_of_ble_eq_true rfl⟩ (fun H locs hP hD hS => ?_)
        refine lv_if_ne (tgt := 97) hx hb dX0_followLoop_23 (by decide) (fun c_9 => ?_) (fun c_9 => ?_)
        · replace hf := kt_n hf c_9
          refine lv_iload hx hb dX0_followLoop_97 (lv_at hl 3 rfl) ?_
          obtain rfl := some1_s hf
          exact kRi hx hb hr hlocks hP hK hD hS rfl dX0_followLoop_99
        · replace hf := kt_p hf c_9
          refine lv_iload_n hx hb dX0_followLoop_26 rfl (lv_at hl 2 rfl) ?_
          refine lv_iload hx hb dX0_followLoop_27 (lv_at hl 4 rfl) ?_
          refine lv_iconst (v := 2) hx hb dX0_followLoop_29 (by decide) ?_
          refine k_ishr hx hb dX0_followLoop_30 ?_
          obtain ⟨r_2, hc_2, hf⟩ := bnd1_s hf
          refine kcNi (As := [.int v2, .int (ishr v5_1 2)]) (rest := []) (w2 := [(a_this, .inr (0, [.ref a_otherEnds, .ref a_tally, .ref a_coefficients, .ref a_product, .int i_prepared])), (a_otherEnds, .inl (cyI, 32, .inl f_otherEnds))]) S hK hP hD hS hA hN (mX9_contains l D cyI cyZ H.size v2 (ishr v5_1 2) r_2 hc_2) ⟨va_cnB 2 hts gX0_followLoop_X9_contains_n72 rfl rfl rfl hN.2.2.2.2.1 (hts (.initialized RX9) qX0_followLoop_0) (by decide +kernel) ⟨Nat.le_of_ble_eq_true rfl, Nat.le_of_ble_eq_true rfl⟩, (hts (.static yX9_contains) qX0_followLoop_1), trivial⟩ [] [0, 1] [0, 1] rfl rfl rfl rfl (by decide) rfl rfl hl.1 (Nat.le_of_ble_eq_true rfl) dX0_followLoop_31 ⟨Nat.le_of_ble_eq_true rfl, Nat.le_of_ble_eq_true rfl⟩ (fun H locs hP hD hS => ?_)
          have hJ_2 : ∀ (t0_2 : Int32) (H : Heap) (locs : List Loc) (ls : Array Slot), kX0_followLoop_J2 v5_1 (it3 (kX0_followLoop_L1 v2 v1 f_otherEnds) n_1) v4_1 v1 v6_1 f_otherEnds t0_2 = some r → va_P D vwCl [(a_this, .inr (0, [.ref a_otherEnds, .ref a_tally, .ref a_coefficients, .ref a_product, .int i_prepared])), (a_otherEnds, .inl (cyI, 32, .inl f_otherEnds))] H → va_D A [(a_this, .inr (0, [.ref a_otherEnds, .ref a_tally, .ref a_coefficients, .ref a_product, .int i_prepared])), (a_otherEnds, .inl (cyI, 32, .inl f_otherEnds))] → va_S A s.heap H locs → lv_has ls 8 [(0, .ref a_this), (1, .int v1), (2, .int v2), (4, .int v4_1), (5, .int v5_1), (6, .int v6_1)] → W p l e (headSpec wsX0_followLoop rmX0_followLoop).room s m (([.ref a_this, .int v1, .int v2, .int v3] : List Value).toArray) below meth c H locs 0 0 (MQ below (kQi D cyI cyZ A [(a_this, .inr (0, [.ref a_otherEnds, .ref a_tally, .ref a_coefficients, .ref a_product, .int i_prepared])), (a_otherEnds, .inl (cyI, 32, .inl f_otherEnds))] r) (([.ref a_this, .int v1, .int v2, .int v3] : List Value).toArray) s 0 0 A) (F0 m 48 ls [.int t0_2]) := by
            intro t0_2 H locs ls hf hP hD hS hl
            delta kX0_followLoop_J2 at hf
            refine lv_istore (lv' := [(7, .int t0_2), (0, .ref a_this), (1, .int v1), (2, .int v2), (4, .int v4_1), (5, .int v5_1), (6, .int v6_1)]) hx hb dX0_followLoop_48 hl (by decide) rfl (fun ls hl => ?_)
            refine lv_iload hx hb dX0_followLoop_50 (lv_at hl 4 rfl) ?_
            refine lv_iload hx hb dX0_followLoop_52 (lv_at hl 5 rfl) ?_
            obtain ⟨r_3, hc_3, hf⟩ := bnd1_s hf
            refine kcNi (As := [.int v5_1]) (rest := [.int v4_1]) (w2 := [(a_this, .inr (0, [.ref a_otherEnds, .ref a_tally, .ref a_coefficients, .ref a_product, .int i_prepared])), (a_otherEnds, .inl (cyI, 32, .inl f_otherEnds))]) S hK hP hD hS hA hN (mX9_bit l D cyI cyZ H.size v5_1 r_3 hc_3) ⟨va_cnB 1 hts gX0_followLoop_X9_bit_n80 rfl rfl rfl hN.2.2.2.2.2 (hts (.initialized RX9) qX0_followLoop_0) (by decide +kernel) ⟨Nat.le_of_ble_eq_true rfl, Nat.le_of_ble_eq_true rfl⟩, (hts (.static yX9_bit) qX0_followLoop_2), trivial⟩ [] [0, 1] [0, 1] rfl rfl rfl rfl (by decide) rfl rfl hl.1 (Nat.le_of_ble_eq_true rfl) dX0_followLoop_54 ⟨Nat.le_of_ble_eq_true rfl, Nat.le_of_ble_eq_true rfl⟩ (fun H locs hP hD hS => ?_)
            refine lv_iload hx hb dX0_followLoop_57 (lv_at hl 0 rfl) ?_
            obtain ⟨r_4, hc_4, hf⟩ := bnd1_s hf
            refine kcNi (As := [.int t0_2]) (rest := [.int r_3, .int v4_1]) (w2 := [(a_this, .inr (0, [.ref a_otherEnds, .ref a_tally, .ref a_coefficients, .ref a_product, .int i_prepared])), (a_otherEnds, .inl (cyI, 32, .inl f_otherEnds))]) S hK hP hD hS hA hN (mX9_bit l D cyI cyZ H.size t0_2 r_4 hc_4) ⟨va_cnB 1 hts gX0_followLoop_X9_bit_n80 rfl rfl rfl hN.2.2.2.2.2 (hts (.initialized RX9) qX0_followLoop_0) (by decide +kernel) ⟨Nat.le_of_ble_eq_true rfl, Nat.le_of_ble_eq_true rfl⟩, (hts (.static yX9_bit) qX0_followLoop_2), trivial⟩ [] [0, 1] [0, 1] rfl rfl rfl rfl (by decide) rfl rfl hl.1 (Nat.le_of_ble_eq_true rfl) dX0_followLoop_59 ⟨Nat.le_of_ble_eq_true rfl, Nat.le_of_ble_eq_true rfl⟩ (fun H locs hP hD hS => ?_)
            refine lv_ior hx hb dX0_followLoop_62 ?_
            refine lv_ior hx hb dX0_followLoop_63 ?_
            refine lv_istore (lv' := [(4, .int (v4_1 ||| (r_3 ||| r_4))), (7, .int t0_2), (0, .ref a_this), (1, .int v1), (2, .int v2), (5, .int v5_1), (6, .int v6_1)]) hx hb dX0_followLoop_64 hl (by decide) rfl (fun ls hl => ?_)
            refine lv_iload hx hb dX0_followLoop_66 (lv_at hl 1 rfl) ?_
            have hJ_3 : ∀  (H : Heap) (locs : List Loc) (ls : Array Slot), kX0_followLoop_J3 (it3 (kX0_followLoop_L1 v2 v1 f_otherEnds) n_1) v4_1 r_3 r_4 v1 v6_1  = some r → va_P D vwCl [(a_this, .inr (0, [.ref a_otherEnds, .ref a_tally, .ref a_coefficients, .ref a_product, .int i_prepared])), (a_otherEnds, .inl (cyI, 32, .inl f_otherEnds))] H → va_D A [(a_this, .inr (0, [.ref a_otherEnds, .ref a_tally, .ref a_coefficients, .ref a_product, .int i_prepared])), (a_otherEnds, .inl (cyI, 32, .inl f_otherEnds))] → va_S A s.heap H locs → lv_has ls 8 [(0, .ref a_this), (1, .int v1), (2, .int v2), (4, .int (v4_1 ||| (r_3 ||| r_4))), (6, .int v6_1)] → W p l e (headSpec wsX0_followLoop rmX0_followLoop).room s m (([.ref a_this, .int v1, .int v2, .int v3] : List Value).toArray) below meth c H locs 0 0 (MQ below (kQi D cyI cyZ A [(a_this, .inr (0, [.ref a_otherEnds, .ref a_tally, .ref a_coefficients, .ref a_product, .int i_prepared])), (a_otherEnds, .inl (cyI, 32, .inl f_otherEnds))] r) (([.ref a_this, .int v1, .int v2, .int v3] : List Value).toArray) s 0 0 A) (F0 m 88 ls []) := by
              intro  H locs ls hf hP hD hS hl
              delta kX0_followLoop_J3 at hf
              refine lv_iload_n hx hb dX0_followLoop_88 rfl (lv_at hl 1 rfl) ?_
              refine lv_istore (lv' := [(5, .int v1), (0, .ref a_this), (1, .int v1), (2, .int v2), (4, .int (v4_1 ||| (r_3 ||| r_4))), (6, .int v6_1)]) hx hb dX0_followLoop_89 hl (by decide) rfl (fun ls hl => ?_)
              refine lv_iinc (v := (v6_1 + 1)) (lv' := [(6, .int (v6_1 + 1)), (5, .int v1), (0, .ref a_this), (1, .int v1), (2, .int v2), (4, .int (v4_1 ||| (r_3 ||| r_4)))]) hx hb dX0_followLoop_91 hl (k := 5) rfl rfl (by decide) rfl (fun ls hl => ?_)
              refine lv_goto (tgt := 9) hx hb dX0_followLoop_94 (by decide) ?_
              exact ih_1 (v4_1 ||| (r_3 ||| r_4)) v1 (v6_1 + 1) H locs ls hf hP hD hS (lv_sub hl [2, 3, 4, 5, 1, 0] rfl)
            refine lv_if_lt (tgt := 88) hx hb dX0_followLoop_68 (by decide) (fun c_7 => ?_) (fun c_7 => ?_)
            · replace hf := kt_p hf c_7
              exact hJ_3 H locs ls hf hP hD hS (lv_sub hl [2, 3, 4, 0, 6] rfl)
            · replace hf := kt_n hf c_7
              refine lv_iload hx hb dX0_followLoop_71 (lv_at hl 1 rfl) ?_
              refine lv_bipush (v := 32) hx hb dX0_followLoop_73 (by decide) ?_
              refine lv_icmp_ge (tgt := 88) hx hb dX0_followLoop_75 (by decide) (fun c_6 => ?_) (fun c_6 => ?_)
              · replace hf := kt_p hf c_6
                exact hJ_3 H locs ls hf hP hD hS (lv_sub hl [2, 3, 4, 0, 6] rfl)
              · replace hf := kt_n hf c_6
                refine lv_aload_n hx hb dX0_followLoop_78 rfl (lv_at hl 2 rfl) ?_
                refine va_get (D := D) (ci := 0) (v := .ref a_otherEnds) (C := RX0) (T := TX0) (N := 5) hx hb hts qX0_followLoop_X0 hown hK hP 0 rfl rfl 0 (Nat.le_of_ble_eq_true rfl) (hts (.fieldLink RX0 11 "KnotDiagram$Bracket" "otherEnds" "[I") qX0_followLoop_3) (fun _ h9 => h9) rfl dX0_followLoop_79 ?_
                refine lv_iload hx hb dX0_followLoop_82 (lv_at hl 1 rfl) ?_
                obtain ⟨hi_5, hf⟩ := ck_s hf
                refine va_iald hx hb hK hP 1 0 rfl rfl hi_5 dX0_followLoop_84 ?_
                refine lv_goto (tgt := 89) hx hb dX0_followLoop_85 (by decide) ?_
                refine lv_istore (lv' := [(5, .int (f_otherEnds t0_2.toNatClampNeg)), (4, .int (v4_1 ||| (r_3 ||| r_4))), (7, .int t0_2), (0, .ref a_this), (1, .int v1), (2, .int v2), (6, .int v6_1)]) hx hb dX0_followLoop_89 hl (by decide) rfl (fun ls hl => ?_)
                refine lv_iinc (v := (v6_1 + 1)) (lv' := [(6, .int (v6_1 + 1)), (5, .int (f_otherEnds t0_2.toNatClampNeg)), (4, .int (v4_1 ||| (r_3 ||| r_4))), (7, .int t0_2), (0, .ref a_this), (1, .int v1), (2, .int v2)]) hx hb dX0_followLoop_91 hl (k := 6) rfl rfl (by decide) rfl (fun ls hl => ?_)
                refine lv_goto (tgt := 9) hx hb dX0_followLoop_94 (by decide) ?_
                exact ih_1 (v4_1 ||| (r_3 ||| r_4)) (f_otherEnds t0_2.toNatClampNeg) (v6_1 + 1) H locs ls hf hP hD hS (lv_sub hl [4, 5, 6, 2, 1, 0] rfl)
          refine lv_if_eq (tgt := 44) hx hb dX0_followLoop_34 (by decide) (fun c_8 => ?_) (fun c_8 => ?_)
          · replace hf := kt_p hf c_8
            refine lv_iload hx hb dX0_followLoop_44 (lv_at hl 4 rfl) ?_
            refine lv_iconst (v := 1) hx hb dX0_followLoop_46 (by decide) ?_
            refine lv_ixor hx hb dX0_followLoop_47 ?_
            exact hJ_2 (v5_1 ^^^ 1) H locs ls hf hP hD hS (lv_sub hl [0, 1, 2, 3, 4, 5] rfl)
          · replace hf := kt_n hf c_8
            refine lv_iload hx hb dX0_followLoop_37 (lv_at hl 4 rfl) ?_
            refine lv_iconst (v := 3) hx hb dX0_followLoop_39 (by decide) ?_
            refine lv_ixor hx hb dX0_followLoop_40 ?_
            refine lv_goto (tgt := 48) hx hb dX0_followLoop_41 (by decide) ?_
            exact hJ_2 (v5_1 ^^^ 3) H locs ls hf hP hD hS (lv_sub hl [0, 1, 2, 3, 4, 5] rfl)
  exact hL_1 400 v3 v1 0 H locs ls hf hP hD hS (lv_sub hl [3, 4, 5, 2, 1, 0] rfl)
def kX0_countLoops_L1 (r_1 : Int32) (v2 : Int32) (f_otherEnds : Nat → Int32) (K_1 : Int32 → Int32 → Int32 → Option (Int32)) (v3_1 : Int32) (v4_1 : Int32) (v6_1 : Int32) : Option (Int32) :=
  if r_1 ≤ v6_1 then some v4_1 else bnd1 (kX9_contains v3_1 v6_1) (fun r_2 => if r_2 = 0 then bnd1 (kX0_followLoop v6_1 v2 v3_1 f_otherEnds) (fun r_3 => K_1 r_3 (v4_1 + 1) (v6_1 + 1)) else K_1 v3_1 v4_1 (v6_1 + 1))
def kX0_countLoops (v2 : Int32) (f_otherEnds : Nat → Int32) (i_p1_crossings : Int32) (i_p1_circles : Int32) : Option (Int32) :=
  bnd1 (kX2_endCount i_p1_crossings) (fun r_1 => it3 (kX0_countLoops_L1 r_1 v2 f_otherEnds) 400 0 i_p1_circles 0)
def rmX0_countLoops : Room := { frames := 2, cells := 0, slots := 0, locals := 48 }
theorem qX0_countLoops_0 : (.fieldLink RX0 66 "KnotDiagram$Diagram" "circles" "I" : Cond) ∈ wsX0_countLoops := by decide +kernel
theorem qX0_countLoops_1 : (.initialized RX9 : Cond) ∈ wsX0_countLoops := by decide +kernel
theorem qX0_countLoops_2 : (.static yX9_contains : Cond) ∈ wsX0_countLoops := by decide +kernel
theorem qX0_countLoops_X2 : ∀ w ∈ wsX20, w ∈ wsX0_countLoops := by decide +kernel
set_option maxHeartbeats 4000000 in
set_option maxRecDepth 100000 in
theorem mX0_countLoops (l : Launch) (D : va_G) (cyI cyZ : ClassId) (sz : Nat) (a_this a_p1 a_otherEnds a_tally a_coefficients a_product a_p1_arcs : Nat) (v2 : Int32) (i_prepared : Int32) (f_otherEnds : Nat → Int32) (i_p1_crossings : Int32) (i_p1_circles : Int32) (r : Int32) (hf : kX0_countLoops v2 f_otherEnds i_p1_crossings i_p1_circles = some r) : Met l yX0_countLoops wsX0_countLoops rmX0_countLoops (kPre D cyI cyZ [.ref a_this, .ref a_p1, .int v2] [(a_this, .inr (0, [.ref a_otherEnds, .ref a_tally, .ref a_coefficients, .ref a_product, .int i_prepared])), (a_otherEnds, .inl (cyI, 32, .inl f_otherEnds)), (a_p1, .inr (2, [.int i_p1_crossings, .int i_p1_circles, .ref a_p1_arcs]))] sz) (kQi D cyI cyZ (va_A [(a_this, .inr (0, [.ref a_otherEnds, .ref a_tally, .ref a_coefficients, .ref a_product, .int i_prepared])), (a_otherEnds, .inl (cyI, 32, .inl f_otherEnds)), (a_p1, .inr (2, [.int i_p1_crossings, .int i_p1_circles, .ref a_p1_arcs]))] sz) [(a_this, .inr (0, [.ref a_otherEnds, .ref a_tally, .ref a_coefficients, .ref a_product, .int i_prepared])), (a_otherEnds, .inl (cyI, 32, .inl f_otherEnds)), (a_p1, .inr (2, [.int i_p1_crossings, .int i_p1_circles, .ref a_p1_arcs]))] r) 0 0 (va_A [(a_this, .inr (0, [.ref a_otherEnds, .ref a_tally, .ref a_coefficients, .ref a_product, .int i_prepared])), (a_otherEnds, .inl (cyI, 32, .inl f_otherEnds)), (a_p1, .inr (2, [.int i_p1_crossings, .int i_p1_circles, .ref a_p1_arcs]))] sz) := by
  refine Met.ofW (cc := cX0_countLoops) (maxL := 7) (ret := (some .int)) (by decide) rfl ?_
  intro p e s m args below meth c s₁ B hml hv
  obtain ⟨rfl, hsz, hP, hK, hD0, hN⟩ := hv
  have hx := B.exec
  have hb := B.bytes
  have hr := B.returns
  have hts := atoms_spec (ws := wsX0_countLoops) B.pre
  have hown : s.vm.findClass RX0 = some m.cls := findClass_of_methodNamed B.named
  have hlocks := B.notSynchronized
  subst hsz
  have hD := hD0.self (sz := s.heap.size)
  generalize hAe : va_A [(a_this, .inr (0, [.ref a_otherEnds, .ref a_tally, .ref a_coefficients, .ref a_product, .int i_prepared])), (a_otherEnds, .inl (cyI, 32, .inl f_otherEnds)), (a_p1, .inr (2, [.int i_p1_crossings, .int i_p1_circles, .ref a_p1_arcs]))] s.heap.size = A at hD ⊢
  have hA : ∀ q : Nat, s.heap.size ≤ q → A q := fun q h => by rw [← hAe]; exact Or.inr h
  clear hAe hD0
  have hS : va_S A s.heap s.heap [] := va_S.rf
  have S : CallFix p m c cX0_countLoops 7 s (([.ref a_this, .ref a_p1, .int v2] : List Value).toArray) wsX0_countLoops RX0 := ⟨hx, hb, hml, hown, hts⟩
  have hl := lv_entry ([.ref a_this, .ref a_p1, .int v2]) (n := 7) (Nat.le_of_ble_eq_true rfl)
  rw [lg_entry_eq]
  generalize (lg_sl ([.ref a_this, .ref a_p1, .int v2]) ++ List.replicate (7 - (lg_sl ([.ref a_this, .ref a_p1, .int v2])).length) Slot.unset).toArray = ls at hl ⊢
  replace hl : lv_has ls 7 [(0, .ref a_this), (1, .ref a_p1), (2, .int v2)] := hl
  generalize ([] : List Loc) = locs at hS ⊢
  delta kX0_countLoops at hf
  obtain ⟨H, hH⟩ : ∃ H, H = s.heap := ⟨_, rfl⟩
  have hS : va_S A s.heap H locs := by rw [hH]; exact hS
  have hP : va_P D vwCl [(a_this, .inr (0, [.ref a_otherEnds, .ref a_tally, .ref a_coefficients, .ref a_product, .int i_prepared])), (a_otherEnds, .inl (cyI, 32, .inl f_otherEnds)), (a_p1, .inr (2, [.int i_p1_crossings, .int i_p1_circles, .ref a_p1_arcs]))] H := by rw [hH]; exact hP
  suffices hgo : W p l e (headSpec wsX0_countLoops rmX0_countLoops).room s m (([.ref a_this, .ref a_p1, .int v2] : List Value).toArray) below meth c H locs 0 0 (MQ below (kQi D cyI cyZ A [(a_this, .inr (0, [.ref a_otherEnds, .ref a_tally, .ref a_coefficients, .ref a_product, .int i_prepared])), (a_otherEnds, .inl (cyI, 32, .inl f_otherEnds)), (a_p1, .inr (2, [.int i_p1_crossings, .int i_p1_circles, .ref a_p1_arcs]))] r) (([.ref a_this, .ref a_p1, .int v2] : List Value).toArray) s 0 0 A) (F0 m 0 ls []) by rw [hH] at hgo; exact hgo
  clear hH
  refine lv_iconst (v := 0) hx hb dX0_countLoops_0 (by decide) ?_
  refine lv_istore_n (lv' := [(3, .int 0), (0, .ref a_this), (1, .ref a_p1), (2, .int v2)]) hx hb dX0_countLoops_1 rfl hl (by decide) rfl (fun ls hl => ?_)
  refine lv_aload_n hx hb dX0_countLoops_2 rfl (lv_at hl 2 rfl) ?_
  refine va_get (D := D) (ci := 2) (v := .int i_p1_circles) (C := RX2) (T := TX2) (N := 3) hx hb hts qX0_countLoops_X2 hown hK hP 2 rfl rfl 1 (Nat.le_of_ble_eq_true rfl) (hts (.fieldLink RX0 66 "KnotDiagram$Diagram" "circles" "I") qX0_countLoops_0) (fun _ h9 => h9) rfl dX0_countLoops_3 ?_
  refine lv_istore (lv' := [(4, .int i_p1_circles), (3, .int 0), (0, .ref a_this), (1, .ref a_p1), (2, .int v2)]) hx hb dX0_countLoops_6 hl (by decide) rfl (fun ls hl => ?_)
  refine lv_aload_n hx hb dX0_countLoops_8 rfl (lv_at hl 3 rfl) ?_
  obtain ⟨r_1, hc_1, hf⟩ := bnd1_s hf
  refine kcVi (As := []) (rest := []) (w2 := [(a_this, .inr (0, [.ref a_otherEnds, .ref a_tally, .ref a_coefficients, .ref a_product, .int i_prepared])), (a_otherEnds, .inl (cyI, 32, .inl f_otherEnds)), (a_p1, .inr (2, [.int i_p1_crossings, .int i_p1_circles, .ref a_p1_arcs]))]) S hK hP hD hS hA hN (mX2_endCount l D cyI cyZ H.size a_p1 a_p1_arcs i_p1_crossings i_p1_circles r_1 hc_1) (cwV 0 hts gX0_countLoops_X2_endCount rfl rfl rfl (by decide +kernel) ⟨Nat.le_of_ble_eq_true rfl, Nat.le_of_ble_eq_true rfl⟩) 2 2 rfl rfl [2] [0, 1] [0, 1, 2] rfl rfl rfl rfl (by decide) rfl rfl hl.1 (Nat.le_of_ble_eq_true rfl) dX0_countLoops_9 ⟨Nat.le_of_ble_eq_true rfl, Nat.le_of_ble_eq_true rfl⟩ (fun H locs hP hD hS => ?_)
  refine lv_istore (lv' := [(5, .int r_1), (4, .int i_p1_circles), (3, .int 0), (0, .ref a_this), (1, .ref a_p1), (2, .int v2)]) hx hb dX0_countLoops_12 hl (by decide) rfl (fun ls hl => ?_)
  refine lv_iconst (v := 0) hx hb dX0_countLoops_14 (by decide) ?_
  refine lv_istore (lv' := [(6, .int 0), (5, .int r_1), (4, .int i_p1_circles), (3, .int 0), (0, .ref a_this), (1, .ref a_p1), (2, .int v2)]) hx hb dX0_countLoops_15 hl (by decide) rfl (fun ls hl => ?_)
  have hL_1 : ∀ (n : Nat) (v3_1 : Int32) (v4_1 : Int32) (v6_1 : Int32) (H : Heap) (locs : List Loc) (ls : Array Slot), it3 (kX0_countLoops_L1 r_1 v2 f_otherEnds) n v3_1 v4_1 v6_1 = some r → va_P D vwCl [(a_this, .inr (0, [.ref a_otherEnds, .ref a_tally, .ref a_coefficients, .ref a_product, .int i_prepared])), (a_otherEnds, .inl (cyI, 32, .inl f_otherEnds)), (a_p1, .inr (2, [.int i_p1_crossings, .int i_p1_circles, .ref a_p1_arcs]))] H → va_D A [(a_this, .inr (0, [.ref a_otherEnds, .ref a_tally, .ref a_coefficients, .ref a_product, .int i_prepared])), (a_otherEnds, .inl (cyI, 32, .inl f_otherEnds)), (a_p1, .inr (2, [.int i_p1_crossings, .int i_p1_circles, .ref a_p1_arcs]))] → va_S A s.heap H locs → lv_has ls 7 [(0, .ref a_this), (2, .int v2), (3, .int v3_1), (4, .int v4_1), (5, .int r_1), (6, .int v6_1)] → W p l e (headSpec wsX0_countLoops rmX0_countLoops).room s m (([.ref a_this, .ref a_p1, .int v2] : List Value).toArray) below meth c H locs 0 0 (MQ below (kQi D cyI cyZ A [(a_this, .inr (0, [.ref a_otherEnds, .ref a_tally, .ref a_coefficients, .ref a_product, .int i_prepared])), (a_otherEnds, .inl (cyI, 32, .inl f_otherEnds)), (a_p1, .inr (2, [.int i_p1_crossings, .int i_p1_circles, .ref a_p1_arcs]))] r) (([.ref a_this, .ref a_p1, .int v2] : List Value).toArray) s 0 0 A) (F0 m 17 ls []) := by
    intro n_1
    induction n_1 with
    | zero =>
      intro _ _ _ _ _ _ hf
      exact (it3_z hf).elim
    | succ n_1 ih_1 =>
      intro v3_1 v4_1 v6_1 H locs ls hf hP hD hS hl
      replace hf := it3_s hf
      rw [kX0_countLoops_L1] at hf
      refine lv_iload hx hb dX0_countLoops_17 (lv_at hl 5 rfl) ?_
      refine lv_iload hx hb dX0_countLoops_19 (lv_at hl 4 rfl) ?_
      refine lv_icmp_ge (tgt := 51) hx hb dX0_countLoops_21 (by decide) (fun c_5 => ?_) (fun c_5 => ?_)
      · replace hf := kt_p hf c_5
        refine lv_iload hx hb dX0_countLoops_51 (lv_at hl 3 rfl) ?_
        obtain rfl := some1_s hf
        exact kRi hx hb hr hlocks hP hK hD hS rfl dX0_countLoops_53
      · replace hf := kt_n hf c_5
        refine lv_iload_n hx hb dX0_countLoops_24 rfl (lv_at hl 2 rfl) ?_
        refine lv_iload hx hb dX0_countLoops_25 (lv_at hl 5 rfl) ?_
        obtain ⟨r_2, hc_2, hf⟩ := bnd1_s hf
        refine kcNi (As := [.int v3_1, .int v6_1]) (rest := []) (w2 := [(a_this, .inr (0, [.ref a_otherEnds, .ref a_tally, .ref a_coefficients, .ref a_product, .int i_prepared])), (a_otherEnds, .inl (cyI, 32, .inl f_otherEnds)), (a_p1, .inr (2, [.int i_p1_crossings, .int i_p1_circles, .ref a_p1_arcs]))]) S hK hP hD hS hA hN (mX9_contains l D cyI cyZ H.size v3_1 v6_1 r_2 hc_2) ⟨va_cnB 2 hts gX0_countLoops_X9_contains_n72 rfl rfl rfl hN.2.2.2.2.1 (hts (.initialized RX9) qX0_countLoops_1) (by decide +kernel) ⟨Nat.le_of_ble_eq_true rfl, Nat.le_of_ble_eq_true rfl⟩, (hts (.static yX9_contains) qX0_countLoops_2), trivial⟩ [] [0, 1, 2] [0, 1, 2] rfl rfl rfl rfl (by decide) rfl rfl hl.1 (Nat.le_of_ble_eq_true rfl) dX0_countLoops_27 ⟨Nat.le_of_ble_eq_true rfl, Nat.le_of_ble_eq_true rfl⟩ (fun H locs hP hD hS => ?_)
        refine lv_if_ne (tgt := 45) hx hb dX0_countLoops_30 (by decide) (fun c_4 => ?_) (fun c_4 => ?_)
        · replace hf := kt_n hf c_4
          refine lv_iinc (v := (v6_1 + 1)) (lv' := [(6, .int (v6_1 + 1)), (0, .ref a_this), (2, .int v2), (3, .int v3_1), (4, .int v4_1), (5, .int r_1)]) hx hb dX0_countLoops_45 hl (k := 5) rfl rfl (by decide) rfl (fun ls hl => ?_)
          refine lv_goto (tgt := 17) hx hb dX0_countLoops_48 (by decide) ?_
          exact ih_1 v3_1 v4_1 (v6_1 + 1) H locs ls hf hP hD hS (lv_sub hl [1, 2, 3, 4, 5, 0] rfl)
        · replace hf := kt_p hf c_4
          refine lv_aload_n hx hb dX0_countLoops_33 rfl (lv_at hl 0 rfl) ?_
          refine lv_iload hx hb dX0_countLoops_34 (lv_at hl 5 rfl) ?_
          refine lv_iload_n hx hb dX0_countLoops_36 rfl (lv_at hl 1 rfl) ?_
          refine lv_iload_n hx hb dX0_countLoops_37 rfl (lv_at hl 2 rfl) ?_
          obtain ⟨r_3, hc_3, hf⟩ := bnd1_s hf
          refine kcVi (As := [.int v6_1, .int v2, .int v3_1]) (rest := []) (w2 := [(a_this, .inr (0, [.ref a_otherEnds, .ref a_tally, .ref a_coefficients, .ref a_product, .int i_prepared])), (a_otherEnds, .inl (cyI, 32, .inl f_otherEnds)), (a_p1, .inr (2, [.int i_p1_crossings, .int i_p1_circles, .ref a_p1_arcs]))]) S hK hP hD hS hA hN (mX0_followLoop l D cyI cyZ H.size a_this a_otherEnds a_tally a_coefficients a_product v6_1 v2 v3_1 i_prepared f_otherEnds r_3 hc_3) (cwV 3 hts gX0_countLoops_X0_followLoop rfl rfl rfl (by decide +kernel) ⟨Nat.le_of_ble_eq_true rfl, Nat.le_of_ble_eq_true rfl⟩) 0 0 rfl rfl [0, 1] [2] [1, 2, 0] rfl rfl rfl rfl (by decide) rfl rfl hl.1 (Nat.le_of_ble_eq_true rfl) dX0_countLoops_38 ⟨Nat.le_of_ble_eq_true rfl, Nat.le_of_ble_eq_true rfl⟩ (fun H locs hP hD hS => ?_)
          refine lv_istore_n (lv' := [(3, .int r_3), (0, .ref a_this), (2, .int v2), (4, .int v4_1), (5, .int r_1), (6, .int v6_1)]) hx hb dX0_countLoops_41 rfl hl (by decide) rfl (fun ls hl => ?_)
          refine lv_iinc (v := (v4_1 + 1)) (lv' := [(4, .int (v4_1 + 1)), (3, .int r_3), (0, .ref a_this), (2, .int v2), (5, .int r_1), (6, .int v6_1)]) hx hb dX0_countLoops_42 hl (k := 3) rfl rfl (by decide) rfl (fun ls hl => ?_)
          refine lv_iinc (v := (v6_1 + 1)) (lv' := [(6, .int (v6_1 + 1)), (4, .int (v4_1 + 1)), (3, .int r_3), (0, .ref a_this), (2, .int v2), (5, .int r_1)]) hx hb dX0_countLoops_45 hl (k := 5) rfl rfl (by decide) rfl (fun ls hl => ?_)
          refine lv_goto (tgt := 17) hx hb dX0_countLoops_48 (by decide) ?_
          exact ih_1 r_3 (v4_1 + 1) (v6_1 + 1) H locs ls hf hP hD hS (lv_sub hl [3, 4, 2, 1, 5, 0] rfl)
  exact hL_1 400 0 i_p1_circles 0 H locs ls hf hP hD hS (lv_sub hl [4, 6, 3, 2, 1, 0] rfl)
def kX0_loops (v2 : Int32) (f_otherEnds : Nat → Int32) (i_p1_crossings : Int32) (i_p1_circles : Int32) (f_p1_arcs : Nat → Int32) : Option (Int32 × (Nat → Int32)) :=
  bnd1 (kX0_noteOtherEnds f_otherEnds i_p1_crossings f_p1_arcs) (fun o_otherEnds_1 => bnd1 (kX0_countLoops v2 o_otherEnds_1 i_p1_crossings i_p1_circles) (fun r_2 => some (r_2, o_otherEnds_1)))
def rmX0_loops : Room := { frames := 3, cells := 0, slots := 0, locals := 74 }
set_option maxHeartbeats 4000000 in
set_option maxRecDepth 100000 in
theorem mX0_loops (l : Launch) (D : va_G) (cyI cyZ : ClassId) (sz : Nat) (a_this a_p1 a_otherEnds a_tally a_coefficients a_product a_p1_arcs : Nat) (v2 : Int32) (i_prepared : Int32) (f_otherEnds : Nat → Int32) (i_p1_crossings : Int32) (i_p1_circles : Int32) (f_p1_arcs : Nat → Int32) (r : Int32) (o_otherEnds : Nat → Int32) (hf : kX0_loops v2 f_otherEnds i_p1_crossings i_p1_circles f_p1_arcs = some (r, o_otherEnds)) : Met l yX0_loops wsX0_loops rmX0_loops (kPre D cyI cyZ [.ref a_this, .ref a_p1, .int v2] [(a_this, .inr (0, [.ref a_otherEnds, .ref a_tally, .ref a_coefficients, .ref a_product, .int i_prepared])), (a_otherEnds, .inl (cyI, 32, .inl f_otherEnds)), (a_p1, .inr (2, [.int i_p1_crossings, .int i_p1_circles, .ref a_p1_arcs])), (a_p1_arcs, .inl (cyI, 32, .inl f_p1_arcs))] sz) (kQi D cyI cyZ (va_A [(a_this, .inr (0, [.ref a_otherEnds, .ref a_tally, .ref a_coefficients, .ref a_product, .int i_prepared])), (a_otherEnds, .inl (cyI, 32, .inl f_otherEnds)), (a_p1, .inr (2, [.int i_p1_crossings, .int i_p1_circles, .ref a_p1_arcs])), (a_p1_arcs, .inl (cyI, 32, .inl f_p1_arcs))] sz) [(a_this, .inr (0, [.ref a_otherEnds, .ref a_tally, .ref a_coefficients, .ref a_product, .int i_prepared])), (a_otherEnds, .inl (cyI, 32, .inl o_otherEnds)), (a_p1, .inr (2, [.int i_p1_crossings, .int i_p1_circles, .ref a_p1_arcs])), (a_p1_arcs, .inl (cyI, 32, .inl f_p1_arcs))] r) 0 0 (va_A [(a_this, .inr (0, [.ref a_otherEnds, .ref a_tally, .ref a_coefficients, .ref a_product, .int i_prepared])), (a_otherEnds, .inl (cyI, 32, .inl f_otherEnds)), (a_p1, .inr (2, [.int i_p1_crossings, .int i_p1_circles, .ref a_p1_arcs])), (a_p1_arcs, .inl (cyI, 32, .inl f_p1_arcs))] sz) := by
  refine Met.ofW (cc := cX0_loops) (maxL := 3) (ret := (some .int)) (by decide) rfl ?_
  intro p e s m args below meth c s₁ B hml hv
  obtain ⟨rfl, hsz, hP, hK, hD0, hN⟩ := hv
  have hx := B.exec
  have hb := B.bytes
  have hr := B.returns
  have hts := atoms_spec (ws := wsX0_loops) B.pre
  have hown : s.vm.findClass RX0 = some m.cls := findClass_of_methodNamed B.named
  have hlocks := B.notSynchronized
  subst hsz
  have hD := hD0.self (sz := s.heap.size)
  generalize hAe : va_A [(a_this, .inr (0, [.ref a_otherEnds, .ref a_tally, .ref a_coefficients, .ref a_product, .int i_prepared])), (a_otherEnds, .inl (cyI, 32, .inl f_otherEnds)), (a_p1, .inr (2, [.int i_p1_crossings, .int i_p1_circles, .ref a_p1_arcs])), (a_p1_arcs, .inl (cyI, 32, .inl f_p1_arcs))] s.heap.size = A at hD ⊢
  have hA : ∀ q : Nat, s.heap.size ≤ q → A q := fun q h => by rw [← hAe]; exact Or.inr h
  clear hAe hD0
  have hS : va_S A s.heap s.heap [] := va_S.rf
  have S : CallFix p m c cX0_loops 3 s (([.ref a_this, .ref a_p1, .int v2] : List Value).toArray) wsX0_loops RX0 := ⟨hx, hb, hml, hown, hts⟩
  have hl := lv_entry ([.ref a_this, .ref a_p1, .int v2]) (n := 3) (Nat.le_of_ble_eq_true rfl)
  rw [lg_entry_eq]
  generalize (lg_sl ([.ref a_this, .ref a_p1, .int v2]) ++ List.replicate (3 - (lg_sl ([.ref a_this, .ref a_p1, .int v2])).length) Slot.unset).toArray = ls at hl ⊢
  replace hl : lv_has ls 3 [(0, .ref a_this), (1, .ref a_p1), (2, .int v2)] := hl
  generalize ([] : List Loc) = locs at hS ⊢
  delta kX0_loops at hf
  obtain ⟨H, hH⟩ : ∃ H, H = s.heap := ⟨_, rfl⟩
  have hS : va_S A s.heap H locs := by rw [hH]; exact hS
  have hP : va_P D vwCl [(a_this, .inr (0, [.ref a_otherEnds, .ref a_tally, .ref a_coefficients, .ref a_product, .int i_prepared])), (a_otherEnds, .inl (cyI, 32, .inl f_otherEnds)), (a_p1, .inr (2, [.int i_p1_crossings, .int i_p1_circles, .ref a_p1_arcs])), (a_p1_arcs, .inl (cyI, 32, .inl f_p1_arcs))] H := by rw [hH]; exact hP
  suffices hgo : W p l e (headSpec wsX0_loops rmX0_loops).room s m (([.ref a_this, .ref a_p1, .int v2] : List Value).toArray) below meth c H locs 0 0 (MQ below (kQi D cyI cyZ A [(a_this, .inr (0, [.ref a_otherEnds, .ref a_tally, .ref a_coefficients, .ref a_product, .int i_prepared])), (a_otherEnds, .inl (cyI, 32, .inl o_otherEnds)), (a_p1, .inr (2, [.int i_p1_crossings, .int i_p1_circles, .ref a_p1_arcs])), (a_p1_arcs, .inl (cyI, 32, .inl f_p1_arcs))] r) (([.ref a_this, .ref a_p1, .int v2] : List Value).toArray) s 0 0 A) (F0 m 0 ls []) by rw [hH] at hgo; exact hgo
  clear hH
  refine lv_aload_n hx hb dX0_loops_0 rfl (lv_at hl 0 rfl) ?_
  refine lv_aload_n hx hb dX0_loops_1 rfl (lv_at hl 1 rfl) ?_
  obtain ⟨o_otherEnds_1, hc_1, hf⟩ := bnd1_s hf
  refine kcVv (As := [.ref a_p1]) (rest := []) (w2 := [(a_this, .inr (0, [.ref a_otherEnds, .ref a_tally, .ref a_coefficients, .ref a_product, .int i_prepared])), (a_otherEnds, .inl (cyI, 32, .inl o_otherEnds_1)), (a_p1, .inr (2, [.int i_p1_crossings, .int i_p1_circles, .ref a_p1_arcs])), (a_p1_arcs, .inl (cyI, 32, .inl f_p1_arcs))]) S hK hP hD hS hA hN (mX0_noteOtherEnds l D cyI cyZ H.size a_this a_p1 a_otherEnds a_tally a_coefficients a_product a_p1_arcs i_prepared f_otherEnds i_p1_crossings i_p1_circles f_p1_arcs o_otherEnds_1 hc_1) (cwV 1 hts gX0_loops_X0_noteOtherEnds rfl rfl rfl (by decide +kernel) ⟨Nat.le_of_ble_eq_true rfl, Nat.le_of_ble_eq_true rfl⟩) 0 0 rfl rfl [0, 1, 2, 3] [] [0, 1, 2, 3] rfl rfl rfl rfl (by decide) rfl rfl hl.1 (Nat.le_of_ble_eq_true rfl) dX0_loops_2 ⟨Nat.le_of_ble_eq_true rfl, Nat.le_of_ble_eq_true rfl⟩ (fun H locs hP hD hS => ?_)
  refine lv_aload_n hx hb dX0_loops_5 rfl (lv_at hl 0 rfl) ?_
  refine lv_aload_n hx hb dX0_loops_6 rfl (lv_at hl 1 rfl) ?_
  refine lv_iload_n hx hb dX0_loops_7 rfl (lv_at hl 2 rfl) ?_
  obtain ⟨r_2, hc_2, hf⟩ := bnd1_s hf
  refine kcVi (As := [.ref a_p1, .int v2]) (rest := []) (w2 := [(a_this, .inr (0, [.ref a_otherEnds, .ref a_tally, .ref a_coefficients, .ref a_product, .int i_prepared])), (a_otherEnds, .inl (cyI, 32, .inl o_otherEnds_1)), (a_p1, .inr (2, [.int i_p1_crossings, .int i_p1_circles, .ref a_p1_arcs])), (a_p1_arcs, .inl (cyI, 32, .inl f_p1_arcs))]) S hK hP hD hS hA hN (mX0_countLoops l D cyI cyZ H.size a_this a_p1 a_otherEnds a_tally a_coefficients a_product a_p1_arcs v2 i_prepared o_otherEnds_1 i_p1_crossings i_p1_circles r_2 hc_2) (cwV 2 hts gX0_loops_X0_countLoops rfl rfl rfl (by decide +kernel) ⟨Nat.le_of_ble_eq_true rfl, Nat.le_of_ble_eq_true rfl⟩) 0 0 rfl rfl [0, 1, 2] [3] [1, 2, 3, 0] rfl rfl rfl rfl (by decide) rfl rfl hl.1 (Nat.le_of_ble_eq_true rfl) dX0_loops_8 ⟨Nat.le_of_ble_eq_true rfl, Nat.le_of_ble_eq_true rfl⟩ (fun H locs hP hD hS => ?_)
  obtain ⟨rfl, rfl⟩ := some2_s hf
  exact kRi hx hb hr hlocks hP hK hD hS rfl dX0_loops_11
def kX0_tallyIndex (v0 : Int32) (v1 : Int32) : Option (Int32) :=
  some ((v0 * 9) + v1)
def rmX0_tallyIndex : Room := { frames := 0, cells := 0, slots := 0, locals := 0 }
set_option maxHeartbeats 4000000 in
set_option maxRecDepth 100000 in
theorem mX0_tallyIndex (l : Launch) (D : va_G) (cyI cyZ : ClassId) (sz : Nat) (v0 : Int32) (v1 : Int32) (r : Int32) (hf : kX0_tallyIndex v0 v1 = some r) : Met l yX0_tallyIndex wsX0_tallyIndex rmX0_tallyIndex (kPre D cyI cyZ [.int v0, .int v1] [] sz) (kQi D cyI cyZ (va_A [] sz) [] r) 0 0 (va_A [] sz) := by
  refine Met.ofW (cc := cX0_tallyIndex) (maxL := 2) (ret := (some .int)) (by decide) rfl ?_
  intro p e s m args below meth c s₁ B hml hv
  obtain ⟨rfl, hsz, hP, hK, hD0, hN⟩ := hv
  have hx := B.exec
  have hb := B.bytes
  have hr := B.returns
  have hts := atoms_spec (ws := wsX0_tallyIndex) B.pre
  have hown : s.vm.findClass RX0 = some m.cls := findClass_of_methodNamed B.named
  have hlocks := B.notSynchronized
  subst hsz
  have hD := hD0.self (sz := s.heap.size)
  generalize hAe : va_A [] s.heap.size = A at hD ⊢
  have hA : ∀ q : Nat, s.heap.size ≤ q → A q := fun q h => by rw [← hAe]; exact Or.inr h
  clear hAe hD0
  have hS : va_S A s.heap s.heap [] := va_S.rf
  have S : CallFix p m c cX0_tallyIndex 2 s (([.int v0, .int v1] : List Value).toArray) wsX0_tallyIndex RX0 := ⟨hx, hb, hml, hown, hts⟩
  have hl := lv_entry ([.int v0, .int v1]) (n := 2) (Nat.le_of_ble_eq_true rfl)
  rw [lg_entry_eq]
  generalize (lg_sl ([.int v0, .int v1]) ++ List.replicate (2 - (lg_sl ([.int v0, .int v1])).length) Slot.unset).toArray = ls at hl ⊢
  replace hl : lv_has ls 2 [(0, .int v0), (1, .int v1)] := hl
  generalize ([] : List Loc) = locs at hS ⊢
  delta kX0_tallyIndex at hf
  obtain ⟨H, hH⟩ : ∃ H, H = s.heap := ⟨_, rfl⟩
  have hS : va_S A s.heap H locs := by rw [hH]; exact hS
  have hP : va_P D vwCl [] H := by rw [hH]; exact hP
  suffices hgo : W p l e (headSpec wsX0_tallyIndex rmX0_tallyIndex).room s m (([.int v0, .int v1] : List Value).toArray) below meth c H locs 0 0 (MQ below (kQi D cyI cyZ A [] r) (([.int v0, .int v1] : List Value).toArray) s 0 0 A) (F0 m 0 ls []) by rw [hH] at hgo; exact hgo
  clear hH
  refine lv_iload_n hx hb dX0_tallyIndex_0 rfl (lv_at hl 0 rfl) ?_
  refine lv_bipush (v := 9) hx hb dX0_tallyIndex_1 (by decide) ?_
  refine lv_imul hx hb dX0_tallyIndex_3 ?_
  refine lv_iload_n hx hb dX0_tallyIndex_4 rfl (lv_at hl 1 rfl) ?_
  refine lv_iadd hx hb dX0_tallyIndex_5 ?_
  obtain rfl := some1_s hf
  exact kRi hx hb hr hlocks hP hK hD hS rfl dX0_tallyIndex_6
def kX0_tallyStates_L2 (i_p1_crossings : Int32) (f_otherEnds : Nat → Int32) (i_p1_circles : Int32) (K_2 : Int32 → (Nat → Int32) → Option ((Nat → Int32))) (v3_2 : Int32) (f_tally_2 : Nat → Int32) : Option ((Nat → Int32)) :=
  if (ishl 1 i_p1_crossings) ≤ v3_2 then some f_tally_2 else bnd1 (kX0_countLoops v3_2 f_otherEnds i_p1_crossings i_p1_circles) (fun r_1 => bnd1 (kJ6_bitCount_0f7a4 v3_2) (fun r_2 => bnd1 (kX0_tallyIndex r_1 r_2) (fun r_3 => if r_3 < 0 then K_2 (v3_2 + 1) f_tally_2 else if 189 ≤ r_3 then K_2 (v3_2 + 1) f_tally_2 else ck r_3 189 (ck r_3 189 (K_2 (v3_2 + 1) (upd f_tally_2 r_3.toNatClampNeg ((f_tally_2 r_3.toNatClampNeg) + 1)))))))
def kX0_tallyStates_L1 (i_p1_crossings : Int32) (f_otherEnds : Nat → Int32) (i_p1_circles : Int32) (K_1 : Int32 → (Nat → Int32) → Option ((Nat → Int32))) (v2_1 : Int32) (f_tally_1 : Nat → Int32) : Option ((Nat → Int32)) :=
  if 189 ≤ v2_1 then it2 (kX0_tallyStates_L2 i_p1_crossings f_otherEnds i_p1_circles) 400 0 f_tally_1 else ck v2_1 189 (K_1 (v2_1 + 1) (upd f_tally_1 v2_1.toNatClampNeg 0))
def kX0_tallyStates (f_otherEnds : Nat → Int32) (f_tally : Nat → Int32) (i_p1_crossings : Int32) (i_p1_circles : Int32) : Option ((Nat → Int32)) :=
  it2 (kX0_tallyStates_L1 i_p1_crossings f_otherEnds i_p1_circles) 400 0 f_tally
def rmX0_tallyStates : Room := { frames := 3, cells := 0, slots := 0, locals := 74 }
theorem qX0_tallyStates_0 : (.fieldLink RX0 53 "KnotDiagram$Diagram" "crossings" "I" : Cond) ∈ wsX0_tallyStates := by decide +kernel
theorem qX0_tallyStates_1 : (.fieldLink RX0 15 "KnotDiagram$Bracket" "tally" "[I" : Cond) ∈ wsX0_tallyStates := by decide +kernel
theorem qX0_tallyStates_X2 : ∀ w ∈ wsX20, w ∈ wsX0_tallyStates := by decide +kernel
theorem qX0_tallyStates_X0 : ∀ w ∈ wsX00, w ∈ wsX0_tallyStates := by decide +kernel
set_option maxHeartbeats 4000000 in
set_option maxRecDepth 100000 in
theorem mX0_tallyStates (l : Launch) (D : va_G) (cyI cyZ : ClassId) (sz : Nat) (a_this a_p1 a_otherEnds a_tally a_coefficients a_product a_p1_arcs : Nat) (i_prepared : Int32) (f_otherEnds : Nat → Int32) (f_tally : Nat → Int32) (i_p1_crossings : Int32) (i_p1_circles : Int32) (o_tally : Nat → Int32) (hf : kX0_tallyStates f_otherEnds f_tally i_p1_crossings i_p1_circles = some o_tally) : Met l yX0_tallyStates wsX0_tallyStates rmX0_tallyStates (kPre D cyI cyZ [.ref a_this, .ref a_p1] [(a_this, .inr (0, [.ref a_otherEnds, .ref a_tally, .ref a_coefficients, .ref a_product, .int i_prepared])), (a_otherEnds, .inl (cyI, 32, .inl f_otherEnds)), (a_tally, .inl (cyI, 189, .inl f_tally)), (a_p1, .inr (2, [.int i_p1_crossings, .int i_p1_circles, .ref a_p1_arcs]))] sz) (kQv D cyI cyZ (va_A [(a_this, .inr (0, [.ref a_otherEnds, .ref a_tally, .ref a_coefficients, .ref a_product, .int i_prepared])), (a_otherEnds, .inl (cyI, 32, .inl f_otherEnds)), (a_tally, .inl (cyI, 189, .inl f_tally)), (a_p1, .inr (2, [.int i_p1_crossings, .int i_p1_circles, .ref a_p1_arcs]))] sz) [(a_this, .inr (0, [.ref a_otherEnds, .ref a_tally, .ref a_coefficients, .ref a_product, .int i_prepared])), (a_otherEnds, .inl (cyI, 32, .inl f_otherEnds)), (a_tally, .inl (cyI, 189, .inl o_tally)), (a_p1, .inr (2, [.int i_p1_crossings, .int i_p1_circles, .ref a_p1_arcs]))]) 0 0 (va_A [(a_this, .inr (0, [.ref a_otherEnds, .ref a_tally, .ref a_coefficients, .ref a_product, .int i_prepared])), (a_otherEnds, .inl (cyI, 32, .inl f_otherEnds)), (a_tally, .inl (cyI, 189, .inl f_tally)), (a_p1, .inr (2, [.int i_p1_crossings, .int i_p1_circles, .ref a_p1_arcs]))] sz) := by
  refine Met.ofW (cc := cX0_tallyStates) (maxL := 5) (ret := none) (by decide) rfl ?_
  intro p e s m args below meth c s₁ B hml hv
  obtain ⟨rfl, hsz, hP, hK, hD0, hN⟩ := hv
  have hx := B.exec
  have hb := B.bytes
  have hr := B.returns
  have hts := atoms_spec (ws := wsX0_tallyStates) B.pre
  have hown : s.vm.findClass RX0 = some m.cls := findClass_of_methodNamed B.named
  have hlocks := B.notSynchronized
  subst hsz
  have hD := hD0.self (sz := s.heap.size)
  generalize hAe : va_A [(a_this, .inr (0, [.ref a_otherEnds, .ref a_tally, .ref a_coefficients, .ref a_product, .int i_prepared])), (a_otherEnds, .inl (cyI, 32, .inl f_otherEnds)), (a_tally, .inl (cyI, 189, .inl f_tally)), (a_p1, .inr (2, [.int i_p1_crossings, .int i_p1_circles, .ref a_p1_arcs]))] s.heap.size = A at hD ⊢
  have hA : ∀ q : Nat, s.heap.size ≤ q → A q := fun q h => by rw [← hAe]; exact Or.inr h
  clear hAe hD0
  have hS : va_S A s.heap s.heap [] := va_S.rf
  have S : CallFix p m c cX0_tallyStates 5 s (([.ref a_this, .ref a_p1] : List Value).toArray) wsX0_tallyStates RX0 := ⟨hx, hb, hml, hown, hts⟩
  have hl := lv_entry ([.ref a_this, .ref a_p1]) (n := 5) (Nat.le_of_ble_eq_true rfl)
  rw [lg_entry_eq]
  generalize (lg_sl ([.ref a_this, .ref a_p1]) ++ List.replicate (5 - (lg_sl ([.ref a_this, .ref a_p1])).length) Slot.unset).toArray = ls at hl ⊢
  replace hl : lv_has ls 5 [(0, .ref a_this), (1, .ref a_p1)] := hl
  generalize ([] : List Loc) = locs at hS ⊢
  delta kX0_tallyStates at hf
  obtain ⟨H, hH⟩ : ∃ H, H = s.heap := ⟨_, rfl⟩
  have hS : va_S A s.heap H locs := by rw [hH]; exact hS
  have hP : va_P D vwCl [(a_this, .inr (0, [.ref a_otherEnds, .ref a_tally, .ref a_coefficients, .ref a_product, .int i_prepared])), (a_otherEnds, .inl (cyI, 32, .inl f_otherEnds)), (a_tally, .inl (cyI, 189, .inl f_tally)), (a_p1, .inr (2, [.int i_p1_crossings, .int i_p1_circles, .ref a_p1_arcs]))] H := by rw [hH]; exact hP
  suffices hgo : W p l e (headSpec wsX0_tallyStates rmX0_tallyStates).room s m (([.ref a_this, .ref a_p1] : List Value).toArray) below meth c H locs 0 0 (MQ below (kQv D cyI cyZ A [(a_this, .inr (0, [.ref a_otherEnds, .ref a_tally, .ref a_coefficients, .ref a_product, .int i_prepared])), (a_otherEnds, .inl (cyI, 32, .inl f_otherEnds)), (a_tally, .inl (cyI, 189, .inl o_tally)), (a_p1, .inr (2, [.int i_p1_crossings, .int i_p1_circles, .ref a_p1_arcs]))]) (([.ref a_this, .ref a_p1] : List Value).toArray) s 0 0 A) (F0 m 0 ls []) by rw [hH] at hgo; exact hgo
  clear hH
  refine lv_iconst (v := 0) hx hb dX0_tallyStates_0 (by decide) ?_
  refine lv_istore_n (lv' := [(2, .int 0), (0, .ref a_this), (1, .ref a_p1)]) hx hb dX0_tallyStates_1 rfl hl (by decide) rfl (fun ls hl => ?_)
  have hL_1 : ∀ (n : Nat) (v2_1 : Int32) (f_tally_1 : Nat → Int32) (H : Heap) (locs : List Loc) (ls : Array Slot), it2 (kX0_tallyStates_L1 i_p1_crossings f_otherEnds i_p1_circles) n v2_1 f_tally_1 = some o_tally → va_P D vwCl [(a_this, .inr (0, [.ref a_otherEnds, .ref a_tally, .ref a_coefficients, .ref a_product, .int i_prepared])), (a_otherEnds, .inl (cyI, 32, .inl f_otherEnds)), (a_tally, .inl (cyI, 189, .inl f_tally_1)), (a_p1, .inr (2, [.int i_p1_crossings, .int i_p1_circles, .ref a_p1_arcs]))] H → va_D A [(a_this, .inr (0, [.ref a_otherEnds, .ref a_tally, .ref a_coefficients, .ref a_product, .int i_prepared])), (a_otherEnds, .inl (cyI, 32, .inl f_otherEnds)), (a_tally, .inl (cyI, 189, .inl f_tally_1)), (a_p1, .inr (2, [.int i_p1_crossings, .int i_p1_circles, .ref a_p1_arcs]))] → va_S A s.heap H locs → lv_has ls 5 [(0, .ref a_this), (1, .ref a_p1), (2, .int v2_1)] → W p l e (headSpec wsX0_tallyStates rmX0_tallyStates).room s m (([.ref a_this, .ref a_p1] : List Value).toArray) below meth c H locs 0 0 (MQ below (kQv D cyI cyZ A [(a_this, .inr (0, [.ref a_otherEnds, .ref a_tally, .ref a_coefficients, .ref a_product, .int i_prepared])), (a_otherEnds, .inl (cyI, 32, .inl f_otherEnds)), (a_tally, .inl (cyI, 189, .inl o_tally)), (a_p1, .inr (2, [.int i_p1_crossings, .int i_p1_circles, .ref a_p1_arcs]))]) (([.ref a_this, .ref a_p1] : List Value).toArray) s 0 0 A) (F0 m 2 ls []) := by
    intro n_1
    induction n_1 with
    | zero =>
      intro _ _ _ _ _ hf
      exact (it2_z hf).elim
    | succ n_1 ih_1 =>
      intro v2_1 f_tally_1 H locs ls hf hP hD hS hl
      replace hf := it2_s hf
      rw [kX0_tallyStates_L1] at hf
      refine lv_iload_n hx hb dX0_tallyStates_2 rfl (lv_at hl 2 rfl) ?_
      refine lv_sipush (v := 189) hx hb dX0_tallyStates_3 (by decide) ?_
      refine lv_icmp_ge (tgt := 22) hx hb dX0_tallyStates_6 (by decide) (fun c_10 => ?_) (fun c_10 => ?_)
      · replace hf := kt_p hf c_10
        refine lv_iconst (v := 1) hx hb dX0_tallyStates_22 (by decide) ?_
        refine lv_aload_n hx hb dX0_tallyStates_23 rfl (lv_at hl 1 rfl) ?_
        refine va_get (D := D) (ci := 2) (v := .int i_p1_crossings) (C := RX2) (T := TX2) (N := 3) hx hb hts qX0_tallyStates_X2 hown hK hP 3 rfl rfl 0 (Nat.le_of_ble_eq_true rfl) (hts (.fieldLink RX0 53 "KnotDiagram$Diagram" "crossings" "I") qX0_tallyStates_0) (fun _ h9 => h9) rfl dX0_tallyStates_24 ?_
        refine k_ishl hx hb dX0_tallyStates_27 ?_
        refine lv_istore_n (lv' := [(2, .int (ishl 1 i_p1_crossings)), (0, .ref a_this), (1, .ref a_p1)]) hx hb dX0_tallyStates_28 rfl hl (by decide) rfl (fun ls hl => ?_)
        refine lv_iconst (v := 0) hx hb dX0_tallyStates_29 (by decide) ?_
        refine lv_istore_n (lv' := [(3, .int 0), (2, .int (ishl 1 i_p1_crossings)), (0, .ref a_this), (1, .ref a_p1)]) hx hb dX0_tallyStates_30 rfl hl (by decide) rfl (fun ls hl => ?_)
        have hL_2 : ∀ (n : Nat) (v3_2 : Int32) (f_tally_2 : Nat → Int32) (H : Heap) (locs : List Loc) (ls : Array Slot), it2 (kX0_tallyStates_L2 i_p1_crossings f_otherEnds i_p1_circles) n v3_2 f_tally_2 = some o_tally → va_P D vwCl [(a_this, .inr (0, [.ref a_otherEnds, .ref a_tally, .ref a_coefficients, .ref a_product, .int i_prepared])), (a_otherEnds, .inl (cyI, 32, .inl f_otherEnds)), (a_tally, .inl (cyI, 189, .inl f_tally_2)), (a_p1, .inr (2, [.int i_p1_crossings, .int i_p1_circles, .ref a_p1_arcs]))] H → va_D A [(a_this, .inr (0, [.ref a_otherEnds, .ref a_tally, .ref a_coefficients, .ref a_product, .int i_prepared])), (a_otherEnds, .inl (cyI, 32, .inl f_otherEnds)), (a_tally, .inl (cyI, 189, .inl f_tally_2)), (a_p1, .inr (2, [.int i_p1_crossings, .int i_p1_circles, .ref a_p1_arcs]))] → va_S A s.heap H locs → lv_has ls 5 [(0, .ref a_this), (1, .ref a_p1), (2, .int (ishl 1 i_p1_crossings)), (3, .int v3_2)] → W p l e (headSpec wsX0_tallyStates rmX0_tallyStates).room s m (([.ref a_this, .ref a_p1] : List Value).toArray) below meth c H locs 0 0 (MQ below (kQv D cyI cyZ A [(a_this, .inr (0, [.ref a_otherEnds, .ref a_tally, .ref a_coefficients, .ref a_product, .int i_prepared])), (a_otherEnds, .inl (cyI, 32, .inl f_otherEnds)), (a_tally, .inl (cyI, 189, .inl o_tally)), (a_p1, .inr (2, [.int i_p1_crossings, .int i_p1_circles, .ref a_p1_arcs]))]) (([.ref a_this, .ref a_p1] : List Value).toArray) s 0 0 A) (F0 m 31 ls []) := by
          intro n_2
          induction n_2 with
          | zero =>
            intro _ _ _ _ _ hf
            exact (it2_z hf).elim
          | succ n_2 ih_2 =>
            intro v3_2 f_tally_2 H locs ls hf hP hD hS hl
            replace hf := it2_s hf
            rw [kX0_tallyStates_L2] at hf
            refine lv_iload_n hx hb dX0_tallyStates_31 rfl (lv_at hl 3 rfl) ?_
            refine lv_iload_n hx hb dX0_tallyStates_32 rfl (lv_at hl 2 rfl) ?_
            refine lv_icmp_ge (tgt := 81) hx hb dX0_tallyStates_33 (by decide) (fun c_8 => ?_) (fun c_8 => ?_)
            · replace hf := kt_p hf c_8
              obtain rfl := some1_s hf
              exact kRv hx hb hr hlocks hP hK hD hS dX0_tallyStates_81
            · replace hf := kt_n hf c_8
              refine lv_aload_n hx hb dX0_tallyStates_36 rfl (lv_at hl 0 rfl) ?_
              refine lv_aload_n hx hb dX0_tallyStates_37 rfl (lv_at hl 1 rfl) ?_
              refine lv_iload_n hx hb dX0_tallyStates_38 rfl (lv_at hl 3 rfl) ?_
              obtain ⟨r_1, hc_1, hf⟩ := bnd1_s hf
              refine kcVi (As := [.ref a_p1, .int v3_2]) (rest := []) (w2 := [(a_this, .inr (0, [.ref a_otherEnds, .ref a_tally, .ref a_coefficients, .ref a_product, .int i_prepared])), (a_otherEnds, .inl (cyI, 32, .inl f_otherEnds)), (a_tally, .inl (cyI, 189, .inl f_tally_2)), (a_p1, .inr (2, [.int i_p1_crossings, .int i_p1_circles, .ref a_p1_arcs]))]) S hK hP hD hS hA hN (mX0_countLoops l D cyI cyZ H.size a_this a_p1 a_otherEnds a_tally a_coefficients a_product a_p1_arcs v3_2 i_prepared f_otherEnds i_p1_crossings i_p1_circles r_1 hc_1) (cwV 2 hts gX0_tallyStates_X0_countLoops rfl rfl rfl (by decide +kernel) ⟨Nat.le_of_ble_eq_true rfl, Nat.le_of_ble_eq_true rfl⟩) 0 0 rfl rfl [0, 1, 3] [2] [1, 2, 0, 3] rfl rfl rfl rfl (by decide) rfl rfl hl.1 (Nat.le_of_ble_eq_true rfl) dX0_tallyStates_39 ⟨Nat.le_of_ble_eq_true rfl, Nat.le_of_ble_eq_true rfl⟩ (fun H locs hP hD hS => ?_)
              refine lv_iload_n hx hb dX0_tallyStates_42 rfl (lv_at hl 3 rfl) ?_
              obtain ⟨r_2, hc_2, hf⟩ := bnd1_s hf
              refine kcSi (As := [.int v3_2]) (rest := [.int r_1]) (w2 := [(a_this, .inr (0, [.ref a_otherEnds, .ref a_tally, .ref a_coefficients, .ref a_product, .int i_prepared])), (a_otherEnds, .inl (cyI, 32, .inl f_otherEnds)), (a_tally, .inl (cyI, 189, .inl f_tally_2)), (a_p1, .inr (2, [.int i_p1_crossings, .int i_p1_circles, .ref a_p1_arcs]))]) S hK hP hD hS hA hN (mJ6_bitCount_0f7a4 l D cyI cyZ H.size v3_2 r_2 hc_2) (va_cwS 1 hts gX0_tallyStates_J6_bitCount_0f7a4 rfl rfl rfl (by decide +kernel) ⟨Nat.le_of_ble_eq_true rfl, Nat.le_of_ble_eq_true rfl⟩) [] [0, 1, 2, 3] [0, 1, 2, 3] rfl rfl rfl rfl (by decide) rfl rfl hl.1 (Nat.le_of_ble_eq_true rfl) dX0_tallyStates_43 ⟨Nat.le_of_ble_eq_true rfl, Nat.le_of_ble_eq_true rfl⟩ (fun H locs hP hD hS => ?_)
              obtain ⟨r_3, hc_3, hf⟩ := bnd1_s hf
              refine kcSi (As := [.int r_1, .int r_2]) (rest := []) (w2 := [(a_this, .inr (0, [.ref a_otherEnds, .ref a_tally, .ref a_coefficients, .ref a_product, .int i_prepared])), (a_otherEnds, .inl (cyI, 32, .inl f_otherEnds)), (a_tally, .inl (cyI, 189, .inl f_tally_2)), (a_p1, .inr (2, [.int i_p1_crossings, .int i_p1_circles, .ref a_p1_arcs]))]) S hK hP hD hS hA hN (mX0_tallyIndex l D cyI cyZ H.size r_1 r_2 r_3 hc_3) (va_cwS 2 hts gX0_tallyStates_X0_tallyIndex rfl rfl rfl (by decide +kernel) ⟨Nat.le_of_ble_eq_true rfl, Nat.le_of_ble_eq_true rfl⟩) [] [0, 1, 2, 3] [0, 1, 2, 3] rfl rfl rfl rfl (by decide) rfl rfl hl.1 (Nat.le_of_ble_eq_true rfl) dX0_tallyStates_46 ⟨Nat.le_of_ble_eq_true rfl, Nat.le_of_ble_eq_true rfl⟩ (fun H locs hP hD hS => ?_)
              refine lv_istore (lv' := [(4, .int r_3), (0, .ref a_this), (1, .ref a_p1), (2, .int (ishl 1 i_p1_crossings)), (3, .int v3_2)]) hx hb dX0_tallyStates_49 hl (by decide) rfl (fun ls hl => ?_)
              refine lv_iload hx hb dX0_tallyStates_51 (lv_at hl 0 rfl) ?_
              refine lv_if_lt (tgt := 75) hx hb dX0_tallyStates_53 (by decide) (fun c_7 => ?_) (fun c_7 => ?_)
              · replace hf := kt_p hf c_7
                refine lv_iinc (v := (v3_2 + 1)) (lv' := [(3, .int (v3_2 + 1)), (4, .int r_3), (0, .ref a_this), (1, .ref a_p1), (2, .int (ishl 1 i_p1_crossings))]) hx hb dX0_tallyStates_75 hl (k := 4) rfl rfl (by decide) rfl (fun ls hl => ?_)
                refine lv_goto (tgt := 31) hx hb dX0_tallyStates_78 (by decide) ?_
                exact ih_2 (v3_2 + 1) f_tally_2 H locs ls hf hP hD hS (lv_sub hl [2, 3, 4, 0] rfl)
              · replace hf := kt_n hf c_7
                refine lv_iload hx hb dX0_tallyStates_56 (lv_at hl 0 rfl) ?_
                refine lv_sipush (v := 189) hx hb dX0_tallyStates_58 (by decide) ?_
                refine lv_icmp_ge (tgt := 75) hx hb dX0_tallyStates_61 (by decide) (fun c_6 => ?_) (fun c_6 => ?_)
                · replace hf := kt_p hf c_6
                  refine lv_iinc (v := (v3_2 + 1)) (lv' := [(3, .int (v3_2 + 1)), (4, .int r_3), (0, .ref a_this), (1, .ref a_p1), (2, .int (ishl 1 i_p1_crossings))]) hx hb dX0_tallyStates_75 hl (k := 4) rfl rfl (by decide) rfl (fun ls hl => ?_)
                  refine lv_goto (tgt := 31) hx hb dX0_tallyStates_78 (by decide) ?_
                  exact ih_2 (v3_2 + 1) f_tally_2 H locs ls hf hP hD hS (lv_sub hl [2, 3, 4, 0] rfl)
                · replace hf := kt_n hf c_6
                  refine lv_aload_n hx hb dX0_tallyStates_64 rfl (lv_at hl 1 rfl) ?_
                  refine va_get (D := D) (ci := 0) (v := .ref a_tally) (C := RX0) (T := TX0) (N := 5) hx hb hts qX0_tallyStates_X0 hown hK hP 0 rfl rfl 1 (Nat.le_of_ble_eq_true rfl) (hts (.fieldLink RX0 15 "KnotDiagram$Bracket" "tally" "[I") qX0_tallyStates_1) (fun _ h9 => h9) rfl dX0_tallyStates_65 ?_
                  refine lv_iload hx hb dX0_tallyStates_68 (lv_at hl 0 rfl) ?_
                  refine lv_dup2_11 hx hb dX0_tallyStates_70 rfl rfl ?_
                  obtain ⟨hi_4, hf⟩ := ck_s hf
                  refine va_iald hx hb hK hP 2 0 rfl rfl hi_4 dX0_tallyStates_71 ?_
                  refine lv_iconst (v := 1) hx hb dX0_tallyStates_72 (by decide) ?_
                  refine lv_iadd hx hb dX0_tallyStates_73 ?_
                  obtain ⟨hi_5, hf⟩ := ck_s hf
                  refine va_iast hx hb hK hP hD hS 2 0 rfl rfl hi_5 dX0_tallyStates_74 (fun H locs hP hD hS => ?_)
                  replace hP : va_P D vwCl [(a_this, .inr (0, [.ref a_otherEnds, .ref a_tally, .ref a_coefficients, .ref a_product, .int i_prepared])), (a_otherEnds, .inl (cyI, 32, .inl f_otherEnds)), (a_tally, .inl (cyI, 189, .inl (upd f_tally_2 r_3.toNatClampNeg ((f_tally_2 r_3.toNatClampNeg) + 1)))), (a_p1, .inr (2, [.int i_p1_crossings, .int i_p1_circles, .ref a_p1_arcs]))] H := hP
                  replace hD : va_D A [(a_this, .inr (0, [.ref a_otherEnds, .ref a_tally, .ref a_coefficients, .ref a_product, .int i_prepared])), (a_otherEnds, .inl (cyI, 32, .inl f_otherEnds)), (a_tally, .inl (cyI, 189, .inl (upd f_tally_2 r_3.toNatClampNeg ((f_tally_2 r_3.toNatClampNeg) + 1)))), (a_p1, .inr (2, [.int i_p1_crossings, .int i_p1_circles, .ref a_p1_arcs]))] := hD
                  refine lv_iinc (v := (v3_2 + 1)) (lv' := [(3, .int (v3_2 + 1)), (4, .int r_3), (0, .ref a_this), (1, .ref a_p1), (2, .int (ishl 1 i_p1_crossings))]) hx hb dX0_tallyStates_75 hl (k := 4) rfl rfl (by decide) rfl (fun ls hl => ?_)
                  refine lv_goto (tgt := 31) hx hb dX0_tallyStates_78 (by decide) ?_
                  exact ih_2 (v3_2 + 1) (upd f_tally_2 r_3.toNatClampNeg ((f_tally_2 r_3.toNatClampNeg) + 1)) H locs ls hf hP hD hS (lv_sub hl [2, 3, 4, 0] rfl)
        exact hL_2 400 0 f_tally_1 H locs ls hf hP hD hS (lv_sub hl [2, 3, 1, 0] rfl)
      · replace hf := kt_n hf c_10
        refine lv_aload_n hx hb dX0_tallyStates_9 rfl (lv_at hl 0 rfl) ?_
        refine va_get (D := D) (ci := 0) (v := .ref a_tally) (C := RX0) (T := TX0) (N := 5) hx hb hts qX0_tallyStates_X0 hown hK hP 0 rfl rfl 1 (Nat.le_of_ble_eq_true rfl) (hts (.fieldLink RX0 15 "KnotDiagram$Bracket" "tally" "[I") qX0_tallyStates_1) (fun _ h9 => h9) rfl dX0_tallyStates_10 ?_
        refine lv_iload_n hx hb dX0_tallyStates_13 rfl (lv_at hl 2 rfl) ?_
        refine lv_iconst (v := 0) hx hb dX0_tallyStates_14 (by decide) ?_
        obtain ⟨hi_9, hf⟩ := ck_s hf
        refine va_iast hx hb hK hP hD hS 2 0 rfl rfl hi_9 dX0_tallyStates_15 (fun H locs hP hD hS => ?_)
        replace hP : va_P D vwCl [(a_this, .inr (0, [.ref a_otherEnds, .ref a_tally, .ref a_coefficients, .ref a_product, .int i_prepared])), (a_otherEnds, .inl (cyI, 32, .inl f_otherEnds)), (a_tally, .inl (cyI, 189, .inl (upd f_tally_1 v2_1.toNatClampNeg 0))), (a_p1, .inr (2, [.int i_p1_crossings, .int i_p1_circles, .ref a_p1_arcs]))] H := hP
        replace hD : va_D A [(a_this, .inr (0, [.ref a_otherEnds, .ref a_tally, .ref a_coefficients, .ref a_product, .int i_prepared])), (a_otherEnds, .inl (cyI, 32, .inl f_otherEnds)), (a_tally, .inl (cyI, 189, .inl (upd f_tally_1 v2_1.toNatClampNeg 0))), (a_p1, .inr (2, [.int i_p1_crossings, .int i_p1_circles, .ref a_p1_arcs]))] := hD
        refine lv_iinc (v := (v2_1 + 1)) (lv' := [(2, .int (v2_1 + 1)), (0, .ref a_this), (1, .ref a_p1)]) hx hb dX0_tallyStates_16 hl (k := 2) rfl rfl (by decide) rfl (fun ls hl => ?_)
        refine lv_goto (tgt := 2) hx hb dX0_tallyStates_19 (by decide) ?_
        exact ih_1 (v2_1 + 1) (upd f_tally_1 v2_1.toNatClampNeg 0) H locs ls hf hP hD hS (lv_sub hl [1, 2, 0] rfl)
  exact hL_1 400 0 f_tally H locs ls hf hP hD hS (lv_sub hl [1, 2, 0] rfl)
def kX0_multiplyByD_L2 (f_product_1 : Nat → Int32) (K_2 : Int32 → (Nat → Int32) → Option ((Nat → Int32) × (Nat → Int32))) (v1_2 : Int32) (f_coefficients_2 : Nat → Int32) : Option ((Nat → Int32) × (Nat → Int32)) :=
  if 121 ≤ v1_2 then some (f_coefficients_2, f_product_1) else ck v1_2 121 (ck v1_2 121 (K_2 (v1_2 + 1) (upd f_coefficients_2 v1_2.toNatClampNeg (f_product_1 v1_2.toNatClampNeg))))
def kX0_multiplyByD_L1 (f_coefficients : Nat → Int32) (K_1 : Int32 → (Nat → Int32) → Option ((Nat → Int32) × (Nat → Int32))) (v1_1 : Int32) (f_product_1 : Nat → Int32) : Option ((Nat → Int32) × (Nat → Int32)) :=
  if 121 ≤ v1_1 then it2 (kX0_multiplyByD_L2 f_product_1) 400 0 f_coefficients else bnd1 (kX0_at ((v1_1 - 60) - 2) f_coefficients) (fun r_4 => bnd1 (kX0_at ((v1_1 - 60) + 2) f_coefficients) (fun r_5 => ck v1_1 121 (K_1 (v1_1 + 1) (upd f_product_1 v1_1.toNatClampNeg ((-r_4) - r_5)))))
def kX0_multiplyByD (f_coefficients : Nat → Int32) (f_product : Nat → Int32) : Option ((Nat → Int32) × (Nat → Int32)) :=
  it2 (kX0_multiplyByD_L1 f_coefficients) 400 0 f_product
def rmX0_multiplyByD : Room := { frames := 1, cells := 0, slots := 0, locals := 22 }
theorem qX0_multiplyByD_0 : (.fieldLink RX0 18 "KnotDiagram$Bracket" "coefficients" "[I" : Cond) ∈ wsX0_multiplyByD := by decide +kernel
theorem qX0_multiplyByD_1 : (.fieldLink RX0 21 "KnotDiagram$Bracket" "product" "[I" : Cond) ∈ wsX0_multiplyByD := by decide +kernel
theorem qX0_multiplyByD_X0 : ∀ w ∈ wsX00, w ∈ wsX0_multiplyByD := by decide +kernel
set_option maxHeartbeats 4000000 in
set_option maxRecDepth 100000 in
theorem mX0_multiplyByD (l : Launch) (D : va_G) (cyI cyZ : ClassId) (sz : Nat) (a_this a_otherEnds a_tally a_coefficients a_product : Nat) (i_prepared : Int32) (f_coefficients : Nat → Int32) (f_product : Nat → Int32) (o_coefficients : Nat → Int32) (o_product : Nat → Int32) (hf : kX0_multiplyByD f_coefficients f_product = some (o_coefficients, o_product)) : Met l yX0_multiplyByD wsX0_multiplyByD rmX0_multiplyByD (kPre D cyI cyZ [.ref a_this] [(a_this, .inr (0, [.ref a_otherEnds, .ref a_tally, .ref a_coefficients, .ref a_product, .int i_prepared])), (a_coefficients, .inl (cyI, 121, .inl f_coefficients)), (a_product, .inl (cyI, 121, .inl f_product))] sz) (kQv D cyI cyZ (va_A [(a_this, .inr (0, [.ref a_otherEnds, .ref a_tally, .ref a_coefficients, .ref a_product, .int i_prepared])), (a_coefficients, .inl (cyI, 121, .inl f_coefficients)), (a_product, .inl (cyI, 121, .inl f_product))] sz) [(a_this, .inr (0, [.ref a_otherEnds, .ref a_tally, .ref a_coefficients, .ref a_product, .int i_prepared])), (a_coefficients, .inl (cyI, 121, .inl o_coefficients)), (a_product, .inl (cyI, 121, .inl o_product))]) 0 0 (va_A [(a_this, .inr (0, [.ref a_otherEnds, .ref a_tally, .ref a_coefficients, .ref a_product, .int i_prepared])), (a_coefficients, .inl (cyI, 121, .inl f_coefficients)), (a_product, .inl (cyI, 121, .inl f_product))] sz) := by
  refine Met.ofW (cc := cX0_multiplyByD) (maxL := 3) (ret := none) (by decide) rfl ?_
  intro p e s m args below meth c s₁ B hml hv
  obtain ⟨rfl, hsz, hP, hK, hD0, hN⟩ := hv
  have hx := B.exec
  have hb := B.bytes
  have hr := B.returns
  have hts := atoms_spec (ws := wsX0_multiplyByD) B.pre
  have hown : s.vm.findClass RX0 = some m.cls := findClass_of_methodNamed B.named
  have hlocks := B.notSynchronized
  subst hsz
  have hD := hD0.self (sz := s.heap.size)
  generalize hAe : va_A [(a_this, .inr (0, [.ref a_otherEnds, .ref a_tally, .ref a_coefficients, .ref a_product, .int i_prepared])), (a_coefficients, .inl (cyI, 121, .inl f_coefficients)), (a_product, .inl (cyI, 121, .inl f_product))] s.heap.size = A at hD ⊢
  have hA : ∀ q : Nat, s.heap.size ≤ q → A q := fun q h => by rw [← hAe]; exact Or.inr h
  clear hAe hD0
  have hS : va_S A s.heap s.heap [] := va_S.rf
  have S : CallFix p m c cX0_multiplyByD 3 s (([.ref a_this] : List Value).toArray) wsX0_multiplyByD RX0 := ⟨hx, hb, hml, hown, hts⟩
  have hl := lv_entry ([.ref a_this]) (n := 3) (Nat.le_of_ble_eq_true rfl)
  rw [lg_entry_eq]
  generalize (lg_sl ([.ref a_this]) ++ List.replicate (3 - (lg_sl ([.ref a_this])).length) Slot.unset).toArray = ls at hl ⊢
  replace hl : lv_has ls 3 [(0, .ref a_this)] := hl
  generalize ([] : List Loc) = locs at hS ⊢
  delta kX0_multiplyByD at hf
  obtain ⟨H, hH⟩ : ∃ H, H = s.heap := ⟨_, rfl⟩
  have hS : va_S A s.heap H locs := by rw [hH]; exact hS
  have hP : va_P D vwCl [(a_this, .inr (0, [.ref a_otherEnds, .ref a_tally, .ref a_coefficients, .ref a_product, .int i_prepared])), (a_coefficients, .inl (cyI, 121, .inl f_coefficients)), (a_product, .inl (cyI, 121, .inl f_product))] H := by rw [hH]; exact hP
  suffices hgo : W p l e (headSpec wsX0_multiplyByD rmX0_multiplyByD).room s m (([.ref a_this] : List Value).toArray) below meth c H locs 0 0 (MQ below (kQv D cyI cyZ A [(a_this, .inr (0, [.ref a_otherEnds, .ref a_tally, .ref a_coefficients, .ref a_product, .int i_prepared])), (a_coefficients, .inl (cyI, 121, .inl o_coefficients)), (a_product, .inl (cyI, 121, .inl o_product))]) (([.ref a_this] : List Value).toArray) s 0 0 A) (F0 m 0 ls []) by rw [hH] at hgo; exact hgo
  clear hH
  refine lv_iconst (v := 0) hx hb dX0_multiplyByD_0 (by decide) ?_
  refine lv_istore_n (lv' := [(1, .int 0), (0, .ref a_this)]) hx hb dX0_multiplyByD_1 rfl hl (by decide) rfl (fun ls hl => ?_)
  have hL_1 : ∀ (n : Nat) (v1_1 : Int32) (f_product_1 : Nat → Int32) (H : Heap) (locs : List Loc) (ls : Array Slot), it2 (kX0_multiplyByD_L1 f_coefficients) n v1_1 f_product_1 = some (o_coefficients, o_product) → va_P D vwCl [(a_this, .inr (0, [.ref a_otherEnds, .ref a_tally, .ref a_coefficients, .ref a_product, .int i_prepared])), (a_coefficients, .inl (cyI, 121, .inl f_coefficients)), (a_product, .inl (cyI, 121, .inl f_product_1))] H → va_D A [(a_this, .inr (0, [.ref a_otherEnds, .ref a_tally, .ref a_coefficients, .ref a_product, .int i_prepared])), (a_coefficients, .inl (cyI, 121, .inl f_coefficients)), (a_product, .inl (cyI, 121, .inl f_product_1))] → va_S A s.heap H locs → lv_has ls 3 [(0, .ref a_this), (1, .int v1_1)] → W p l e (headSpec wsX0_multiplyByD rmX0_multiplyByD).room s m (([.ref a_this] : List Value).toArray) below meth c H locs 0 0 (MQ below (kQv D cyI cyZ A [(a_this, .inr (0, [.ref a_otherEnds, .ref a_tally, .ref a_coefficients, .ref a_product, .int i_prepared])), (a_coefficients, .inl (cyI, 121, .inl o_coefficients)), (a_product, .inl (cyI, 121, .inl o_product))]) (([.ref a_this] : List Value).toArray) s 0 0 A) (F0 m 2 ls []) := by
    intro n_1
    induction n_1 with
    | zero =>
      intro _ _ _ _ _ hf
      exact (it2_z hf).elim
    | succ n_1 ih_1 =>
      intro v1_1 f_product_1 H locs ls hf hP hD hS hl
      replace hf := it2_s hf
      rw [kX0_multiplyByD_L1] at hf
      refine lv_iload_n hx hb dX0_multiplyByD_2 rfl (lv_at hl 1 rfl) ?_
      refine lv_bipush (v := 121) hx hb dX0_multiplyByD_3 (by decide) ?_
      refine lv_icmp_ge (tgt := 41) hx hb dX0_multiplyByD_5 (by decide) (fun c_7 => ?_) (fun c_7 => ?_)
      · replace hf := kt_p hf c_7
        refine lv_iconst (v := 0) hx hb dX0_multiplyByD_41 (by decide) ?_
        refine lv_istore_n (lv' := [(1, .int 0), (0, .ref a_this)]) hx hb dX0_multiplyByD_42 rfl hl (by decide) rfl (fun ls hl => ?_)
        have hL_2 : ∀ (n : Nat) (v1_2 : Int32) (f_coefficients_2 : Nat → Int32) (H : Heap) (locs : List Loc) (ls : Array Slot), it2 (kX0_multiplyByD_L2 f_product_1) n v1_2 f_coefficients_2 = some (o_coefficients, o_product) → va_P D vwCl [(a_this, .inr (0, [.ref a_otherEnds, .ref a_tally, .ref a_coefficients, .ref a_product, .int i_prepared])), (a_coefficients, .inl (cyI, 121, .inl f_coefficients_2)), (a_product, .inl (cyI, 121, .inl f_product_1))] H → va_D A [(a_this, .inr (0, [.ref a_otherEnds, .ref a_tally, .ref a_coefficients, .ref a_product, .int i_prepared])), (a_coefficients, .inl (cyI, 121, .inl f_coefficients_2)), (a_product, .inl (cyI, 121, .inl f_product_1))] → va_S A s.heap H locs → lv_has ls 3 [(0, .ref a_this), (1, .int v1_2)] → W p l e (headSpec wsX0_multiplyByD rmX0_multiplyByD).room s m (([.ref a_this] : List Value).toArray) below meth c H locs 0 0 (MQ below (kQv D cyI cyZ A [(a_this, .inr (0, [.ref a_otherEnds, .ref a_tally, .ref a_coefficients, .ref a_product, .int i_prepared])), (a_coefficients, .inl (cyI, 121, .inl o_coefficients)), (a_product, .inl (cyI, 121, .inl o_product))]) (([.ref a_this] : List Value).toArray) s 0 0 A) (F0 m 43 ls []) := by
          intro n_2
          induction n_2 with
          | zero =>
            intro _ _ _ _ _ hf
            exact (it2_z hf).elim
          | succ n_2 ih_2 =>
            intro v1_2 f_coefficients_2 H locs ls hf hP hD hS hl
            replace hf := it2_s hf
            rw [kX0_multiplyByD_L2] at hf
            refine lv_iload_n hx hb dX0_multiplyByD_43 rfl (lv_at hl 1 rfl) ?_
            refine lv_bipush (v := 121) hx hb dX0_multiplyByD_44 (by decide) ?_
            refine lv_icmp_ge (tgt := 67) hx hb dX0_multiplyByD_46 (by decide) (fun c_3 => ?_) (fun c_3 => ?_)
            · replace hf := kt_p hf c_3
              obtain ⟨rfl, rfl⟩ := some2_s hf
              exact kRv hx hb hr hlocks hP hK hD hS dX0_multiplyByD_67
            · replace hf := kt_n hf c_3
              refine lv_aload_n hx hb dX0_multiplyByD_49 rfl (lv_at hl 0 rfl) ?_
              refine va_get (D := D) (ci := 0) (v := .ref a_coefficients) (C := RX0) (T := TX0) (N := 5) hx hb hts qX0_multiplyByD_X0 hown hK hP 0 rfl rfl 2 (Nat.le_of_ble_eq_true rfl) (hts (.fieldLink RX0 18 "KnotDiagram$Bracket" "coefficients" "[I") qX0_multiplyByD_0) (fun _ h9 => h9) rfl dX0_multiplyByD_50 ?_
              refine lv_iload_n hx hb dX0_multiplyByD_53 rfl (lv_at hl 1 rfl) ?_
              refine lv_aload_n hx hb dX0_multiplyByD_54 rfl (lv_at hl 0 rfl) ?_
              refine va_get (D := D) (ci := 0) (v := .ref a_product) (C := RX0) (T := TX0) (N := 5) hx hb hts qX0_multiplyByD_X0 hown hK hP 0 rfl rfl 3 (Nat.le_of_ble_eq_true rfl) (hts (.fieldLink RX0 21 "KnotDiagram$Bracket" "product" "[I") qX0_multiplyByD_1) (fun _ h9 => h9) rfl dX0_multiplyByD_55 ?_
              refine lv_iload_n hx hb dX0_multiplyByD_58 rfl (lv_at hl 1 rfl) ?_
              obtain ⟨hi_1, hf⟩ := ck_s hf
              refine va_iald hx hb hK hP 2 0 rfl rfl hi_1 dX0_multiplyByD_59 ?_
              obtain ⟨hi_2, hf⟩ := ck_s hf
              refine va_iast hx hb hK hP hD hS 1 0 rfl rfl hi_2 dX0_multiplyByD_60 (fun H locs hP hD hS => ?_)
              replace hP : va_P D vwCl [(a_this, .inr (0, [.ref a_otherEnds, .ref a_tally, .ref a_coefficients, .ref a_product, .int i_prepared])), (a_coefficients, .inl (cyI, 121, .inl (upd f_coefficients_2 v1_2.toNatClampNeg (f_product_1 v1_2.toNatClampNeg)))), (a_product, .inl (cyI, 121, .inl f_product_1))] H := hP
              replace hD : va_D A [(a_this, .inr (0, [.ref a_otherEnds, .ref a_tally, .ref a_coefficients, .ref a_product, .int i_prepared])), (a_coefficients, .inl (cyI, 121, .inl (upd f_coefficients_2 v1_2.toNatClampNeg (f_product_1 v1_2.toNatClampNeg)))), (a_product, .inl (cyI, 121, .inl f_product_1))] := hD
              refine lv_iinc (v := (v1_2 + 1)) (lv' := [(1, .int (v1_2 + 1)), (0, .ref a_this)]) hx hb dX0_multiplyByD_61 hl (k := 1) rfl rfl (by decide) rfl (fun ls hl => ?_)
              refine lv_goto (tgt := 43) hx hb dX0_multiplyByD_64 (by decide) ?_
              exact ih_2 (v1_2 + 1) (upd f_coefficients_2 v1_2.toNatClampNeg (f_product_1 v1_2.toNatClampNeg)) H locs ls hf hP hD hS (lv_sub hl [1, 0] rfl)
        exact hL_2 400 0 f_coefficients H locs ls hf hP hD hS (lv_sub hl [1, 0] rfl)
      · replace hf := kt_n hf c_7
        refine lv_iload_n hx hb dX0_multiplyByD_8 rfl (lv_at hl 1 rfl) ?_
        refine lv_bipush (v := 60) hx hb dX0_multiplyByD_9 (by decide) ?_
        refine lv_isub hx hb dX0_multiplyByD_11 ?_
        refine lv_istore_n (lv' := [(2, .int (v1_1 - 60)), (0, .ref a_this), (1, .int v1_1)]) hx hb dX0_multiplyByD_12 rfl hl (by decide) rfl (fun ls hl => ?_)
        refine lv_aload_n hx hb dX0_multiplyByD_13 rfl (lv_at hl 1 rfl) ?_
        refine va_get (D := D) (ci := 0) (v := .ref a_product) (C := RX0) (T := TX0) (N := 5) hx hb hts qX0_multiplyByD_X0 hown hK hP 0 rfl rfl 3 (Nat.le_of_ble_eq_true rfl) (hts (.fieldLink RX0 21 "KnotDiagram$Bracket" "product" "[I") qX0_multiplyByD_1) (fun _ h9 => h9) rfl dX0_multiplyByD_14 ?_
        refine lv_iload_n hx hb dX0_multiplyByD_17 rfl (lv_at hl 2 rfl) ?_
        refine lv_aload_n hx hb dX0_multiplyByD_18 rfl (lv_at hl 1 rfl) ?_
        refine lv_iload_n hx hb dX0_multiplyByD_19 rfl (lv_at hl 0 rfl) ?_
        refine lv_iconst (v := 2) hx hb dX0_multiplyByD_20 (by decide) ?_
        refine lv_isub hx hb dX0_multiplyByD_21 ?_
        obtain ⟨r_4, hc_4, hf⟩ := bnd1_s hf
        refine kcVi (As := [.int ((v1_1 - 60) - 2)]) (rest := [.int v1_1, .ref a_product]) (w2 := [(a_this, .inr (0, [.ref a_otherEnds, .ref a_tally, .ref a_coefficients, .ref a_product, .int i_prepared])), (a_coefficients, .inl (cyI, 121, .inl f_coefficients)), (a_product, .inl (cyI, 121, .inl f_product_1))]) S hK hP hD hS hA hN (mX0_at l D cyI cyZ H.size a_this a_otherEnds a_tally a_coefficients a_product ((v1_1 - 60) - 2) i_prepared f_coefficients r_4 hc_4) (cwV 1 hts gX0_multiplyByD_X0_at rfl rfl rfl (by decide +kernel) ⟨Nat.le_of_ble_eq_true rfl, Nat.le_of_ble_eq_true rfl⟩) 0 0 rfl rfl [0, 1] [2] [1, 2, 0] rfl rfl rfl rfl (by decide) rfl rfl hl.1 (Nat.le_of_ble_eq_true rfl) dX0_multiplyByD_22 ⟨Nat.le_of_ble_eq_true rfl, Nat.le_of_ble_eq_true rfl⟩ (fun H locs hP hD hS => ?_)
        refine lv_ineg hx hb dX0_multiplyByD_25 ?_
        refine lv_aload_n hx hb dX0_multiplyByD_26 rfl (lv_at hl 1 rfl) ?_
        refine lv_iload_n hx hb dX0_multiplyByD_27 rfl (lv_at hl 0 rfl) ?_
        refine lv_iconst (v := 2) hx hb dX0_multiplyByD_28 (by decide) ?_
        refine lv_iadd hx hb dX0_multiplyByD_29 ?_
        obtain ⟨r_5, hc_5, hf⟩ := bnd1_s hf
        refine kcVi (As := [.int ((v1_1 - 60) + 2)]) (rest := [.int (-r_4), .int v1_1, .ref a_product]) (w2 := [(a_this, .inr (0, [.ref a_otherEnds, .ref a_tally, .ref a_coefficients, .ref a_product, .int i_prepared])), (a_coefficients, .inl (cyI, 121, .inl f_coefficients)), (a_product, .inl (cyI, 121, .inl f_product_1))]) S hK hP hD hS hA hN (mX0_at l D cyI cyZ H.size a_this a_otherEnds a_tally a_coefficients a_product ((v1_1 - 60) + 2) i_prepared f_coefficients r_5 hc_5) (cwV 1 hts gX0_multiplyByD_X0_at rfl rfl rfl (by decide +kernel) ⟨Nat.le_of_ble_eq_true rfl, Nat.le_of_ble_eq_true rfl⟩) 0 0 rfl rfl [0, 1] [2] [1, 2, 0] rfl rfl rfl rfl (by decide) rfl rfl hl.1 (Nat.le_of_ble_eq_true rfl) dX0_multiplyByD_30 ⟨Nat.le_of_ble_eq_true rfl, Nat.le_of_ble_eq_true rfl⟩ (fun H locs hP hD hS => ?_)
        refine lv_isub hx hb dX0_multiplyByD_33 ?_
        obtain ⟨hi_6, hf⟩ := ck_s hf
        refine va_iast hx hb hK hP hD hS 2 0 rfl rfl hi_6 dX0_multiplyByD_34 (fun H locs hP hD hS => ?_)
        replace hP : va_P D vwCl [(a_this, .inr (0, [.ref a_otherEnds, .ref a_tally, .ref a_coefficients, .ref a_product, .int i_prepared])), (a_coefficients, .inl (cyI, 121, .inl f_coefficients)), (a_product, .inl (cyI, 121, .inl (upd f_product_1 v1_1.toNatClampNeg ((-r_4) - r_5))))] H := hP
        replace hD : va_D A [(a_this, .inr (0, [.ref a_otherEnds, .ref a_tally, .ref a_coefficients, .ref a_product, .int i_prepared])), (a_coefficients, .inl (cyI, 121, .inl f_coefficients)), (a_product, .inl (cyI, 121, .inl (upd f_product_1 v1_1.toNatClampNeg ((-r_4) - r_5))))] := hD
        refine lv_iinc (v := (v1_1 + 1)) (lv' := [(1, .int (v1_1 + 1)), (2, .int (v1_1 - 60)), (0, .ref a_this)]) hx hb dX0_multiplyByD_35 hl (k := 2) rfl rfl (by decide) rfl (fun ls hl => ?_)
        refine lv_goto (tgt := 2) hx hb dX0_multiplyByD_38 (by decide) ?_
        exact ih_1 (v1_1 + 1) (upd f_product_1 v1_1.toNatClampNeg ((-r_4) - r_5)) H locs ls hf hP hD hS (lv_sub hl [2, 0] rfl)
  exact hL_1 400 0 f_product H locs ls hf hP hD hS (lv_sub hl [1, 0] rfl)
def kX0_addTally (v1 : Int32) (v2 : Int32) (f_tally : Nat → Int32) (f_coefficients : Nat → Int32) : Option ((Nat → Int32)) :=
  if v1 < 0 then some f_coefficients else if 189 ≤ v1 then some f_coefficients else if (v2 + 60) < 0 then some f_coefficients else if 121 ≤ (v2 + 60) then some f_coefficients else ck (v2 + 60) 121 (ck v1 189 (ck (v2 + 60) 121 (some (upd f_coefficients (v2 + 60).toNatClampNeg ((f_coefficients (v2 + 60).toNatClampNeg) + (f_tally v1.toNatClampNeg))))))
def rmX0_addTally : Room := { frames := 0, cells := 0, slots := 0, locals := 0 }
theorem qX0_addTally_0 : (.fieldLink RX0 18 "KnotDiagram$Bracket" "coefficients" "[I" : Cond) ∈ wsX0_addTally := by decide +kernel
theorem qX0_addTally_1 : (.fieldLink RX0 15 "KnotDiagram$Bracket" "tally" "[I" : Cond) ∈ wsX0_addTally := by decide +kernel
theorem qX0_addTally_X0 : ∀ w ∈ wsX00, w ∈ wsX0_addTally := by decide +kernel
set_option maxHeartbeats 4000000 in
set_option maxRecDepth 100000 in
theorem mX0_addTally (l : Launch) (D : va_G) (cyI cyZ : ClassId) (sz : Nat) (a_this a_otherEnds a_tally a_coefficients a_product : Nat) (v1 : Int32) (v2 : Int32) (i_prepared : Int32) (f_tally : Nat → Int32) (f_coefficients : Nat → Int32) (o_coefficients : Nat → Int32) (hf : kX0_addTally v1 v2 f_tally f_coefficients = some o_coefficients) : Met l yX0_addTally wsX0_addTally rmX0_addTally (kPre D cyI cyZ [.ref a_this, .int v1, .int v2] [(a_this, .inr (0, [.ref a_otherEnds, .ref a_tally, .ref a_coefficients, .ref a_product, .int i_prepared])), (a_tally, .inl (cyI, 189, .inl f_tally)), (a_coefficients, .inl (cyI, 121, .inl f_coefficients))] sz) (kQv D cyI cyZ (va_A [(a_this, .inr (0, [.ref a_otherEnds, .ref a_tally, .ref a_coefficients, .ref a_product, .int i_prepared])), (a_tally, .inl (cyI, 189, .inl f_tally)), (a_coefficients, .inl (cyI, 121, .inl f_coefficients))] sz) [(a_this, .inr (0, [.ref a_otherEnds, .ref a_tally, .ref a_coefficients, .ref a_product, .int i_prepared])), (a_tally, .inl (cyI, 189, .inl f_tally)), (a_coefficients, .inl (cyI, 121, .inl o_coefficients))]) 0 0 (va_A [(a_this, .inr (0, [.ref a_otherEnds, .ref a_tally, .ref a_coefficients, .ref a_product, .int i_prepared])), (a_tally, .inl (cyI, 189, .inl f_tally)), (a_coefficients, .inl (cyI, 121, .inl f_coefficients))] sz) := by
  refine Met.ofW (cc := cX0_addTally) (maxL := 4) (ret := none) (by decide) rfl ?_
  intro p e s m args below meth c s₁ B hml hv
  obtain ⟨rfl, hsz, hP, hK, hD0, hN⟩ := hv
  have hx := B.exec
  have hb := B.bytes
  have hr := B.returns
  have hts := atoms_spec (ws := wsX0_addTally) B.pre
  have hown : s.vm.findClass RX0 = some m.cls := findClass_of_methodNamed B.named
  have hlocks := B.notSynchronized
  subst hsz
  have hD := hD0.self (sz := s.heap.size)
  generalize hAe : va_A [(a_this, .inr (0, [.ref a_otherEnds, .ref a_tally, .ref a_coefficients, .ref a_product, .int i_prepared])), (a_tally, .inl (cyI, 189, .inl f_tally)), (a_coefficients, .inl (cyI, 121, .inl f_coefficients))] s.heap.size = A at hD ⊢
  have hA : ∀ q : Nat, s.heap.size ≤ q → A q := fun q h => by rw [← hAe]; exact Or.inr h
  clear hAe hD0
  have hS : va_S A s.heap s.heap [] := va_S.rf
  have S : CallFix p m c cX0_addTally 4 s (([.ref a_this, .int v1, .int v2] : List Value).toArray) wsX0_addTally RX0 := ⟨hx, hb, hml, hown, hts⟩
  have hl := lv_entry ([.ref a_this, .int v1, .int v2]) (n := 4) (Nat.le_of_ble_eq_true rfl)
  rw [lg_entry_eq]
  generalize (lg_sl ([.ref a_this, .int v1, .int v2]) ++ List.replicate (4 - (lg_sl ([.ref a_this, .int v1, .int v2])).length) Slot.unset).toArray = ls at hl ⊢
  replace hl : lv_has ls 4 [(0, .ref a_this), (1, .int v1), (2, .int v2)] := hl
  generalize ([] : List Loc) = locs at hS ⊢
  delta kX0_addTally at hf
  obtain ⟨H, hH⟩ : ∃ H, H = s.heap := ⟨_, rfl⟩
  have hS : va_S A s.heap H locs := by rw [hH]; exact hS
  have hP : va_P D vwCl [(a_this, .inr (0, [.ref a_otherEnds, .ref a_tally, .ref a_coefficients, .ref a_product, .int i_prepared])), (a_tally, .inl (cyI, 189, .inl f_tally)), (a_coefficients, .inl (cyI, 121, .inl f_coefficients))] H := by rw [hH]; exact hP
  suffices hgo : W p l e (headSpec wsX0_addTally rmX0_addTally).room s m (([.ref a_this, .int v1, .int v2] : List Value).toArray) below meth c H locs 0 0 (MQ below (kQv D cyI cyZ A [(a_this, .inr (0, [.ref a_otherEnds, .ref a_tally, .ref a_coefficients, .ref a_product, .int i_prepared])), (a_tally, .inl (cyI, 189, .inl f_tally)), (a_coefficients, .inl (cyI, 121, .inl o_coefficients))]) (([.ref a_this, .int v1, .int v2] : List Value).toArray) s 0 0 A) (F0 m 0 ls []) by rw [hH] at hgo; exact hgo
  clear hH
  refine lv_iload_n hx hb dX0_addTally_0 rfl (lv_at hl 2 rfl) ?_
  refine lv_bipush (v := 60) hx hb dX0_addTally_1 (by decide) ?_
  refine lv_iadd hx hb dX0_addTally_3 ?_
  refine lv_istore_n (lv' := [(3, .int (v2 + 60)), (0, .ref a_this), (1, .int v1), (2, .int v2)]) hx hb dX0_addTally_4 rfl hl (by decide) rfl (fun ls hl => ?_)
  refine lv_iload_n hx hb dX0_addTally_5 rfl (lv_at hl 2 rfl) ?_
  refine lv_if_lt (tgt := 41) hx hb dX0_addTally_6 (by decide) (fun c_7 => ?_) (fun c_7 => ?_)
  · replace hf := kt_p hf c_7
    obtain rfl := some1_s hf
    exact kRv hx hb hr hlocks hP hK hD hS dX0_addTally_41
  · replace hf := kt_n hf c_7
    refine lv_iload_n hx hb dX0_addTally_9 rfl (lv_at hl 2 rfl) ?_
    refine lv_sipush (v := 189) hx hb dX0_addTally_10 (by decide) ?_
    refine lv_icmp_ge (tgt := 41) hx hb dX0_addTally_13 (by decide) (fun c_6 => ?_) (fun c_6 => ?_)
    · replace hf := kt_p hf c_6
      obtain rfl := some1_s hf
      exact kRv hx hb hr hlocks hP hK hD hS dX0_addTally_41
    · replace hf := kt_n hf c_6
      refine lv_iload_n hx hb dX0_addTally_16 rfl (lv_at hl 0 rfl) ?_
      refine lv_if_lt (tgt := 41) hx hb dX0_addTally_17 (by decide) (fun c_5 => ?_) (fun c_5 => ?_)
      · replace hf := kt_p hf c_5
        obtain rfl := some1_s hf
        exact kRv hx hb hr hlocks hP hK hD hS dX0_addTally_41
      · replace hf := kt_n hf c_5
        refine lv_iload_n hx hb dX0_addTally_20 rfl (lv_at hl 0 rfl) ?_
        refine lv_bipush (v := 121) hx hb dX0_addTally_21 (by decide) ?_
        refine lv_icmp_ge (tgt := 41) hx hb dX0_addTally_23 (by decide) (fun c_4 => ?_) (fun c_4 => ?_)
        · replace hf := kt_p hf c_4
          obtain rfl := some1_s hf
          exact kRv hx hb hr hlocks hP hK hD hS dX0_addTally_41
        · replace hf := kt_n hf c_4
          refine lv_aload_n hx hb dX0_addTally_26 rfl (lv_at hl 1 rfl) ?_
          refine va_get (D := D) (ci := 0) (v := .ref a_coefficients) (C := RX0) (T := TX0) (N := 5) hx hb hts qX0_addTally_X0 hown hK hP 0 rfl rfl 2 (Nat.le_of_ble_eq_true rfl) (hts (.fieldLink RX0 18 "KnotDiagram$Bracket" "coefficients" "[I") qX0_addTally_0) (fun _ h9 => h9) rfl dX0_addTally_27 ?_
          refine lv_iload_n hx hb dX0_addTally_30 rfl (lv_at hl 0 rfl) ?_
          refine lv_dup2_11 hx hb dX0_addTally_31 rfl rfl ?_
          obtain ⟨hi_1, hf⟩ := ck_s hf
          refine va_iald hx hb hK hP 2 0 rfl rfl hi_1 dX0_addTally_32 ?_
          refine lv_aload_n hx hb dX0_addTally_33 rfl (lv_at hl 1 rfl) ?_
          refine va_get (D := D) (ci := 0) (v := .ref a_tally) (C := RX0) (T := TX0) (N := 5) hx hb hts qX0_addTally_X0 hown hK hP 0 rfl rfl 1 (Nat.le_of_ble_eq_true rfl) (hts (.fieldLink RX0 15 "KnotDiagram$Bracket" "tally" "[I") qX0_addTally_1) (fun _ h9 => h9) rfl dX0_addTally_34 ?_
          refine lv_iload_n hx hb dX0_addTally_37 rfl (lv_at hl 2 rfl) ?_
          obtain ⟨hi_2, hf⟩ := ck_s hf
          refine va_iald hx hb hK hP 1 0 rfl rfl hi_2 dX0_addTally_38 ?_
          refine lv_iadd hx hb dX0_addTally_39 ?_
          obtain ⟨hi_3, hf⟩ := ck_s hf
          refine va_iast hx hb hK hP hD hS 2 0 rfl rfl hi_3 dX0_addTally_40 (fun H locs hP hD hS => ?_)
          replace hP : va_P D vwCl [(a_this, .inr (0, [.ref a_otherEnds, .ref a_tally, .ref a_coefficients, .ref a_product, .int i_prepared])), (a_tally, .inl (cyI, 189, .inl f_tally)), (a_coefficients, .inl (cyI, 121, .inl (upd f_coefficients (v2 + 60).toNatClampNeg ((f_coefficients (v2 + 60).toNatClampNeg) + (f_tally v1.toNatClampNeg)))))] H := hP
          replace hD : va_D A [(a_this, .inr (0, [.ref a_otherEnds, .ref a_tally, .ref a_coefficients, .ref a_product, .int i_prepared])), (a_tally, .inl (cyI, 189, .inl f_tally)), (a_coefficients, .inl (cyI, 121, .inl (upd f_coefficients (v2 + 60).toNatClampNeg ((f_coefficients (v2 + 60).toNatClampNeg) + (f_tally v1.toNatClampNeg)))))] := hD
          obtain rfl := some1_s hf
          exact kRv hx hb hr hlocks hP hK hD hS dX0_addTally_41
def kX0_sumStates_L3 (v1 : Int32) (K_2 : Int32 → (Nat → Int32) → (Nat → Int32) → Option ((Nat → Int32) × (Nat → Int32))) (v2_2 : Int32) (o_product_1 : Nat → Int32) (f_tally : Nat → Int32) (K_3 : Int32 → (Nat → Int32) → Option ((Nat → Int32) × (Nat → Int32))) (v3_3 : Int32) (f_coefficients_3 : Nat → Int32) : Option ((Nat → Int32) × (Nat → Int32)) :=
  if v1 < v3_3 then K_2 (v2_2 + (-1)) f_coefficients_3 o_product_1 else bnd1 (kX0_tallyIndex v2_2 v3_3) (fun r_2 => bnd1 (kX0_addTally r_2 (v1 - (2 * v3_3)) f_tally f_coefficients_3) (fun o_coefficients_3 => K_3 (v3_3 + 1) o_coefficients_3))
def kX0_sumStates_L2 (v1 : Int32) (f_tally : Nat → Int32) (K_2 : Int32 → (Nat → Int32) → (Nat → Int32) → Option ((Nat → Int32) × (Nat → Int32))) (v2_2 : Int32) (f_coefficients_2 : Nat → Int32) (f_product_2 : Nat → Int32) : Option ((Nat → Int32) × (Nat → Int32)) :=
  if v2_2 < 1 then some (f_coefficients_2, f_product_2) else bnd2 (kX0_multiplyByD f_coefficients_2 f_product_2) (fun o_coefficients_1 o_product_1 => it2 (kX0_sumStates_L3 v1 K_2 v2_2 o_product_1 f_tally) 400 0 o_coefficients_1)
def kX0_sumStates_L1 (v1 : Int32) (f_tally : Nat → Int32) (f_product : Nat → Int32) (K_1 : Int32 → (Nat → Int32) → Option ((Nat → Int32) × (Nat → Int32))) (v2_1 : Int32) (f_coefficients_1 : Nat → Int32) : Option ((Nat → Int32) × (Nat → Int32)) :=
  if 121 ≤ v2_1 then it3 (kX0_sumStates_L2 v1 f_tally) 400 20 f_coefficients_1 f_product else ck v2_1 121 (K_1 (v2_1 + 1) (upd f_coefficients_1 v2_1.toNatClampNeg 0))
def kX0_sumStates (v1 : Int32) (f_tally : Nat → Int32) (f_coefficients : Nat → Int32) (f_product : Nat → Int32) : Option ((Nat → Int32) × (Nat → Int32)) :=
  it2 (kX0_sumStates_L1 v1 f_tally f_product) 400 0 f_coefficients
def rmX0_sumStates : Room := { frames := 2, cells := 0, slots := 0, locals := 44 }
theorem qX0_sumStates_0 : (.fieldLink RX0 18 "KnotDiagram$Bracket" "coefficients" "[I" : Cond) ∈ wsX0_sumStates := by decide +kernel
theorem qX0_sumStates_X0 : ∀ w ∈ wsX00, w ∈ wsX0_sumStates := by decide +kernel
set_option maxHeartbeats 4000000 in
set_option maxRecDepth 100000 in
theorem mX0_sumStates (l : Launch) (D : va_G) (cyI cyZ : ClassId) (sz : Nat) (a_this a_otherEnds a_tally a_coefficients a_product : Nat) (v1 : Int32) (i_prepared : Int32) (f_tally : Nat → Int32) (f_coefficients : Nat → Int32) (f_product : Nat → Int32) (o_coefficients : Nat → Int32) (o_product : Nat → Int32) (hf : kX0_sumStates v1 f_tally f_coefficients f_product = some (o_coefficients, o_product)) : Met l yX0_sumStates wsX0_sumStates rmX0_sumStates (kPre D cyI cyZ [.ref a_this, .int v1] [(a_this, .inr (0, [.ref a_otherEnds, .ref a_tally, .ref a_coefficients, .ref a_product, .int i_prepared])), (a_tally, .inl (cyI, 189, .inl f_tally)), (a_coefficients, .inl (cyI, 121, .inl f_coefficients)), (a_product, .inl (cyI, 121, .inl f_product))] sz) (kQv D cyI cyZ (va_A [(a_this, .inr (0, [.ref a_otherEnds, .ref a_tally, .ref a_coefficients, .ref a_product, .int i_prepared])), (a_tally, .inl (cyI, 189, .inl f_tally)), (a_coefficients, .inl (cyI, 121, .inl f_coefficients)), (a_product, .inl (cyI, 121, .inl f_product))] sz) [(a_this, .inr (0, [.ref a_otherEnds, .ref a_tally, .ref a_coefficients, .ref a_product, .int i_prepared])), (a_tally, .inl (cyI, 189, .inl f_tally)), (a_coefficients, .inl (cyI, 121, .inl o_coefficients)), (a_product, .inl (cyI, 121, .inl o_product))]) 0 0 (va_A [(a_this, .inr (0, [.ref a_otherEnds, .ref a_tally, .ref a_coefficients, .ref a_product, .int i_prepared])), (a_tally, .inl (cyI, 189, .inl f_tally)), (a_coefficients, .inl (cyI, 121, .inl f_coefficients)), (a_product, .inl (cyI, 121, .inl f_product))] sz) := by
  refine Met.ofW (cc := cX0_sumStates) (maxL := 4) (ret := none) (by decide) rfl ?_
  intro p e s m args below meth c s₁ B hml hv
  obtain ⟨rfl, hsz, hP, hK, hD0, hN⟩ := hv
  have hx := B.exec
  have hb := B.bytes
  have hr := B.returns
  have hts := atoms_spec (ws := wsX0_sumStates) B.pre
  have hown : s.vm.findClass RX0 = some m.cls := findClass_of_methodNamed B.named
  have hlocks := B.notSynchronized
  subst hsz
  have hD := hD0.self (sz := s.heap.size)
  generalize hAe : va_A [(a_this, .inr (0, [.ref a_otherEnds, .ref a_tally, .ref a_coefficients, .ref a_product, .int i_prepared])), (a_tally, .inl (cyI, 189, .inl f_tally)), (a_coefficients, .inl (cyI, 121, .inl f_coefficients)), (a_product, .inl (cyI, 121, .inl f_product))] s.heap.size = A at hD ⊢
  have hA : ∀ q : Nat, s.heap.size ≤ q → A q := fun q h => by rw [← hAe]; exact Or.inr h
  clear hAe hD0
  have hS : va_S A s.heap s.heap [] := va_S.rf
  have S : CallFix p m c cX0_sumStates 4 s (([.ref a_this, .int v1] : List Value).toArray) wsX0_sumStates RX0 := ⟨hx, hb, hml, hown, hts⟩
  have hl := lv_entry ([.ref a_this, .int v1]) (n := 4) (Nat.le_of_ble_eq_true rfl)
  rw [lg_entry_eq]
  generalize (lg_sl ([.ref a_this, .int v1]) ++ List.replicate (4 - (lg_sl ([.ref a_this, .int v1])).length) Slot.unset).toArray = ls at hl ⊢
  replace hl : lv_has ls 4 [(0, .ref a_this), (1, .int v1)] := hl
  generalize ([] : List Loc) = locs at hS ⊢
  delta kX0_sumStates at hf
  obtain ⟨H, hH⟩ : ∃ H, H = s.heap := ⟨_, rfl⟩
  have hS : va_S A s.heap H locs := by rw [hH]; exact hS
  have hP : va_P D vwCl [(a_this, .inr (0, [.ref a_otherEnds, .ref a_tally, .ref a_coefficients, .ref a_product, .int i_prepared])), (a_tally, .inl (cyI, 189, .inl f_tally)), (a_coefficients, .inl (cyI, 121, .inl f_coefficients)), (a_product, .inl (cyI, 121, .inl f_product))] H := by rw [hH]; exact hP
  suffices hgo : W p l e (headSpec wsX0_sumStates rmX0_sumStates).room s m (([.ref a_this, .int v1] : List Value).toArray) below meth c H locs 0 0 (MQ below (kQv D cyI cyZ A [(a_this, .inr (0, [.ref a_otherEnds, .ref a_tally, .ref a_coefficients, .ref a_product, .int i_prepared])), (a_tally, .inl (cyI, 189, .inl f_tally)), (a_coefficients, .inl (cyI, 121, .inl o_coefficients)), (a_product, .inl (cyI, 121, .inl o_product))]) (([.ref a_this, .int v1] : List Value).toArray) s 0 0 A) (F0 m 0 ls []) by rw [hH] at hgo; exact hgo
  clear hH
  refine lv_iconst (v := 0) hx hb dX0_sumStates_0 (by decide) ?_
  refine lv_istore_n (lv' := [(2, .int 0), (0, .ref a_this), (1, .int v1)]) hx hb dX0_sumStates_1 rfl hl (by decide) rfl (fun ls hl => ?_)
  have hL_1 : ∀ (n : Nat) (v2_1 : Int32) (f_coefficients_1 : Nat → Int32) (H : Heap) (locs : List Loc) (ls : Array Slot), it2 (kX0_sumStates_L1 v1 f_tally f_product) n v2_1 f_coefficients_1 = some (o_coefficients, o_product) → va_P D vwCl [(a_this, .inr (0, [.ref a_otherEnds, .ref a_tally, .ref a_coefficients, .ref a_product, .int i_prepared])), (a_tally, .inl (cyI, 189, .inl f_tally)), (a_coefficients, .inl (cyI, 121, .inl f_coefficients_1)), (a_product, .inl (cyI, 121, .inl f_product))] H → va_D A [(a_this, .inr (0, [.ref a_otherEnds, .ref a_tally, .ref a_coefficients, .ref a_product, .int i_prepared])), (a_tally, .inl (cyI, 189, .inl f_tally)), (a_coefficients, .inl (cyI, 121, .inl f_coefficients_1)), (a_product, .inl (cyI, 121, .inl f_product))] → va_S A s.heap H locs → lv_has ls 4 [(0, .ref a_this), (1, .int v1), (2, .int v2_1)] → W p l e (headSpec wsX0_sumStates rmX0_sumStates).room s m (([.ref a_this, .int v1] : List Value).toArray) below meth c H locs 0 0 (MQ below (kQv D cyI cyZ A [(a_this, .inr (0, [.ref a_otherEnds, .ref a_tally, .ref a_coefficients, .ref a_product, .int i_prepared])), (a_tally, .inl (cyI, 189, .inl f_tally)), (a_coefficients, .inl (cyI, 121, .inl o_coefficients)), (a_product, .inl (cyI, 121, .inl o_product))]) (([.ref a_this, .int v1] : List Value).toArray) s 0 0 A) (F0 m 2 ls []) := by
    intro n_1
    induction n_1 with
    | zero =>
      intro _ _ _ _ _ hf
      exact (it2_z hf).elim
    | succ n_1 ih_1 =>
      intro v2_1 f_coefficients_1 H locs ls hf hP hD hS hl
      replace hf := it2_s hf
      rw [kX0_sumStates_L1] at hf
      refine lv_iload_n hx hb dX0_sumStates_2 rfl (lv_at hl 2 rfl) ?_
      refine lv_bipush (v := 121) hx hb dX0_sumStates_3 (by decide) ?_
      refine lv_icmp_ge (tgt := 21) hx hb dX0_sumStates_5 (by decide) (fun c_7 => ?_) (fun c_7 => ?_)
      · replace hf := kt_p hf c_7
        refine lv_bipush (v := 20) hx hb dX0_sumStates_21 (by decide) ?_
        refine lv_istore_n (lv' := [(2, .int 20), (0, .ref a_this), (1, .int v1)]) hx hb dX0_sumStates_23 rfl hl (by decide) rfl (fun ls hl => ?_)
        have hL_2 : ∀ (n : Nat) (v2_2 : Int32) (f_coefficients_2 : Nat → Int32) (f_product_2 : Nat → Int32) (H : Heap) (locs : List Loc) (ls : Array Slot), it3 (kX0_sumStates_L2 v1 f_tally) n v2_2 f_coefficients_2 f_product_2 = some (o_coefficients, o_product) → va_P D vwCl [(a_this, .inr (0, [.ref a_otherEnds, .ref a_tally, .ref a_coefficients, .ref a_product, .int i_prepared])), (a_tally, .inl (cyI, 189, .inl f_tally)), (a_coefficients, .inl (cyI, 121, .inl f_coefficients_2)), (a_product, .inl (cyI, 121, .inl f_product_2))] H → va_D A [(a_this, .inr (0, [.ref a_otherEnds, .ref a_tally, .ref a_coefficients, .ref a_product, .int i_prepared])), (a_tally, .inl (cyI, 189, .inl f_tally)), (a_coefficients, .inl (cyI, 121, .inl f_coefficients_2)), (a_product, .inl (cyI, 121, .inl f_product_2))] → va_S A s.heap H locs → lv_has ls 4 [(0, .ref a_this), (1, .int v1), (2, .int v2_2)] → W p l e (headSpec wsX0_sumStates rmX0_sumStates).room s m (([.ref a_this, .int v1] : List Value).toArray) below meth c H locs 0 0 (MQ below (kQv D cyI cyZ A [(a_this, .inr (0, [.ref a_otherEnds, .ref a_tally, .ref a_coefficients, .ref a_product, .int i_prepared])), (a_tally, .inl (cyI, 189, .inl f_tally)), (a_coefficients, .inl (cyI, 121, .inl o_coefficients)), (a_product, .inl (cyI, 121, .inl o_product))]) (([.ref a_this, .int v1] : List Value).toArray) s 0 0 A) (F0 m 24 ls []) := by
          intro n_2
          induction n_2 with
          | zero =>
            intro _ _ _ _ _ _ hf
            exact (it3_z hf).elim
          | succ n_2 ih_2 =>
            intro v2_2 f_coefficients_2 f_product_2 H locs ls hf hP hD hS hl
            replace hf := it3_s hf
            rw [kX0_sumStates_L2] at hf
            refine lv_iload_n hx hb dX0_sumStates_24 rfl (lv_at hl 2 rfl) ?_
            refine lv_iconst (v := 1) hx hb dX0_sumStates_25 (by decide) ?_
            refine lv_icmp_lt (tgt := 66) hx hb dX0_sumStates_26 (by decide) (fun c_5 => ?_) (fun c_5 => ?_)
            · replace hf := kt_p hf c_5
              obtain ⟨rfl, rfl⟩ := some2_s hf
              exact kRv hx hb hr hlocks hP hK hD hS dX0_sumStates_66
            · replace hf := kt_n hf c_5
              refine lv_aload_n hx hb dX0_sumStates_29 rfl (lv_at hl 0 rfl) ?_
              obtain ⟨o_coefficients_1, o_product_1, hc_1, hf⟩ := bnd2_s hf
              refine kcVv (As := []) (rest := []) (w2 := [(a_this, .inr (0, [.ref a_otherEnds, .ref a_tally, .ref a_coefficients, .ref a_product, .int i_prepared])), (a_tally, .inl (cyI, 189, .inl f_tally)), (a_coefficients, .inl (cyI, 121, .inl o_coefficients_1)), (a_product, .inl (cyI, 121, .inl o_product_1))]) S hK hP hD hS hA hN (mX0_multiplyByD l D cyI cyZ H.size a_this a_otherEnds a_tally a_coefficients a_product i_prepared f_coefficients_2 f_product_2 o_coefficients_1 o_product_1 hc_1) (cwV 0 hts gX0_sumStates_X0_multiplyByD rfl rfl rfl (by decide +kernel) ⟨Nat.le_of_ble_eq_true rfl, Nat.le_of_ble_eq_true rfl⟩) 0 0 rfl rfl [0, 2, 3] [1] [1, 0, 2, 3] rfl rfl rfl rfl (by decide) rfl rfl hl.1 (Nat.le_of_ble_eq_true rfl) dX0_sumStates_30 ⟨Nat.le_of_ble_eq_true rfl, Nat.le_of_ble_eq_true rfl⟩ (fun H locs hP hD hS => ?_)
              refine lv_iconst (v := 0) hx hb dX0_sumStates_33 (by decide) ?_
              refine lv_istore_n (lv' := [(3, .int 0), (0, .ref a_this), (1, .int v1), (2, .int v2_2)]) hx hb dX0_sumStates_34 rfl hl (by decide) rfl (fun ls hl => ?_)
              have hL_3 : ∀ (n : Nat) (v3_3 : Int32) (f_coefficients_3 : Nat → Int32) (H : Heap) (locs : List Loc) (ls : Array Slot), it2 (kX0_sumStates_L3 v1 (it3 (kX0_sumStates_L2 v1 f_tally) n_2) v2_2 o_product_1 f_tally) n v3_3 f_coefficients_3 = some (o_coefficients, o_product) → va_P D vwCl [(a_this, .inr (0, [.ref a_otherEnds, .ref a_tally, .ref a_coefficients, .ref a_product, .int i_prepared])), (a_tally, .inl (cyI, 189, .inl f_tally)), (a_coefficients, .inl (cyI, 121, .inl f_coefficients_3)), (a_product, .inl (cyI, 121, .inl o_product_1))] H → va_D A [(a_this, .inr (0, [.ref a_otherEnds, .ref a_tally, .ref a_coefficients, .ref a_product, .int i_prepared])), (a_tally, .inl (cyI, 189, .inl f_tally)), (a_coefficients, .inl (cyI, 121, .inl f_coefficients_3)), (a_product, .inl (cyI, 121, .inl o_product_1))] → va_S A s.heap H locs → lv_has ls 4 [(0, .ref a_this), (1, .int v1), (2, .int v2_2), (3, .int v3_3)] → W p l e (headSpec wsX0_sumStates rmX0_sumStates).room s m (([.ref a_this, .int v1] : List Value).toArray) below meth c H locs 0 0 (MQ below (kQv D cyI cyZ A [(a_this, .inr (0, [.ref a_otherEnds, .ref a_tally, .ref a_coefficients, .ref a_product, .int i_prepared])), (a_tally, .inl (cyI, 189, .inl f_tally)), (a_coefficients, .inl (cyI, 121, .inl o_coefficients)), (a_product, .inl (cyI, 121, .inl o_product))]) (([.ref a_this, .int v1] : List Value).toArray) s 0 0 A) (F0 m 35 ls []) := by
                intro n_3
                induction n_3 with
                | zero =>
                  intro _ _ _ _ _ hf
                  exact (it2_z hf).elim
                | succ n_3 ih_3 =>
                  intro v3_3 f_coefficients_3 H locs ls hf hP hD hS hl
                  replace hf := it2_s hf
                  rw [kX0_sumStates_L3] at hf
                  refine lv_iload_n hx hb dX0_sumStates_35 rfl (lv_at hl 3 rfl) ?_
                  refine lv_iload_n hx hb dX0_sumStates_36 rfl (lv_at hl 1 rfl) ?_
                  refine lv_icmp_gt (tgt := 60) hx hb dX0_sumStates_37 (by decide) (fun c_4 => ?_) (fun c_4 => ?_)
                  · replace hf := kt_p hf c_4
                    refine lv_iinc (v := (v2_2 + (-1))) (lv' := [(2, .int (v2_2 + (-1))), (0, .ref a_this), (1, .int v1), (3, .int v3_3)]) hx hb dX0_sumStates_60 hl (k := 2) rfl rfl (by decide) rfl (fun ls hl => ?_)
                    refine lv_goto (tgt := 24) hx hb dX0_sumStates_63 (by decide) ?_
                    exact ih_2 (v2_2 + (-1)) f_coefficients_3 o_product_1 H locs ls hf hP hD hS (lv_sub hl [1, 2, 0] rfl)
                  · replace hf := kt_n hf c_4
                    refine lv_aload_n hx hb dX0_sumStates_40 rfl (lv_at hl 0 rfl) ?_
                    refine lv_iload_n hx hb dX0_sumStates_41 rfl (lv_at hl 2 rfl) ?_
                    refine lv_iload_n hx hb dX0_sumStates_42 rfl (lv_at hl 3 rfl) ?_
                    obtain ⟨r_2, hc_2, hf⟩ := bnd1_s hf
                    refine kcSi (As := [.int v2_2, .int v3_3]) (rest := [.ref a_this]) (w2 := [(a_this, .inr (0, [.ref a_otherEnds, .ref a_tally, .ref a_coefficients, .ref a_product, .int i_prepared])), (a_tally, .inl (cyI, 189, .inl f_tally)), (a_coefficients, .inl (cyI, 121, .inl f_coefficients_3)), (a_product, .inl (cyI, 121, .inl o_product_1))]) S hK hP hD hS hA hN (mX0_tallyIndex l D cyI cyZ H.size v2_2 v3_3 r_2 hc_2) (va_cwS 2 hts gX0_sumStates_X0_tallyIndex rfl rfl rfl (by decide +kernel) ⟨Nat.le_of_ble_eq_true rfl, Nat.le_of_ble_eq_true rfl⟩) [] [0, 1, 2, 3] [0, 1, 2, 3] rfl rfl rfl rfl (by decide) rfl rfl hl.1 (Nat.le_of_ble_eq_true rfl) dX0_sumStates_43 ⟨Nat.le_of_ble_eq_true rfl, Nat.le_of_ble_eq_true rfl⟩ (fun H locs hP hD hS => ?_)
                    refine lv_iload_n hx hb dX0_sumStates_46 rfl (lv_at hl 1 rfl) ?_
                    refine lv_iconst (v := 2) hx hb dX0_sumStates_47 (by decide) ?_
                    refine lv_iload_n hx hb dX0_sumStates_48 rfl (lv_at hl 3 rfl) ?_
                    refine lv_imul hx hb dX0_sumStates_49 ?_
                    refine lv_isub hx hb dX0_sumStates_50 ?_
                    obtain ⟨o_coefficients_3, hc_3, hf⟩ := bnd1_s hf
                    refine kcVv (As := [.int r_2, .int (v1 - (2 * v3_3))]) (rest := []) (w2 := [(a_this, .inr (0, [.ref a_otherEnds, .ref a_tally, .ref a_coefficients, .ref a_product, .int i_prepared])), (a_tally, .inl (cyI, 189, .inl f_tally)), (a_coefficients, .inl (cyI, 121, .inl o_coefficients_3)), (a_product, .inl (cyI, 121, .inl o_product_1))]) S hK hP hD hS hA hN (mX0_addTally l D cyI cyZ H.size a_this a_otherEnds a_tally a_coefficients a_product r_2 (v1 - (2 * v3_3)) i_prepared f_tally f_coefficients_3 o_coefficients_3 hc_3) (cwV 2 hts gX0_sumStates_X0_addTally rfl rfl rfl (by decide +kernel) ⟨Nat.le_of_ble_eq_true rfl, Nat.le_of_ble_eq_true rfl⟩) 0 0 rfl rfl [0, 1, 2] [3] [1, 2, 3, 0] rfl rfl rfl rfl (by decide) rfl rfl hl.1 (Nat.le_of_ble_eq_true rfl) dX0_sumStates_51 ⟨Nat.le_of_ble_eq_true rfl, Nat.le_of_ble_eq_true rfl⟩ (fun H locs hP hD hS => ?_)
                    refine lv_iinc (v := (v3_3 + 1)) (lv' := [(3, .int (v3_3 + 1)), (0, .ref a_this), (1, .int v1), (2, .int v2_2)]) hx hb dX0_sumStates_54 hl (k := 3) rfl rfl (by decide) rfl (fun ls hl => ?_)
                    refine lv_goto (tgt := 35) hx hb dX0_sumStates_57 (by decide) ?_
                    exact ih_3 (v3_3 + 1) o_coefficients_3 H locs ls hf hP hD hS (lv_sub hl [1, 2, 3, 0] rfl)
              exact hL_3 400 0 o_coefficients_1 H locs ls hf hP hD hS (lv_sub hl [1, 2, 3, 0] rfl)
        exact hL_2 400 20 f_coefficients_1 f_product H locs ls hf hP hD hS (lv_sub hl [1, 2, 0] rfl)
      · replace hf := kt_n hf c_7
        refine lv_aload_n hx hb dX0_sumStates_8 rfl (lv_at hl 0 rfl) ?_
        refine va_get (D := D) (ci := 0) (v := .ref a_coefficients) (C := RX0) (T := TX0) (N := 5) hx hb hts qX0_sumStates_X0 hown hK hP 0 rfl rfl 2 (Nat.le_of_ble_eq_true rfl) (hts (.fieldLink RX0 18 "KnotDiagram$Bracket" "coefficients" "[I") qX0_sumStates_0) (fun _ h9 => h9) rfl dX0_sumStates_9 ?_
        refine lv_iload_n hx hb dX0_sumStates_12 rfl (lv_at hl 2 rfl) ?_
        refine lv_iconst (v := 0) hx hb dX0_sumStates_13 (by decide) ?_
        obtain ⟨hi_6, hf⟩ := ck_s hf
        refine va_iast hx hb hK hP hD hS 2 0 rfl rfl hi_6 dX0_sumStates_14 (fun H locs hP hD hS => ?_)
        replace hP : va_P D vwCl [(a_this, .inr (0, [.ref a_otherEnds, .ref a_tally, .ref a_coefficients, .ref a_product, .int i_prepared])), (a_tally, .inl (cyI, 189, .inl f_tally)), (a_coefficients, .inl (cyI, 121, .inl (upd f_coefficients_1 v2_1.toNatClampNeg 0))), (a_product, .inl (cyI, 121, .inl f_product))] H := hP
        replace hD : va_D A [(a_this, .inr (0, [.ref a_otherEnds, .ref a_tally, .ref a_coefficients, .ref a_product, .int i_prepared])), (a_tally, .inl (cyI, 189, .inl f_tally)), (a_coefficients, .inl (cyI, 121, .inl (upd f_coefficients_1 v2_1.toNatClampNeg 0))), (a_product, .inl (cyI, 121, .inl f_product))] := hD
        refine lv_iinc (v := (v2_1 + 1)) (lv' := [(2, .int (v2_1 + 1)), (0, .ref a_this), (1, .int v1)]) hx hb dX0_sumStates_15 hl (k := 2) rfl rfl (by decide) rfl (fun ls hl => ?_)
        refine lv_goto (tgt := 2) hx hb dX0_sumStates_18 (by decide) ?_
        exact ih_1 (v2_1 + 1) (upd f_coefficients_1 v2_1.toNatClampNeg 0) H locs ls hf hP hD hS (lv_sub hl [1, 2, 0] rfl)
  exact hL_1 400 0 f_coefficients H locs ls hf hP hD hS (lv_sub hl [1, 2, 0] rfl)
def kX0_prepare (i_prepared : Int32) (f_otherEnds : Nat → Int32) (f_tally : Nat → Int32) (f_coefficients : Nat → Int32) (f_product : Nat → Int32) (i_p1_crossings : Int32) (i_p1_circles : Int32) (f_p1_arcs : Nat → Int32) : Option (Int32 × (Nat → Int32) × (Nat → Int32) × (Nat → Int32) × (Nat → Int32)) :=
  if i_prepared = 0 then bnd1 (kX0_noteOtherEnds f_otherEnds i_p1_crossings f_p1_arcs) (fun o_otherEnds_1 => bnd1 (kX0_tallyStates o_otherEnds_1 f_tally i_p1_crossings i_p1_circles) (fun o_tally_2 => bnd2 (kX0_sumStates i_p1_crossings o_tally_2 f_coefficients f_product) (fun o_coefficients_3 o_product_3 => some (1, o_otherEnds_1, o_tally_2, o_coefficients_3, o_product_3)))) else some (i_prepared, f_otherEnds, f_tally, f_coefficients, f_product)
def rmX0_prepare : Room := { frames := 4, cells := 0, slots := 0, locals := 98 }
theorem qX0_prepare_0 : (.fieldLink RX0 24 "KnotDiagram$Bracket" "prepared" "Z" : Cond) ∈ wsX0_prepare := by decide +kernel
theorem qX0_prepare_1 : (.fieldLink RX0 53 "KnotDiagram$Diagram" "crossings" "I" : Cond) ∈ wsX0_prepare := by decide +kernel
theorem qX0_prepare_X0 : ∀ w ∈ wsX00, w ∈ wsX0_prepare := by decide +kernel
theorem qX0_prepare_X2 : ∀ w ∈ wsX20, w ∈ wsX0_prepare := by decide +kernel
set_option maxHeartbeats 4000000 in
set_option maxRecDepth 100000 in
theorem mX0_prepare (l : Launch) (D : va_G) (cyI cyZ : ClassId) (sz : Nat) (a_this a_p1 a_otherEnds a_tally a_coefficients a_product a_p1_arcs : Nat) (i_prepared : Int32) (f_otherEnds : Nat → Int32) (f_tally : Nat → Int32) (f_coefficients : Nat → Int32) (f_product : Nat → Int32) (i_p1_crossings : Int32) (i_p1_circles : Int32) (f_p1_arcs : Nat → Int32) (o_prepared : Int32) (o_otherEnds : Nat → Int32) (o_tally : Nat → Int32) (o_coefficients : Nat → Int32) (o_product : Nat → Int32) (hf : kX0_prepare i_prepared f_otherEnds f_tally f_coefficients f_product i_p1_crossings i_p1_circles f_p1_arcs = some (o_prepared, o_otherEnds, o_tally, o_coefficients, o_product)) : Met l yX0_prepare wsX0_prepare rmX0_prepare (kPre D cyI cyZ [.ref a_this, .ref a_p1] [(a_this, .inr (0, [.ref a_otherEnds, .ref a_tally, .ref a_coefficients, .ref a_product, .int i_prepared])), (a_otherEnds, .inl (cyI, 32, .inl f_otherEnds)), (a_tally, .inl (cyI, 189, .inl f_tally)), (a_coefficients, .inl (cyI, 121, .inl f_coefficients)), (a_product, .inl (cyI, 121, .inl f_product)), (a_p1, .inr (2, [.int i_p1_crossings, .int i_p1_circles, .ref a_p1_arcs])), (a_p1_arcs, .inl (cyI, 32, .inl f_p1_arcs))] sz) (kQv D cyI cyZ (va_A [(a_this, .inr (0, [.ref a_otherEnds, .ref a_tally, .ref a_coefficients, .ref a_product, .int i_prepared])), (a_otherEnds, .inl (cyI, 32, .inl f_otherEnds)), (a_tally, .inl (cyI, 189, .inl f_tally)), (a_coefficients, .inl (cyI, 121, .inl f_coefficients)), (a_product, .inl (cyI, 121, .inl f_product)), (a_p1, .inr (2, [.int i_p1_crossings, .int i_p1_circles, .ref a_p1_arcs])), (a_p1_arcs, .inl (cyI, 32, .inl f_p1_arcs))] sz) [(a_this, .inr (0, [.ref a_otherEnds, .ref a_tally, .ref a_coefficients, .ref a_product, .int o_prepared])), (a_otherEnds, .inl (cyI, 32, .inl o_otherEnds)), (a_tally, .inl (cyI, 189, .inl o_tally)), (a_coefficients, .inl (cyI, 121, .inl o_coefficients)), (a_product, .inl (cyI, 121, .inl o_product)), (a_p1, .inr (2, [.int i_p1_crossings, .int i_p1_circles, .ref a_p1_arcs])), (a_p1_arcs, .inl (cyI, 32, .inl f_p1_arcs))]) 0 0 (va_A [(a_this, .inr (0, [.ref a_otherEnds, .ref a_tally, .ref a_coefficients, .ref a_product, .int i_prepared])), (a_otherEnds, .inl (cyI, 32, .inl f_otherEnds)), (a_tally, .inl (cyI, 189, .inl f_tally)), (a_coefficients, .inl (cyI, 121, .inl f_coefficients)), (a_product, .inl (cyI, 121, .inl f_product)), (a_p1, .inr (2, [.int i_p1_crossings, .int i_p1_circles, .ref a_p1_arcs])), (a_p1_arcs, .inl (cyI, 32, .inl f_p1_arcs))] sz) := by
  refine Met.ofW (cc := cX0_prepare) (maxL := 2) (ret := none) (by decide) rfl ?_
  intro p e s m args below meth c s₁ B hml hv
  obtain ⟨rfl, hsz, hP, hK, hD0, hN⟩ := hv
  have hx := B.exec
  have hb := B.bytes
  have hr := B.returns
  have hts := atoms_spec (ws := wsX0_prepare) B.pre
  have hown : s.vm.findClass RX0 = some m.cls := findClass_of_methodNamed B.named
  have hlocks := B.notSynchronized
  subst hsz
  have hD := hD0.self (sz := s.heap.size)
  generalize hAe : va_A [(a_this, .inr (0, [.ref a_otherEnds, .ref a_tally, .ref a_coefficients, .ref a_product, .int i_prepared])), (a_otherEnds, .inl (cyI, 32, .inl f_otherEnds)), (a_tally, .inl (cyI, 189, .inl f_tally)), (a_coefficients, .inl (cyI, 121, .inl f_coefficients)), (a_product, .inl (cyI, 121, .inl f_product)), (a_p1, .inr (2, [.int i_p1_crossings, .int i_p1_circles, .ref a_p1_arcs])), (a_p1_arcs, .inl (cyI, 32, .inl f_p1_arcs))] s.heap.size = A at hD ⊢
  have hA : ∀ q : Nat, s.heap.size ≤ q → A q := fun q h => by rw [← hAe]; exact Or.inr h
  clear hAe hD0
  have hS : va_S A s.heap s.heap [] := va_S.rf
  have S : CallFix p m c cX0_prepare 2 s (([.ref a_this, .ref a_p1] : List Value).toArray) wsX0_prepare RX0 := ⟨hx, hb, hml, hown, hts⟩
  have hl := lv_entry ([.ref a_this, .ref a_p1]) (n := 2) (Nat.le_of_ble_eq_true rfl)
  rw [lg_entry_eq]
  generalize (lg_sl ([.ref a_this, .ref a_p1]) ++ List.replicate (2 - (lg_sl ([.ref a_this, .ref a_p1])).length) Slot.unset).toArray = ls at hl ⊢
  replace hl : lv_has ls 2 [(0, .ref a_this), (1, .ref a_p1)] := hl
  generalize ([] : List Loc) = locs at hS ⊢
  delta kX0_prepare at hf
  obtain ⟨H, hH⟩ : ∃ H, H = s.heap := ⟨_, rfl⟩
  have hS : va_S A s.heap H locs := by rw [hH]; exact hS
  have hP : va_P D vwCl [(a_this, .inr (0, [.ref a_otherEnds, .ref a_tally, .ref a_coefficients, .ref a_product, .int i_prepared])), (a_otherEnds, .inl (cyI, 32, .inl f_otherEnds)), (a_tally, .inl (cyI, 189, .inl f_tally)), (a_coefficients, .inl (cyI, 121, .inl f_coefficients)), (a_product, .inl (cyI, 121, .inl f_product)), (a_p1, .inr (2, [.int i_p1_crossings, .int i_p1_circles, .ref a_p1_arcs])), (a_p1_arcs, .inl (cyI, 32, .inl f_p1_arcs))] H := by rw [hH]; exact hP
  suffices hgo : W p l e (headSpec wsX0_prepare rmX0_prepare).room s m (([.ref a_this, .ref a_p1] : List Value).toArray) below meth c H locs 0 0 (MQ below (kQv D cyI cyZ A [(a_this, .inr (0, [.ref a_otherEnds, .ref a_tally, .ref a_coefficients, .ref a_product, .int o_prepared])), (a_otherEnds, .inl (cyI, 32, .inl o_otherEnds)), (a_tally, .inl (cyI, 189, .inl o_tally)), (a_coefficients, .inl (cyI, 121, .inl o_coefficients)), (a_product, .inl (cyI, 121, .inl o_product)), (a_p1, .inr (2, [.int i_p1_crossings, .int i_p1_circles, .ref a_p1_arcs])), (a_p1_arcs, .inl (cyI, 32, .inl f_p1_arcs))]) (([.ref a_this, .ref a_p1] : List Value).toArray) s 0 0 A) (F0 m 0 ls []) by rw [hH] at hgo; exact hgo
  clear hH
  refine lv_aload_n hx hb dX0_prepare_0 rfl (lv_at hl 0 rfl) ?_
  refine va_get (D := D) (ci := 0) (v := .int i_prepared) (C := RX0) (T := TX0) (N := 5) hx hb hts qX0_prepare_X0 hown hK hP 0 rfl rfl 4 (Nat.le_of_ble_eq_true rfl) (hts (.fieldLink RX0 24 "KnotDiagram$Bracket" "prepared" "Z") qX0_prepare_0) (fun _ h9 => h9) rfl dX0_prepare_1 ?_
  refine lv_if_eq (tgt := 8) hx hb dX0_prepare_4 (by decide) (fun c_4 => ?_) (fun c_4 => ?_)
  · replace hf := kt_p hf c_4
    refine lv_aload_n hx hb dX0_prepare_8 rfl (lv_at hl 0 rfl) ?_
    refine lv_aload_n hx hb dX0_prepare_9 rfl (lv_at hl 1 rfl) ?_
    obtain ⟨o_otherEnds_1, hc_1, hf⟩ := bnd1_s hf
    refine kcVv (As := [.ref a_p1]) (rest := []) (w2 := [(a_this, .inr (0, [.ref a_otherEnds, .ref a_tally, .ref a_coefficients, .ref a_product, .int i_prepared])), (a_otherEnds, .inl (cyI, 32, .inl o_otherEnds_1)), (a_tally, .inl (cyI, 189, .inl f_tally)), (a_coefficients, .inl (cyI, 121, .inl f_coefficients)), (a_product, .inl (cyI, 121, .inl f_product)), (a_p1, .inr (2, [.int i_p1_crossings, .int i_p1_circles, .ref a_p1_arcs])), (a_p1_arcs, .inl (cyI, 32, .inl f_p1_arcs))]) S hK hP hD hS hA hN (mX0_noteOtherEnds l D cyI cyZ H.size a_this a_p1 a_otherEnds a_tally a_coefficients a_product a_p1_arcs i_prepared f_otherEnds i_p1_crossings i_p1_circles f_p1_arcs o_otherEnds_1 hc_1) (cwV 1 hts gX0_prepare_X0_noteOtherEnds rfl rfl rfl (by decide +kernel) ⟨Nat.le_of_ble_eq_true rfl, Nat.le_of_ble_eq_true rfl⟩) 0 0 rfl rfl [0, 1, 5, 6] [2, 3, 4] [3, 4, 0, 1, 2, 5, 6] rfl rfl rfl rfl (by decide) rfl rfl hl.1 (Nat.le_of_ble_eq_true rfl) dX0_prepare_10 ⟨Nat.le_of_ble_eq_true rfl, Nat.le_of_ble_eq_true rfl⟩ (fun H locs hP hD hS => ?_)
    refine lv_aload_n hx hb dX0_prepare_13 rfl (lv_at hl 0 rfl) ?_
    refine lv_aload_n hx hb dX0_prepare_14 rfl (lv_at hl 1 rfl) ?_
    obtain ⟨o_tally_2, hc_2, hf⟩ := bnd1_s hf
    refine kcVv (As := [.ref a_p1]) (rest := []) (w2 := [(a_this, .inr (0, [.ref a_otherEnds, .ref a_tally, .ref a_coefficients, .ref a_product, .int i_prepared])), (a_otherEnds, .inl (cyI, 32, .inl o_otherEnds_1)), (a_tally, .inl (cyI, 189, .inl o_tally_2)), (a_coefficients, .inl (cyI, 121, .inl f_coefficients)), (a_product, .inl (cyI, 121, .inl f_product)), (a_p1, .inr (2, [.int i_p1_crossings, .int i_p1_circles, .ref a_p1_arcs])), (a_p1_arcs, .inl (cyI, 32, .inl f_p1_arcs))]) S hK hP hD hS hA hN (mX0_tallyStates l D cyI cyZ H.size a_this a_p1 a_otherEnds a_tally a_coefficients a_product a_p1_arcs i_prepared o_otherEnds_1 f_tally i_p1_crossings i_p1_circles o_tally_2 hc_2) (cwV 1 hts gX0_prepare_X0_tallyStates rfl rfl rfl (by decide +kernel) ⟨Nat.le_of_ble_eq_true rfl, Nat.le_of_ble_eq_true rfl⟩) 0 0 rfl rfl [0, 1, 2, 5] [3, 4, 6] [3, 4, 5, 0, 1, 6, 2] rfl rfl rfl rfl (by decide) rfl rfl hl.1 (Nat.le_of_ble_eq_true rfl) dX0_prepare_15 ⟨Nat.le_of_ble_eq_true rfl, Nat.le_of_ble_eq_true rfl⟩ (fun H locs hP hD hS => ?_)
    refine lv_aload_n hx hb dX0_prepare_18 rfl (lv_at hl 0 rfl) ?_
    refine lv_aload_n hx hb dX0_prepare_19 rfl (lv_at hl 1 rfl) ?_
    refine va_get (D := D) (ci := 2) (v := .int i_p1_crossings) (C := RX2) (T := TX2) (N := 3) hx hb hts qX0_prepare_X2 hown hK hP 5 rfl rfl 0 (Nat.le_of_ble_eq_true rfl) (hts (.fieldLink RX0 53 "KnotDiagram$Diagram" "crossings" "I") qX0_prepare_1) (fun _ h9 => h9) rfl dX0_prepare_20 ?_
    obtain ⟨o_coefficients_3, o_product_3, hc_3, hf⟩ := bnd2_s hf
    refine kcVv (As := [.int i_p1_crossings]) (rest := []) (w2 := [(a_this, .inr (0, [.ref a_otherEnds, .ref a_tally, .ref a_coefficients, .ref a_product, .int i_prepared])), (a_otherEnds, .inl (cyI, 32, .inl o_otherEnds_1)), (a_tally, .inl (cyI, 189, .inl o_tally_2)), (a_coefficients, .inl (cyI, 121, .inl o_coefficients_3)), (a_product, .inl (cyI, 121, .inl o_product_3)), (a_p1, .inr (2, [.int i_p1_crossings, .int i_p1_circles, .ref a_p1_arcs])), (a_p1_arcs, .inl (cyI, 32, .inl f_p1_arcs))]) S hK hP hD hS hA hN (mX0_sumStates l D cyI cyZ H.size a_this a_otherEnds a_tally a_coefficients a_product i_p1_crossings i_prepared o_tally_2 f_coefficients f_product o_coefficients_3 o_product_3 hc_3) (cwV 1 hts gX0_prepare_X0_sumStates rfl rfl rfl (by decide +kernel) ⟨Nat.le_of_ble_eq_true rfl, Nat.le_of_ble_eq_true rfl⟩) 0 0 rfl rfl [0, 2, 3, 4] [1, 5, 6] [3, 0, 4, 5, 6, 1, 2] rfl rfl rfl rfl (by decide) rfl rfl hl.1 (Nat.le_of_ble_eq_true rfl) dX0_prepare_23 ⟨Nat.le_of_ble_eq_true rfl, Nat.le_of_ble_eq_true rfl⟩ (fun H locs hP hD hS => ?_)
    refine lv_aload_n hx hb dX0_prepare_26 rfl (lv_at hl 0 rfl) ?_
    refine lv_iconst (v := 1) hx hb dX0_prepare_27 (by decide) ?_
    refine va_put (D := D) (ci := 0) (v := .int 1) (ty := .boolean) (C := RX0) (T := TX0) (N := 5) hx hb hts qX0_prepare_X0 tyX0 tyX0_ok nmX0 hown hK hP hD hS 0 rfl rfl 4 (Nat.le_of_ble_eq_true rfl) (hts (.fieldLink RX0 24 "KnotDiagram$Bracket" "prepared" "Z") qX0_prepare_0) (fun _ h9 => h9) rfl (by decide +kernel) rfl rfl (Nat.le_of_ble_eq_true rfl) dX0_prepare_28 (fun H locs hP hD hS => ?_)
    replace hP : va_P D vwCl [(a_this, .inr (0, [.ref a_otherEnds, .ref a_tally, .ref a_coefficients, .ref a_product, .int 1])), (a_otherEnds, .inl (cyI, 32, .inl o_otherEnds_1)), (a_tally, .inl (cyI, 189, .inl o_tally_2)), (a_coefficients, .inl (cyI, 121, .inl o_coefficients_3)), (a_product, .inl (cyI, 121, .inl o_product_3)), (a_p1, .inr (2, [.int i_p1_crossings, .int i_p1_circles, .ref a_p1_arcs])), (a_p1_arcs, .inl (cyI, 32, .inl f_p1_arcs))] H := hP
    replace hD : va_D A [(a_this, .inr (0, [.ref a_otherEnds, .ref a_tally, .ref a_coefficients, .ref a_product, .int 1])), (a_otherEnds, .inl (cyI, 32, .inl o_otherEnds_1)), (a_tally, .inl (cyI, 189, .inl o_tally_2)), (a_coefficients, .inl (cyI, 121, .inl o_coefficients_3)), (a_product, .inl (cyI, 121, .inl o_product_3)), (a_p1, .inr (2, [.int i_p1_crossings, .int i_p1_circles, .ref a_p1_arcs])), (a_p1_arcs, .inl (cyI, 32, .inl f_p1_arcs))] := hD
    obtain ⟨rfl, rfl, rfl, rfl, rfl⟩ := some5_s hf
    exact kRv hx hb hr hlocks hP hK hD hS dX0_prepare_31
  · replace hf := kt_n hf c_4
    obtain ⟨rfl, rfl, rfl, rfl, rfl⟩ := some5_s hf
    exact kRv hx hb hr hlocks hP hK hD hS dX0_prepare_7
def kX1_classOf_J1   : Option (Int32) :=
  some 0
def kX1_classOf (v1 : Int32) (f_classes : Nat → Int32) : Option (Int32) :=
  if v1 < 0 then kX1_classOf_J1 else if 17 ≤ v1 then kX1_classOf_J1 else ck v1 17 (some (f_classes v1.toNatClampNeg))
def rmX1_classOf : Room := { frames := 0, cells := 0, slots := 0, locals := 0 }
theorem qX1_classOf_0 : (.fieldLink RX1 11 "KnotDiagram$Colouring" "classes" "[I" : Cond) ∈ wsX1_classOf := by decide +kernel
theorem qX1_classOf_X1 : ∀ w ∈ wsX10, w ∈ wsX1_classOf := by decide +kernel
set_option maxHeartbeats 4000000 in
set_option maxRecDepth 100000 in
theorem mX1_classOf (l : Launch) (D : va_G) (cyI cyZ : ClassId) (sz : Nat) (a_this a_classes a_cells : Nat) (v1 : Int32) (f_classes : Nat → Int32) (r : Int32) (hf : kX1_classOf v1 f_classes = some r) : Met l yX1_classOf wsX1_classOf rmX1_classOf (kPre D cyI cyZ [.ref a_this, .int v1] [(a_this, .inr (1, [.ref a_classes, .ref a_cells])), (a_classes, .inl (cyI, 17, .inl f_classes))] sz) (kQi D cyI cyZ (va_A [(a_this, .inr (1, [.ref a_classes, .ref a_cells])), (a_classes, .inl (cyI, 17, .inl f_classes))] sz) [(a_this, .inr (1, [.ref a_classes, .ref a_cells])), (a_classes, .inl (cyI, 17, .inl f_classes))] r) 0 0 (va_A [(a_this, .inr (1, [.ref a_classes, .ref a_cells])), (a_classes, .inl (cyI, 17, .inl f_classes))] sz) := by
  refine Met.ofW (cc := cX1_classOf) (maxL := 2) (ret := (some .int)) (by decide) rfl ?_
  intro p e s m args below meth c s₁ B hml hv
  obtain ⟨rfl, hsz, hP, hK, hD0, hN⟩ := hv
  have hx := B.exec
  have hb := B.bytes
  have hr := B.returns
  have hts := atoms_spec (ws := wsX1_classOf) B.pre
  have hown : s.vm.findClass RX1 = some m.cls := findClass_of_methodNamed B.named
  have hlocks := B.notSynchronized
  subst hsz
  have hD := hD0.self (sz := s.heap.size)
  generalize hAe : va_A [(a_this, .inr (1, [.ref a_classes, .ref a_cells])), (a_classes, .inl (cyI, 17, .inl f_classes))] s.heap.size = A at hD ⊢
  have hA : ∀ q : Nat, s.heap.size ≤ q → A q := fun q h => by rw [← hAe]; exact Or.inr h
  clear hAe hD0
  have hS : va_S A s.heap s.heap [] := va_S.rf
  have S : CallFix p m c cX1_classOf 2 s (([.ref a_this, .int v1] : List Value).toArray) wsX1_classOf RX1 := ⟨hx, hb, hml, hown, hts⟩
  have hl := lv_entry ([.ref a_this, .int v1]) (n := 2) (Nat.le_of_ble_eq_true rfl)
  rw [lg_entry_eq]
  generalize (lg_sl ([.ref a_this, .int v1]) ++ List.replicate (2 - (lg_sl ([.ref a_this, .int v1])).length) Slot.unset).toArray = ls at hl ⊢
  replace hl : lv_has ls 2 [(0, .ref a_this), (1, .int v1)] := hl
  generalize ([] : List Loc) = locs at hS ⊢
  delta kX1_classOf at hf
  obtain ⟨H, hH⟩ : ∃ H, H = s.heap := ⟨_, rfl⟩
  have hS : va_S A s.heap H locs := by rw [hH]; exact hS
  have hP : va_P D vwCl [(a_this, .inr (1, [.ref a_classes, .ref a_cells])), (a_classes, .inl (cyI, 17, .inl f_classes))] H := by rw [hH]; exact hP
  suffices hgo : W p l e (headSpec wsX1_classOf rmX1_classOf).room s m (([.ref a_this, .int v1] : List Value).toArray) below meth c H locs 0 0 (MQ below (kQi D cyI cyZ A [(a_this, .inr (1, [.ref a_classes, .ref a_cells])), (a_classes, .inl (cyI, 17, .inl f_classes))] r) (([.ref a_this, .int v1] : List Value).toArray) s 0 0 A) (F0 m 0 ls []) by rw [hH] at hgo; exact hgo
  clear hH
  refine lv_iload_n hx hb dX1_classOf_0 rfl (lv_at hl 1 rfl) ?_
  have hJ_1 : ∀  (H : Heap) (locs : List Loc) (ls : Array Slot), kX1_classOf_J1  = some r → va_P D vwCl [(a_this, .inr (1, [.ref a_classes, .ref a_cells])), (a_classes, .inl (cyI, 17, .inl f_classes))] H → va_D A [(a_this, .inr (1, [.ref a_classes, .ref a_cells])), (a_classes, .inl (cyI, 17, .inl f_classes))] → va_S A s.heap H locs → lv_has ls 2 [] → W p l e (headSpec wsX1_classOf rmX1_classOf).room s m (([.ref a_this, .int v1] : List Value).toArray) below meth c H locs 0 0 (MQ below (kQi D cyI cyZ A [(a_this, .inr (1, [.ref a_classes, .ref a_cells])), (a_classes, .inl (cyI, 17, .inl f_classes))] r) (([.ref a_this, .int v1] : List Value).toArray) s 0 0 A) (F0 m 19 ls []) := by
    intro  H locs ls hf hP hD hS hl
    delta kX1_classOf_J1 at hf
    refine lv_iconst (v := 0) hx hb dX1_classOf_19 (by decide) ?_
    obtain rfl := some1_s hf
    exact kRi hx hb hr hlocks hP hK hD hS rfl dX1_classOf_20
  refine lv_if_lt (tgt := 19) hx hb dX1_classOf_1 (by decide) (fun c_3 => ?_) (fun c_3 => ?_)
  · replace hf := kt_p hf c_3
    exact hJ_1 H locs ls hf hP hD hS (lv_sub hl [] rfl)
  · replace hf := kt_n hf c_3
    refine lv_iload_n hx hb dX1_classOf_4 rfl (lv_at hl 1 rfl) ?_
    refine lv_bipush (v := 17) hx hb dX1_classOf_5 (by decide) ?_
    refine lv_icmp_ge (tgt := 19) hx hb dX1_classOf_7 (by decide) (fun c_2 => ?_) (fun c_2 => ?_)
    · replace hf := kt_p hf c_2
      exact hJ_1 H locs ls hf hP hD hS (lv_sub hl [] rfl)
    · replace hf := kt_n hf c_2
      refine lv_aload_n hx hb dX1_classOf_10 rfl (lv_at hl 0 rfl) ?_
      refine va_get (D := D) (ci := 1) (v := .ref a_classes) (C := RX1) (T := TX1) (N := 2) hx hb hts qX1_classOf_X1 hown hK hP 0 rfl rfl 0 (Nat.le_of_ble_eq_true rfl) (hts (.fieldLink RX1 11 "KnotDiagram$Colouring" "classes" "[I") qX1_classOf_0) (fun _ h9 => h9) rfl dX1_classOf_11 ?_
      refine lv_iload_n hx hb dX1_classOf_14 rfl (lv_at hl 1 rfl) ?_
      obtain ⟨hi_1, hf⟩ := ck_s hf
      refine va_iald hx hb hK hP 1 0 rfl rfl hi_1 dX1_classOf_15 ?_
      refine lv_goto (tgt := 20) hx hb dX1_classOf_16 (by decide) ?_
      obtain rfl := some1_s hf
      exact kRi hx hb hr hlocks hP hK hD hS rfl dX1_classOf_20
def kX1_unite_L1 (v2 : Int32) (v1 : Int32) (K_1 : Int32 → (Nat → Int32) → Option ((Nat → Int32))) (v3_1 : Int32) (f_classes_1 : Nat → Int32) : Option ((Nat → Int32)) :=
  if 17 ≤ v3_1 then some f_classes_1 else ck v3_1 17 (if (f_classes_1 v3_1.toNatClampNeg) = v2 then ck v3_1 17 (K_1 (v3_1 + 1) (upd f_classes_1 v3_1.toNatClampNeg v1)) else K_1 (v3_1 + 1) f_classes_1)
def kX1_unite (v1 : Int32) (v2 : Int32) (f_classes : Nat → Int32) : Option ((Nat → Int32)) :=
  it2 (kX1_unite_L1 v2 v1) 400 0 f_classes
def rmX1_unite : Room := { frames := 0, cells := 0, slots := 0, locals := 0 }
theorem qX1_unite_0 : (.fieldLink RX1 11 "KnotDiagram$Colouring" "classes" "[I" : Cond) ∈ wsX1_unite := by decide +kernel
theorem qX1_unite_X1 : ∀ w ∈ wsX10, w ∈ wsX1_unite := by decide +kernel
set_option maxHeartbeats 4000000 in
set_option maxRecDepth 100000 in
theorem mX1_unite (l : Launch) (D : va_G) (cyI cyZ : ClassId) (sz : Nat) (a_this a_classes a_cells : Nat) (v1 : Int32) (v2 : Int32) (f_classes : Nat → Int32) (o_classes : Nat → Int32) (hf : kX1_unite v1 v2 f_classes = some o_classes) : Met l yX1_unite wsX1_unite rmX1_unite (kPre D cyI cyZ [.ref a_this, .int v1, .int v2] [(a_this, .inr (1, [.ref a_classes, .ref a_cells])), (a_classes, .inl (cyI, 17, .inl f_classes))] sz) (kQv D cyI cyZ (va_A [(a_this, .inr (1, [.ref a_classes, .ref a_cells])), (a_classes, .inl (cyI, 17, .inl f_classes))] sz) [(a_this, .inr (1, [.ref a_classes, .ref a_cells])), (a_classes, .inl (cyI, 17, .inl o_classes))]) 0 0 (va_A [(a_this, .inr (1, [.ref a_classes, .ref a_cells])), (a_classes, .inl (cyI, 17, .inl f_classes))] sz) := by
  refine Met.ofW (cc := cX1_unite) (maxL := 4) (ret := none) (by decide) rfl ?_
  intro p e s m args below meth c s₁ B hml hv
  obtain ⟨rfl, hsz, hP, hK, hD0, hN⟩ := hv
  have hx := B.exec
  have hb := B.bytes
  have hr := B.returns
  have hts := atoms_spec (ws := wsX1_unite) B.pre
  have hown : s.vm.findClass RX1 = some m.cls := findClass_of_methodNamed B.named
  have hlocks := B.notSynchronized
  subst hsz
  have hD := hD0.self (sz := s.heap.size)
  generalize hAe : va_A [(a_this, .inr (1, [.ref a_classes, .ref a_cells])), (a_classes, .inl (cyI, 17, .inl f_classes))] s.heap.size = A at hD ⊢
  have hA : ∀ q : Nat, s.heap.size ≤ q → A q := fun q h => by rw [← hAe]; exact Or.inr h
  clear hAe hD0
  have hS : va_S A s.heap s.heap [] := va_S.rf
  have S : CallFix p m c cX1_unite 4 s (([.ref a_this, .int v1, .int v2] : List Value).toArray) wsX1_unite RX1 := ⟨hx, hb, hml, hown, hts⟩
  have hl := lv_entry ([.ref a_this, .int v1, .int v2]) (n := 4) (Nat.le_of_ble_eq_true rfl)
  rw [lg_entry_eq]
  generalize (lg_sl ([.ref a_this, .int v1, .int v2]) ++ List.replicate (4 - (lg_sl ([.ref a_this, .int v1, .int v2])).length) Slot.unset).toArray = ls at hl ⊢
  replace hl : lv_has ls 4 [(0, .ref a_this), (1, .int v1), (2, .int v2)] := hl
  generalize ([] : List Loc) = locs at hS ⊢
  delta kX1_unite at hf
  obtain ⟨H, hH⟩ : ∃ H, H = s.heap := ⟨_, rfl⟩
  have hS : va_S A s.heap H locs := by rw [hH]; exact hS
  have hP : va_P D vwCl [(a_this, .inr (1, [.ref a_classes, .ref a_cells])), (a_classes, .inl (cyI, 17, .inl f_classes))] H := by rw [hH]; exact hP
  suffices hgo : W p l e (headSpec wsX1_unite rmX1_unite).room s m (([.ref a_this, .int v1, .int v2] : List Value).toArray) below meth c H locs 0 0 (MQ below (kQv D cyI cyZ A [(a_this, .inr (1, [.ref a_classes, .ref a_cells])), (a_classes, .inl (cyI, 17, .inl o_classes))]) (([.ref a_this, .int v1, .int v2] : List Value).toArray) s 0 0 A) (F0 m 0 ls []) by rw [hH] at hgo; exact hgo
  clear hH
  refine lv_iconst (v := 0) hx hb dX1_unite_0 (by decide) ?_
  refine lv_istore_n (lv' := [(3, .int 0), (0, .ref a_this), (1, .int v1), (2, .int v2)]) hx hb dX1_unite_1 rfl hl (by decide) rfl (fun ls hl => ?_)
  have hL_1 : ∀ (n : Nat) (v3_1 : Int32) (f_classes_1 : Nat → Int32) (H : Heap) (locs : List Loc) (ls : Array Slot), it2 (kX1_unite_L1 v2 v1) n v3_1 f_classes_1 = some o_classes → va_P D vwCl [(a_this, .inr (1, [.ref a_classes, .ref a_cells])), (a_classes, .inl (cyI, 17, .inl f_classes_1))] H → va_D A [(a_this, .inr (1, [.ref a_classes, .ref a_cells])), (a_classes, .inl (cyI, 17, .inl f_classes_1))] → va_S A s.heap H locs → lv_has ls 4 [(0, .ref a_this), (1, .int v1), (2, .int v2), (3, .int v3_1)] → W p l e (headSpec wsX1_unite rmX1_unite).room s m (([.ref a_this, .int v1, .int v2] : List Value).toArray) below meth c H locs 0 0 (MQ below (kQv D cyI cyZ A [(a_this, .inr (1, [.ref a_classes, .ref a_cells])), (a_classes, .inl (cyI, 17, .inl o_classes))]) (([.ref a_this, .int v1, .int v2] : List Value).toArray) s 0 0 A) (F0 m 2 ls []) := by
    intro n_1
    induction n_1 with
    | zero =>
      intro _ _ _ _ _ hf
      exact (it2_z hf).elim
    | succ n_1 ih_1 =>
      intro v3_1 f_classes_1 H locs ls hf hP hD hS hl
      replace hf := it2_s hf
      rw [kX1_unite_L1] at hf
      refine lv_iload_n hx hb dX1_unite_2 rfl (lv_at hl 3 rfl) ?_
      refine lv_bipush (v := 17) hx hb dX1_unite_3 (by decide) ?_
      refine lv_icmp_ge (tgt := 31) hx hb dX1_unite_5 (by decide) (fun c_4 => ?_) (fun c_4 => ?_)
      · replace hf := kt_p hf c_4
        obtain rfl := some1_s hf
        exact kRv hx hb hr hlocks hP hK hD hS dX1_unite_31
      · replace hf := kt_n hf c_4
        refine lv_aload_n hx hb dX1_unite_8 rfl (lv_at hl 0 rfl) ?_
        refine va_get (D := D) (ci := 1) (v := .ref a_classes) (C := RX1) (T := TX1) (N := 2) hx hb hts qX1_unite_X1 hown hK hP 0 rfl rfl 0 (Nat.le_of_ble_eq_true rfl) (hts (.fieldLink RX1 11 "KnotDiagram$Colouring" "classes" "[I") qX1_unite_0) (fun _ h9 => h9) rfl dX1_unite_9 ?_
        refine lv_iload_n hx hb dX1_unite_12 rfl (lv_at hl 3 rfl) ?_
        obtain ⟨hi_1, hf⟩ := ck_s hf
        refine va_iald hx hb hK hP 1 0 rfl rfl hi_1 dX1_unite_13 ?_
        refine lv_iload_n hx hb dX1_unite_14 rfl (lv_at hl 2 rfl) ?_
        refine lv_icmp_ne (tgt := 25) hx hb dX1_unite_15 (by decide) (fun c_3 => ?_) (fun c_3 => ?_)
        · replace hf := kt_n hf c_3
          refine lv_iinc (v := (v3_1 + 1)) (lv' := [(3, .int (v3_1 + 1)), (0, .ref a_this), (1, .int v1), (2, .int v2)]) hx hb dX1_unite_25 hl (k := 3) rfl rfl (by decide) rfl (fun ls hl => ?_)
          refine lv_goto (tgt := 2) hx hb dX1_unite_28 (by decide) ?_
          exact ih_1 (v3_1 + 1) f_classes_1 H locs ls hf hP hD hS (lv_sub hl [1, 2, 3, 0] rfl)
        · replace hf := kt_p hf c_3
          refine lv_aload_n hx hb dX1_unite_18 rfl (lv_at hl 0 rfl) ?_
          refine va_get (D := D) (ci := 1) (v := .ref a_classes) (C := RX1) (T := TX1) (N := 2) hx hb hts qX1_unite_X1 hown hK hP 0 rfl rfl 0 (Nat.le_of_ble_eq_true rfl) (hts (.fieldLink RX1 11 "KnotDiagram$Colouring" "classes" "[I") qX1_unite_0) (fun _ h9 => h9) rfl dX1_unite_19 ?_
          refine lv_iload_n hx hb dX1_unite_22 rfl (lv_at hl 3 rfl) ?_
          refine lv_iload_n hx hb dX1_unite_23 rfl (lv_at hl 1 rfl) ?_
          obtain ⟨hi_2, hf⟩ := ck_s hf
          refine va_iast hx hb hK hP hD hS 1 0 rfl rfl hi_2 dX1_unite_24 (fun H locs hP hD hS => ?_)
          replace hP : va_P D vwCl [(a_this, .inr (1, [.ref a_classes, .ref a_cells])), (a_classes, .inl (cyI, 17, .inl (upd f_classes_1 v3_1.toNatClampNeg v1)))] H := hP
          replace hD : va_D A [(a_this, .inr (1, [.ref a_classes, .ref a_cells])), (a_classes, .inl (cyI, 17, .inl (upd f_classes_1 v3_1.toNatClampNeg v1)))] := hD
          refine lv_iinc (v := (v3_1 + 1)) (lv' := [(3, .int (v3_1 + 1)), (0, .ref a_this), (1, .int v1), (2, .int v2)]) hx hb dX1_unite_25 hl (k := 3) rfl rfl (by decide) rfl (fun ls hl => ?_)
          refine lv_goto (tgt := 2) hx hb dX1_unite_28 (by decide) ?_
          exact ih_1 (v3_1 + 1) (upd f_classes_1 v3_1.toNatClampNeg v1) H locs ls hf hP hD hS (lv_sub hl [1, 2, 3, 0] rfl)
  exact hL_1 400 0 f_classes H locs ls hf hP hD hS (lv_sub hl [1, 2, 3, 0] rfl)
def kX1_uniteOverArcs_L2 (i_p1_crossings : Int32) (f_p1_arcs : Nat → Int32) (K_2 : Int32 → (Nat → Int32) → Option ((Nat → Int32))) (v3_2 : Int32) (f_classes_2 : Nat → Int32) : Option ((Nat → Int32)) :=
  if i_p1_crossings ≤ v3_2 then some f_classes_2 else bnd1 (kX2_arc ((4 * v3_2) + 1) f_p1_arcs) (fun r_1 => bnd1 (kX1_classOf r_1 f_classes_2) (fun r_2 => bnd1 (kX2_arc ((4 * v3_2) + 3) f_p1_arcs) (fun r_3 => bnd1 (kX1_classOf r_3 f_classes_2) (fun r_4 => bnd1 (kX1_unite (imin r_2 r_4) (imax r_2 r_4) f_classes_2) (fun o_classes_5 => K_2 (v3_2 + 1) o_classes_5)))))
def kX1_uniteOverArcs_L1 (i_p1_crossings : Int32) (f_p1_arcs : Nat → Int32) (K_1 : Int32 → (Nat → Int32) → Option ((Nat → Int32))) (v2_1 : Int32) (f_classes_1 : Nat → Int32) : Option ((Nat → Int32)) :=
  if 17 ≤ v2_1 then it2 (kX1_uniteOverArcs_L2 i_p1_crossings f_p1_arcs) 400 0 f_classes_1 else ck v2_1 17 (K_1 (v2_1 + 1) (upd f_classes_1 v2_1.toNatClampNeg v2_1))
def kX1_uniteOverArcs (f_classes : Nat → Int32) (i_p1_crossings : Int32) (f_p1_arcs : Nat → Int32) : Option ((Nat → Int32)) :=
  it2 (kX1_uniteOverArcs_L1 i_p1_crossings f_p1_arcs) 400 0 f_classes
def rmX1_uniteOverArcs : Room := { frames := 1, cells := 0, slots := 0, locals := 23 }
theorem qX1_uniteOverArcs_0 : (.fieldLink RX1 36 "KnotDiagram$Diagram" "crossings" "I" : Cond) ∈ wsX1_uniteOverArcs := by decide +kernel
theorem qX1_uniteOverArcs_1 : (.methodLink RX1 50 Lib.Math.min.name : Cond) ∈ wsX1_uniteOverArcs := by decide +kernel
theorem qX1_uniteOverArcs_2 : (.static Lib.Math.min.name : Cond) ∈ wsX1_uniteOverArcs := by decide +kernel
theorem qX1_uniteOverArcs_3 : (.initialized "java/lang/Math" : Cond) ∈ wsX1_uniteOverArcs := by decide +kernel
theorem qX1_uniteOverArcs_4 : (.code Lib.Math.min.name Lib.Math.min.code 2 (some .int) : Cond) ∈ wsX1_uniteOverArcs := by decide +kernel
theorem qX1_uniteOverArcs_5 : (.methodLink RX1 55 Lib.Math.max.name : Cond) ∈ wsX1_uniteOverArcs := by decide +kernel
theorem qX1_uniteOverArcs_6 : (.static Lib.Math.max.name : Cond) ∈ wsX1_uniteOverArcs := by decide +kernel
theorem qX1_uniteOverArcs_7 : (.code Lib.Math.max.name Lib.Math.max.code 2 (some .int) : Cond) ∈ wsX1_uniteOverArcs := by decide +kernel
theorem qX1_uniteOverArcs_8 : (.fieldLink RX1 11 "KnotDiagram$Colouring" "classes" "[I" : Cond) ∈ wsX1_uniteOverArcs := by decide +kernel
theorem qX1_uniteOverArcs_X2 : ∀ w ∈ wsX20, w ∈ wsX1_uniteOverArcs := by decide +kernel
theorem qX1_uniteOverArcs_X1 : ∀ w ∈ wsX10, w ∈ wsX1_uniteOverArcs := by decide +kernel
set_option maxHeartbeats 4000000 in
set_option maxRecDepth 100000 in
theorem mX1_uniteOverArcs (l : Launch) (D : va_G) (cyI cyZ : ClassId) (sz : Nat) (a_this a_p1 a_classes a_cells a_p1_arcs : Nat) (f_classes : Nat → Int32) (i_p1_crossings : Int32) (i_p1_circles : Int32) (f_p1_arcs : Nat → Int32) (o_classes : Nat → Int32) (hf : kX1_uniteOverArcs f_classes i_p1_crossings f_p1_arcs = some o_classes) : Met l yX1_uniteOverArcs wsX1_uniteOverArcs rmX1_uniteOverArcs (kPre D cyI cyZ [.ref a_this, .ref a_p1] [(a_this, .inr (1, [.ref a_classes, .ref a_cells])), (a_classes, .inl (cyI, 17, .inl f_classes)), (a_p1, .inr (2, [.int i_p1_crossings, .int i_p1_circles, .ref a_p1_arcs])), (a_p1_arcs, .inl (cyI, 32, .inl f_p1_arcs))] sz) (kQv D cyI cyZ (va_A [(a_this, .inr (1, [.ref a_classes, .ref a_cells])), (a_classes, .inl (cyI, 17, .inl f_classes)), (a_p1, .inr (2, [.int i_p1_crossings, .int i_p1_circles, .ref a_p1_arcs])), (a_p1_arcs, .inl (cyI, 32, .inl f_p1_arcs))] sz) [(a_this, .inr (1, [.ref a_classes, .ref a_cells])), (a_classes, .inl (cyI, 17, .inl o_classes)), (a_p1, .inr (2, [.int i_p1_crossings, .int i_p1_circles, .ref a_p1_arcs])), (a_p1_arcs, .inl (cyI, 32, .inl f_p1_arcs))]) 0 0 (va_A [(a_this, .inr (1, [.ref a_classes, .ref a_cells])), (a_classes, .inl (cyI, 17, .inl f_classes)), (a_p1, .inr (2, [.int i_p1_crossings, .int i_p1_circles, .ref a_p1_arcs])), (a_p1_arcs, .inl (cyI, 32, .inl f_p1_arcs))] sz) := by
  refine Met.ofW (cc := cX1_uniteOverArcs) (maxL := 6) (ret := none) (by decide) rfl ?_
  intro p e s m args below meth c s₁ B hml hv
  obtain ⟨rfl, hsz, hP, hK, hD0, hN⟩ := hv
  have hx := B.exec
  have hb := B.bytes
  have hr := B.returns
  have hts := atoms_spec (ws := wsX1_uniteOverArcs) B.pre
  have hown : s.vm.findClass RX1 = some m.cls := findClass_of_methodNamed B.named
  have hlocks := B.notSynchronized
  subst hsz
  have hD := hD0.self (sz := s.heap.size)
  generalize hAe : va_A [(a_this, .inr (1, [.ref a_classes, .ref a_cells])), (a_classes, .inl (cyI, 17, .inl f_classes)), (a_p1, .inr (2, [.int i_p1_crossings, .int i_p1_circles, .ref a_p1_arcs])), (a_p1_arcs, .inl (cyI, 32, .inl f_p1_arcs))] s.heap.size = A at hD ⊢
  have hA : ∀ q : Nat, s.heap.size ≤ q → A q := fun q h => by rw [← hAe]; exact Or.inr h
  clear hAe hD0
  have hS : va_S A s.heap s.heap [] := va_S.rf
  have S : CallFix p m c cX1_uniteOverArcs 6 s (([.ref a_this, .ref a_p1] : List Value).toArray) wsX1_uniteOverArcs RX1 := ⟨hx, hb, hml, hown, hts⟩
  have hl := lv_entry ([.ref a_this, .ref a_p1]) (n := 6) (Nat.le_of_ble_eq_true rfl)
  rw [lg_entry_eq]
  generalize (lg_sl ([.ref a_this, .ref a_p1]) ++ List.replicate (6 - (lg_sl ([.ref a_this, .ref a_p1])).length) Slot.unset).toArray = ls at hl ⊢
  replace hl : lv_has ls 6 [(0, .ref a_this), (1, .ref a_p1)] := hl
  generalize ([] : List Loc) = locs at hS ⊢
  delta kX1_uniteOverArcs at hf
  obtain ⟨H, hH⟩ : ∃ H, H = s.heap := ⟨_, rfl⟩
  have hS : va_S A s.heap H locs := by rw [hH]; exact hS
  have hP : va_P D vwCl [(a_this, .inr (1, [.ref a_classes, .ref a_cells])), (a_classes, .inl (cyI, 17, .inl f_classes)), (a_p1, .inr (2, [.int i_p1_crossings, .int i_p1_circles, .ref a_p1_arcs])), (a_p1_arcs, .inl (cyI, 32, .inl f_p1_arcs))] H := by rw [hH]; exact hP
  suffices hgo : W p l e (headSpec wsX1_uniteOverArcs rmX1_uniteOverArcs).room s m (([.ref a_this, .ref a_p1] : List Value).toArray) below meth c H locs 0 0 (MQ below (kQv D cyI cyZ A [(a_this, .inr (1, [.ref a_classes, .ref a_cells])), (a_classes, .inl (cyI, 17, .inl o_classes)), (a_p1, .inr (2, [.int i_p1_crossings, .int i_p1_circles, .ref a_p1_arcs])), (a_p1_arcs, .inl (cyI, 32, .inl f_p1_arcs))]) (([.ref a_this, .ref a_p1] : List Value).toArray) s 0 0 A) (F0 m 0 ls []) by rw [hH] at hgo; exact hgo
  clear hH
  refine lv_iconst (v := 0) hx hb dX1_uniteOverArcs_0 (by decide) ?_
  refine lv_istore_n (lv' := [(2, .int 0), (0, .ref a_this), (1, .ref a_p1)]) hx hb dX1_uniteOverArcs_1 rfl hl (by decide) rfl (fun ls hl => ?_)
  have hL_1 : ∀ (n : Nat) (v2_1 : Int32) (f_classes_1 : Nat → Int32) (H : Heap) (locs : List Loc) (ls : Array Slot), it2 (kX1_uniteOverArcs_L1 i_p1_crossings f_p1_arcs) n v2_1 f_classes_1 = some o_classes → va_P D vwCl [(a_this, .inr (1, [.ref a_classes, .ref a_cells])), (a_classes, .inl (cyI, 17, .inl f_classes_1)), (a_p1, .inr (2, [.int i_p1_crossings, .int i_p1_circles, .ref a_p1_arcs])), (a_p1_arcs, .inl (cyI, 32, .inl f_p1_arcs))] H → va_D A [(a_this, .inr (1, [.ref a_classes, .ref a_cells])), (a_classes, .inl (cyI, 17, .inl f_classes_1)), (a_p1, .inr (2, [.int i_p1_crossings, .int i_p1_circles, .ref a_p1_arcs])), (a_p1_arcs, .inl (cyI, 32, .inl f_p1_arcs))] → va_S A s.heap H locs → lv_has ls 6 [(0, .ref a_this), (1, .ref a_p1), (2, .int v2_1)] → W p l e (headSpec wsX1_uniteOverArcs rmX1_uniteOverArcs).room s m (([.ref a_this, .ref a_p1] : List Value).toArray) below meth c H locs 0 0 (MQ below (kQv D cyI cyZ A [(a_this, .inr (1, [.ref a_classes, .ref a_cells])), (a_classes, .inl (cyI, 17, .inl o_classes)), (a_p1, .inr (2, [.int i_p1_crossings, .int i_p1_circles, .ref a_p1_arcs])), (a_p1_arcs, .inl (cyI, 32, .inl f_p1_arcs))]) (([.ref a_this, .ref a_p1] : List Value).toArray) s 0 0 A) (F0 m 2 ls []) := by
    intro n_1
    induction n_1 with
    | zero =>
      intro _ _ _ _ _ hf
      exact (it2_z hf).elim
    | succ n_1 ih_1 =>
      intro v2_1 f_classes_1 H locs ls hf hP hD hS hl
      replace hf := it2_s hf
      rw [kX1_uniteOverArcs_L1] at hf
      refine lv_iload_n hx hb dX1_uniteOverArcs_2 rfl (lv_at hl 2 rfl) ?_
      refine lv_bipush (v := 17) hx hb dX1_uniteOverArcs_3 (by decide) ?_
      refine lv_icmp_ge (tgt := 21) hx hb dX1_uniteOverArcs_5 (by decide) (fun c_8 => ?_) (fun c_8 => ?_)
      · replace hf := kt_p hf c_8
        refine lv_aload_n hx hb dX1_uniteOverArcs_21 rfl (lv_at hl 1 rfl) ?_
        refine va_get (D := D) (ci := 2) (v := .int i_p1_crossings) (C := RX2) (T := TX2) (N := 3) hx hb hts qX1_uniteOverArcs_X2 hown hK hP 2 rfl rfl 0 (Nat.le_of_ble_eq_true rfl) (hts (.fieldLink RX1 36 "KnotDiagram$Diagram" "crossings" "I") qX1_uniteOverArcs_0) (fun _ h9 => h9) rfl dX1_uniteOverArcs_22 ?_
        refine lv_istore_n (lv' := [(2, .int i_p1_crossings), (0, .ref a_this), (1, .ref a_p1)]) hx hb dX1_uniteOverArcs_25 rfl hl (by decide) rfl (fun ls hl => ?_)
        refine lv_iconst (v := 0) hx hb dX1_uniteOverArcs_26 (by decide) ?_
        refine lv_istore_n (lv' := [(3, .int 0), (2, .int i_p1_crossings), (0, .ref a_this), (1, .ref a_p1)]) hx hb dX1_uniteOverArcs_27 rfl hl (by decide) rfl (fun ls hl => ?_)
        have hL_2 : ∀ (n : Nat) (v3_2 : Int32) (f_classes_2 : Nat → Int32) (H : Heap) (locs : List Loc) (ls : Array Slot), it2 (kX1_uniteOverArcs_L2 i_p1_crossings f_p1_arcs) n v3_2 f_classes_2 = some o_classes → va_P D vwCl [(a_this, .inr (1, [.ref a_classes, .ref a_cells])), (a_classes, .inl (cyI, 17, .inl f_classes_2)), (a_p1, .inr (2, [.int i_p1_crossings, .int i_p1_circles, .ref a_p1_arcs])), (a_p1_arcs, .inl (cyI, 32, .inl f_p1_arcs))] H → va_D A [(a_this, .inr (1, [.ref a_classes, .ref a_cells])), (a_classes, .inl (cyI, 17, .inl f_classes_2)), (a_p1, .inr (2, [.int i_p1_crossings, .int i_p1_circles, .ref a_p1_arcs])), (a_p1_arcs, .inl (cyI, 32, .inl f_p1_arcs))] → va_S A s.heap H locs → lv_has ls 6 [(0, .ref a_this), (1, .ref a_p1), (2, .int i_p1_crossings), (3, .int v3_2)] → W p l e (headSpec wsX1_uniteOverArcs rmX1_uniteOverArcs).room s m (([.ref a_this, .ref a_p1] : List Value).toArray) below meth c H locs 0 0 (MQ below (kQv D cyI cyZ A [(a_this, .inr (1, [.ref a_classes, .ref a_cells])), (a_classes, .inl (cyI, 17, .inl o_classes)), (a_p1, .inr (2, [.int i_p1_crossings, .int i_p1_circles, .ref a_p1_arcs])), (a_p1_arcs, .inl (cyI, 32, .inl f_p1_arcs))]) (([.ref a_this, .ref a_p1] : List Value).toArray) s 0 0 A) (F0 m 28 ls []) := by
          intro n_2
          induction n_2 with
          | zero =>
            intro _ _ _ _ _ hf
            exact (it2_z hf).elim
          | succ n_2 ih_2 =>
            intro v3_2 f_classes_2 H locs ls hf hP hD hS hl
            replace hf := it2_s hf
            rw [kX1_uniteOverArcs_L2] at hf
            refine lv_iload_n hx hb dX1_uniteOverArcs_28 rfl (lv_at hl 3 rfl) ?_
            refine lv_iload_n hx hb dX1_uniteOverArcs_29 rfl (lv_at hl 2 rfl) ?_
            refine lv_icmp_ge (tgt := 87) hx hb dX1_uniteOverArcs_30 (by decide) (fun c_6 => ?_) (fun c_6 => ?_)
            · replace hf := kt_p hf c_6
              obtain rfl := some1_s hf
              exact kRv hx hb hr hlocks hP hK hD hS dX1_uniteOverArcs_87
            · replace hf := kt_n hf c_6
              refine lv_aload_n hx hb dX1_uniteOverArcs_33 rfl (lv_at hl 0 rfl) ?_
              refine lv_aload_n hx hb dX1_uniteOverArcs_34 rfl (lv_at hl 1 rfl) ?_
              refine lv_iconst (v := 4) hx hb dX1_uniteOverArcs_35 (by decide) ?_
              refine lv_iload_n hx hb dX1_uniteOverArcs_36 rfl (lv_at hl 3 rfl) ?_
              refine lv_imul hx hb dX1_uniteOverArcs_37 ?_
              refine lv_iconst (v := 1) hx hb dX1_uniteOverArcs_38 (by decide) ?_
              refine lv_iadd hx hb dX1_uniteOverArcs_39 ?_
              obtain ⟨r_1, hc_1, hf⟩ := bnd1_s hf
              refine kcVi (As := [.int ((4 * v3_2) + 1)]) (rest := [.ref a_this]) (w2 := [(a_this, .inr (1, [.ref a_classes, .ref a_cells])), (a_classes, .inl (cyI, 17, .inl f_classes_2)), (a_p1, .inr (2, [.int i_p1_crossings, .int i_p1_circles, .ref a_p1_arcs])), (a_p1_arcs, .inl (cyI, 32, .inl f_p1_arcs))]) S hK hP hD hS hA hN (mX2_arc l D cyI cyZ H.size a_p1 a_p1_arcs ((4 * v3_2) + 1) i_p1_crossings i_p1_circles f_p1_arcs r_1 hc_1) (cwV 1 hts gX1_uniteOverArcs_X2_arc rfl rfl rfl (by decide +kernel) ⟨Nat.le_of_ble_eq_true rfl, Nat.le_of_ble_eq_true rfl⟩) 2 2 rfl rfl [2, 3] [0, 1] [0, 1, 2, 3] rfl rfl rfl rfl (by decide) rfl rfl hl.1 (Nat.le_of_ble_eq_true rfl) dX1_uniteOverArcs_40 ⟨Nat.le_of_ble_eq_true rfl, Nat.le_of_ble_eq_true rfl⟩ (fun H locs hP hD hS => ?_)
              obtain ⟨r_2, hc_2, hf⟩ := bnd1_s hf
              refine kcVi (As := [.int r_1]) (rest := []) (w2 := [(a_this, .inr (1, [.ref a_classes, .ref a_cells])), (a_classes, .inl (cyI, 17, .inl f_classes_2)), (a_p1, .inr (2, [.int i_p1_crossings, .int i_p1_circles, .ref a_p1_arcs])), (a_p1_arcs, .inl (cyI, 32, .inl f_p1_arcs))]) S hK hP hD hS hA hN (mX1_classOf l D cyI cyZ H.size a_this a_classes a_cells r_1 f_classes_2 r_2 hc_2) (cwV 1 hts gX1_uniteOverArcs_X1_classOf rfl rfl rfl (by decide +kernel) ⟨Nat.le_of_ble_eq_true rfl, Nat.le_of_ble_eq_true rfl⟩) 1 0 rfl rfl [0, 1] [2, 3] [2, 3, 0, 1] rfl rfl rfl rfl (by decide) rfl rfl hl.1 (Nat.le_of_ble_eq_true rfl) dX1_uniteOverArcs_43 ⟨Nat.le_of_ble_eq_true rfl, Nat.le_of_ble_eq_true rfl⟩ (fun H locs hP hD hS => ?_)
              refine lv_istore (lv' := [(4, .int r_2), (0, .ref a_this), (1, .ref a_p1), (2, .int i_p1_crossings), (3, .int v3_2)]) hx hb dX1_uniteOverArcs_46 hl (by decide) rfl (fun ls hl => ?_)
              refine lv_aload_n hx hb dX1_uniteOverArcs_48 rfl (lv_at hl 1 rfl) ?_
              refine lv_aload_n hx hb dX1_uniteOverArcs_49 rfl (lv_at hl 2 rfl) ?_
              refine lv_iconst (v := 4) hx hb dX1_uniteOverArcs_50 (by decide) ?_
              refine lv_iload_n hx hb dX1_uniteOverArcs_51 rfl (lv_at hl 4 rfl) ?_
              refine lv_imul hx hb dX1_uniteOverArcs_52 ?_
              refine lv_iconst (v := 3) hx hb dX1_uniteOverArcs_53 (by decide) ?_
              refine lv_iadd hx hb dX1_uniteOverArcs_54 ?_
              obtain ⟨r_3, hc_3, hf⟩ := bnd1_s hf
              refine kcVi (As := [.int ((4 * v3_2) + 3)]) (rest := [.ref a_this]) (w2 := [(a_this, .inr (1, [.ref a_classes, .ref a_cells])), (a_classes, .inl (cyI, 17, .inl f_classes_2)), (a_p1, .inr (2, [.int i_p1_crossings, .int i_p1_circles, .ref a_p1_arcs])), (a_p1_arcs, .inl (cyI, 32, .inl f_p1_arcs))]) S hK hP hD hS hA hN (mX2_arc l D cyI cyZ H.size a_p1 a_p1_arcs ((4 * v3_2) + 3) i_p1_crossings i_p1_circles f_p1_arcs r_3 hc_3) (cwV 1 hts gX1_uniteOverArcs_X2_arc rfl rfl rfl (by decide +kernel) ⟨Nat.le_of_ble_eq_true rfl, Nat.le_of_ble_eq_true rfl⟩) 2 2 rfl rfl [2, 3] [0, 1] [0, 1, 2, 3] rfl rfl rfl rfl (by decide) rfl rfl hl.1 (Nat.le_of_ble_eq_true rfl) dX1_uniteOverArcs_55 ⟨Nat.le_of_ble_eq_true rfl, Nat.le_of_ble_eq_true rfl⟩ (fun H locs hP hD hS => ?_)
              obtain ⟨r_4, hc_4, hf⟩ := bnd1_s hf
              refine kcVi (As := [.int r_3]) (rest := []) (w2 := [(a_this, .inr (1, [.ref a_classes, .ref a_cells])), (a_classes, .inl (cyI, 17, .inl f_classes_2)), (a_p1, .inr (2, [.int i_p1_crossings, .int i_p1_circles, .ref a_p1_arcs])), (a_p1_arcs, .inl (cyI, 32, .inl f_p1_arcs))]) S hK hP hD hS hA hN (mX1_classOf l D cyI cyZ H.size a_this a_classes a_cells r_3 f_classes_2 r_4 hc_4) (cwV 1 hts gX1_uniteOverArcs_X1_classOf rfl rfl rfl (by decide +kernel) ⟨Nat.le_of_ble_eq_true rfl, Nat.le_of_ble_eq_true rfl⟩) 1 0 rfl rfl [0, 1] [2, 3] [2, 3, 0, 1] rfl rfl rfl rfl (by decide) rfl rfl hl.1 (Nat.le_of_ble_eq_true rfl) dX1_uniteOverArcs_58 ⟨Nat.le_of_ble_eq_true rfl, Nat.le_of_ble_eq_true rfl⟩ (fun H locs hP hD hS => ?_)
              refine lv_istore (lv' := [(5, .int r_4), (4, .int r_2), (0, .ref a_this), (1, .ref a_p1), (2, .int i_p1_crossings), (3, .int v3_2)]) hx hb dX1_uniteOverArcs_61 hl (by decide) rfl (fun ls hl => ?_)
              refine lv_aload_n hx hb dX1_uniteOverArcs_63 rfl (lv_at hl 2 rfl) ?_
              refine lv_iload hx hb dX1_uniteOverArcs_64 (lv_at hl 1 rfl) ?_
              refine lv_iload hx hb dX1_uniteOverArcs_66 (lv_at hl 0 rfl) ?_
              refine k_mmin hx hb (by rw [hml]; exact hl.1.symm) hown (hts (.methodLink RX1 50 Lib.Math.min.name) qX1_uniteOverArcs_1) (hts (.static Lib.Math.min.name) qX1_uniteOverArcs_2) (hts (.initialized "java/lang/Math") qX1_uniteOverArcs_3) (hts (.code Lib.Math.min.name Lib.Math.min.code 2 (some .int)) qX1_uniteOverArcs_4) (Nat.le_of_ble_eq_true rfl) (Nat.le_of_ble_eq_true rfl) (Nat.zero_le _) (Nat.zero_le _) dX1_uniteOverArcs_68 ?_
              refine lv_iload hx hb dX1_uniteOverArcs_71 (lv_at hl 1 rfl) ?_
              refine lv_iload hx hb dX1_uniteOverArcs_73 (lv_at hl 0 rfl) ?_
              refine k_mmax hx hb (by rw [hml]; exact hl.1.symm) hown (hts (.methodLink RX1 55 Lib.Math.max.name) qX1_uniteOverArcs_5) (hts (.static Lib.Math.max.name) qX1_uniteOverArcs_6) (hts (.initialized "java/lang/Math") qX1_uniteOverArcs_3) (hts (.code Lib.Math.max.name Lib.Math.max.code 2 (some .int)) qX1_uniteOverArcs_7) (Nat.le_of_ble_eq_true rfl) (Nat.le_of_ble_eq_true rfl) (Nat.zero_le _) (Nat.zero_le _) dX1_uniteOverArcs_75 ?_
              obtain ⟨o_classes_5, hc_5, hf⟩ := bnd1_s hf
              refine kcVv (As := [.int (imin r_2 r_4), .int (imax r_2 r_4)]) (rest := []) (w2 := [(a_this, .inr (1, [.ref a_classes, .ref a_cells])), (a_classes, .inl (cyI, 17, .inl o_classes_5)), (a_p1, .inr (2, [.int i_p1_crossings, .int i_p1_circles, .ref a_p1_arcs])), (a_p1_arcs, .inl (cyI, 32, .inl f_p1_arcs))]) S hK hP hD hS hA hN (mX1_unite l D cyI cyZ H.size a_this a_classes a_cells (imin r_2 r_4) (imax r_2 r_4) f_classes_2 o_classes_5 hc_5) (cwV 2 hts gX1_uniteOverArcs_X1_unite rfl rfl rfl (by decide +kernel) ⟨Nat.le_of_ble_eq_true rfl, Nat.le_of_ble_eq_true rfl⟩) 1 0 rfl rfl [0, 1] [2, 3] [2, 3, 0, 1] rfl rfl rfl rfl (by decide) rfl rfl hl.1 (Nat.le_of_ble_eq_true rfl) dX1_uniteOverArcs_78 ⟨Nat.le_of_ble_eq_true rfl, Nat.le_of_ble_eq_true rfl⟩ (fun H locs hP hD hS => ?_)
              refine lv_iinc (v := (v3_2 + 1)) (lv' := [(3, .int (v3_2 + 1)), (5, .int r_4), (4, .int r_2), (0, .ref a_this), (1, .ref a_p1), (2, .int i_p1_crossings)]) hx hb dX1_uniteOverArcs_81 hl (k := 5) rfl rfl (by decide) rfl (fun ls hl => ?_)
              refine lv_goto (tgt := 28) hx hb dX1_uniteOverArcs_84 (by decide) ?_
              exact ih_2 (v3_2 + 1) o_classes_5 H locs ls hf hP hD hS (lv_sub hl [3, 4, 5, 0] rfl)
        exact hL_2 400 0 f_classes_1 H locs ls hf hP hD hS (lv_sub hl [2, 3, 1, 0] rfl)
      · replace hf := kt_n hf c_8
        refine lv_aload_n hx hb dX1_uniteOverArcs_8 rfl (lv_at hl 0 rfl) ?_
        refine va_get (D := D) (ci := 1) (v := .ref a_classes) (C := RX1) (T := TX1) (N := 2) hx hb hts qX1_uniteOverArcs_X1 hown hK hP 0 rfl rfl 0 (Nat.le_of_ble_eq_true rfl) (hts (.fieldLink RX1 11 "KnotDiagram$Colouring" "classes" "[I") qX1_uniteOverArcs_8) (fun _ h9 => h9) rfl dX1_uniteOverArcs_9 ?_
        refine lv_iload_n hx hb dX1_uniteOverArcs_12 rfl (lv_at hl 2 rfl) ?_
        refine lv_iload_n hx hb dX1_uniteOverArcs_13 rfl (lv_at hl 2 rfl) ?_
        obtain ⟨hi_7, hf⟩ := ck_s hf
        refine va_iast hx hb hK hP hD hS 1 0 rfl rfl hi_7 dX1_uniteOverArcs_14 (fun H locs hP hD hS => ?_)
        replace hP : va_P D vwCl [(a_this, .inr (1, [.ref a_classes, .ref a_cells])), (a_classes, .inl (cyI, 17, .inl (upd f_classes_1 v2_1.toNatClampNeg v2_1))), (a_p1, .inr (2, [.int i_p1_crossings, .int i_p1_circles, .ref a_p1_arcs])), (a_p1_arcs, .inl (cyI, 32, .inl f_p1_arcs))] H := hP
        replace hD : va_D A [(a_this, .inr (1, [.ref a_classes, .ref a_cells])), (a_classes, .inl (cyI, 17, .inl (upd f_classes_1 v2_1.toNatClampNeg v2_1))), (a_p1, .inr (2, [.int i_p1_crossings, .int i_p1_circles, .ref a_p1_arcs])), (a_p1_arcs, .inl (cyI, 32, .inl f_p1_arcs))] := hD
        refine lv_iinc (v := (v2_1 + 1)) (lv' := [(2, .int (v2_1 + 1)), (0, .ref a_this), (1, .ref a_p1)]) hx hb dX1_uniteOverArcs_15 hl (k := 2) rfl rfl (by decide) rfl (fun ls hl => ?_)
        refine lv_goto (tgt := 2) hx hb dX1_uniteOverArcs_18 (by decide) ?_
        exact ih_1 (v2_1 + 1) (upd f_classes_1 v2_1.toNatClampNeg v2_1) H locs ls hf hP hD hS (lv_sub hl [1, 2, 0] rfl)
  exact hL_1 400 0 f_classes H locs ls hf hP hD hS (lv_sub hl [1, 2, 0] rfl)
