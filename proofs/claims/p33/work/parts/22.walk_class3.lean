def kX3_dissolveKink (v1 : Int32) (v2 : Int32) (i_p0_crossings : Int32) (i_p0_circles : Int32) (f_p0_arcs : Nat → Int32) : Option (Int32 × Int32 × (Nat → Int32)) :=
  bnd1 (kX3_endOf v1 (v2 + 2)) (fun r_1 => bnd1 (kX3_endOf v1 (v2 + 3)) (fun r_2 => bnd2 (kX2_join r_1 r_2 i_p0_crossings i_p0_circles f_p0_arcs) (fun o_circles_3 o_arcs_3 => bnd2 (kX2_drop v1 i_p0_crossings o_arcs_3) (fun o_crossings_4 o_arcs_4 => some (o_crossings_4, o_circles_3, o_arcs_4)))))
def rmX3_dissolveKink : Room := { frames := 2, cells := 0, slots := 0, locals := 49 }
set_option maxHeartbeats 4000000 in
set_option maxRecDepth 100000 in
theorem mX3_dissolveKink (l : Launch) (D : va_G) (cyI cyZ : ClassId) (sz : Nat) (a_p0 a_p0_arcs : Nat) (v1 : Int32) (v2 : Int32) (i_p0_crossings : Int32) (i_p0_circles : Int32) (f_p0_arcs : Nat → Int32) (o_p0_crossings : Int32) (o_p0_circles : Int32) (o_p0_arcs : Nat → Int32) (hf : kX3_dissolveKink v1 v2 i_p0_crossings i_p0_circles f_p0_arcs = some (o_p0_crossings, o_p0_circles, o_p0_arcs)) : Met l yX3_dissolveKink wsX3_dissolveKink rmX3_dissolveKink (kPre D cyI cyZ [.ref a_p0, .int v1, .int v2] [(a_p0, .inr (2, [.int i_p0_crossings, .int i_p0_circles, .ref a_p0_arcs])), (a_p0_arcs, .inl (cyI, 32, .inl f_p0_arcs))] sz) (kQv D cyI cyZ (va_A [(a_p0, .inr (2, [.int i_p0_crossings, .int i_p0_circles, .ref a_p0_arcs])), (a_p0_arcs, .inl (cyI, 32, .inl f_p0_arcs))] sz) [(a_p0, .inr (2, [.int o_p0_crossings, .int o_p0_circles, .ref a_p0_arcs])), (a_p0_arcs, .inl (cyI, 32, .inl o_p0_arcs))]) 0 0 (va_A [(a_p0, .inr (2, [.int i_p0_crossings, .int i_p0_circles, .ref a_p0_arcs])), (a_p0_arcs, .inl (cyI, 32, .inl f_p0_arcs))] sz) := by
  refine Met.ofW (cc := cX3_dissolveKink) (maxL := 3) (ret := none) (by decide) rfl ?_
  intro p e s m args below meth c s₁ B hml hv
  obtain ⟨rfl, hsz, hP, hK, hD0, hN⟩ := hv
  have hx := B.exec
  have hb := B.bytes
  have hr := B.returns
  have hts := atoms_spec (ws := wsX3_dissolveKink) B.pre
  have hown : s.vm.findClass RX3 = some m.cls := findClass_of_methodNamed B.named
  have hlocks := B.notSynchronized
  subst hsz
  have hD := hD0.self (sz := s.heap.size)
  generalize hAe : va_A [(a_p0, .inr (2, [.int i_p0_crossings, .int i_p0_circles, .ref a_p0_arcs])), (a_p0_arcs, .inl (cyI, 32, .inl f_p0_arcs))] s.heap.size = A at hD ⊢
  have hA : ∀ q : Nat, s.heap.size ≤ q → A q := fun q h => by rw [← hAe]; exact Or.inr h
  clear hAe hD0
  have hS : va_S A s.heap s.heap [] := va_S.rf
  have S : CallFix p m c cX3_dissolveKink 3 s (([.ref a_p0, .int v1, .int v2] : List Value).toArray) wsX3_dissolveKink RX3 := ⟨hx, hb, hml, hown, hts⟩
  have hl := lv_entry ([.ref a_p0, .int v1, .int v2]) (n := 3) (Nat.le_of_ble_eq_true rfl)
  rw [lg_entry_eq]
  generalize (lg_sl ([.ref a_p0, .int v1, .int v2]) ++ List.replicate (3 - (lg_sl ([.ref a_p0, .int v1, .int v2])).length) Slot.unset).toArray = ls at hl ⊢
  replace hl : lv_has ls 3 [(0, .ref a_p0), (1, .int v1), (2, .int v2)] := hl
  generalize ([] : List Loc) = locs at hS ⊢
  delta kX3_dissolveKink at hf
  obtain ⟨H, hH⟩ : ∃ H, H = s.heap := ⟨_, rfl⟩
  have hS : va_S A s.heap H locs := by rw [hH]; exact hS
  have hP : va_P D vwCl [(a_p0, .inr (2, [.int i_p0_crossings, .int i_p0_circles, .ref a_p0_arcs])), (a_p0_arcs, .inl (cyI, 32, .inl f_p0_arcs))] H := by rw [hH]; exact hP
  suffices hgo : W p l e (headSpec wsX3_dissolveKink rmX3_dissolveKink).room s m (([.ref a_p0, .int v1, .int v2] : List Value).toArray) below meth c H locs 0 0 (MQ below (kQv D cyI cyZ A [(a_p0, .inr (2, [.int o_p0_crossings, .int o_p0_circles, .ref a_p0_arcs])), (a_p0_arcs, .inl (cyI, 32, .inl o_p0_arcs))]) (([.ref a_p0, .int v1, .int v2] : List Value).toArray) s 0 0 A) (F0 m 0 ls []) by rw [hH] at hgo; exact hgo
  clear hH
  refine lv_aload_n hx hb dX3_dissolveKink_0 rfl (lv_at hl 0 rfl) ?_
  refine lv_iload_n hx hb dX3_dissolveKink_1 rfl (lv_at hl 1 rfl) ?_
  refine lv_iload_n hx hb dX3_dissolveKink_2 rfl (lv_at hl 2 rfl) ?_
  refine lv_iconst (v := 2) hx hb dX3_dissolveKink_3 (by decide) ?_
  refine lv_iadd hx hb dX3_dissolveKink_4 ?_
  obtain ⟨r_1, hc_1, hf⟩ := bnd1_s hf
  refine kcSi (As := [.int v1, .int (v2 + 2)]) (rest := [.ref a_p0]) (w2 := [(a_p0, .inr (2, [.int i_p0_crossings, .int i_p0_circles, .ref a_p0_arcs])), (a_p0_arcs, .inl (cyI, 32, .inl f_p0_arcs))]) S hK hP hD hS hA hN (mX3_endOf l D cyI cyZ H.size v1 (v2 + 2) r_1 hc_1) (va_cwS 2 hts gX3_dissolveKink_X3_endOf rfl rfl rfl (by decide +kernel) ⟨Nat.le_of_ble_eq_true rfl, Nat.le_of_ble_eq_true rfl⟩) [] [0, 1] [0, 1] rfl rfl rfl rfl (by decide) rfl rfl hl.1 (Nat.le_of_ble_eq_true rfl) dX3_dissolveKink_5 ⟨Nat.le_of_ble_eq_true rfl, Nat.le_of_ble_eq_true rfl⟩ (fun H locs hP hD hS => ?_)
  refine lv_iload_n hx hb dX3_dissolveKink_8 rfl (lv_at hl 1 rfl) ?_
  refine lv_iload_n hx hb dX3_dissolveKink_9 rfl (lv_at hl 2 rfl) ?_
  refine lv_iconst (v := 3) hx hb dX3_dissolveKink_10 (by decide) ?_
  refine lv_iadd hx hb dX3_dissolveKink_11 ?_
  obtain ⟨r_2, hc_2, hf⟩ := bnd1_s hf
  refine kcSi (As := [.int v1, .int (v2 + 3)]) (rest := [.int r_1, .ref a_p0]) (w2 := [(a_p0, .inr (2, [.int i_p0_crossings, .int i_p0_circles, .ref a_p0_arcs])), (a_p0_arcs, .inl (cyI, 32, .inl f_p0_arcs))]) S hK hP hD hS hA hN (mX3_endOf l D cyI cyZ H.size v1 (v2 + 3) r_2 hc_2) (va_cwS 2 hts gX3_dissolveKink_X3_endOf rfl rfl rfl (by decide +kernel) ⟨Nat.le_of_ble_eq_true rfl, Nat.le_of_ble_eq_true rfl⟩) [] [0, 1] [0, 1] rfl rfl rfl rfl (by decide) rfl rfl hl.1 (Nat.le_of_ble_eq_true rfl) dX3_dissolveKink_12 ⟨Nat.le_of_ble_eq_true rfl, Nat.le_of_ble_eq_true rfl⟩ (fun H locs hP hD hS => ?_)
  obtain ⟨o_circles_3, o_arcs_3, hc_3, hf⟩ := bnd2_s hf
  refine kcVv (As := [.int r_1, .int r_2]) (rest := []) (w2 := [(a_p0, .inr (2, [.int i_p0_crossings, .int o_circles_3, .ref a_p0_arcs])), (a_p0_arcs, .inl (cyI, 32, .inl o_arcs_3))]) S hK hP hD hS hA hN (mX2_join l D cyI cyZ H.size a_p0 a_p0_arcs r_1 r_2 i_p0_crossings i_p0_circles f_p0_arcs o_circles_3 o_arcs_3 hc_3) (cwV 2 hts gX3_dissolveKink_X2_join rfl rfl rfl (by decide +kernel) ⟨Nat.le_of_ble_eq_true rfl, Nat.le_of_ble_eq_true rfl⟩) 2 0 rfl rfl [0, 1] [] [0, 1] rfl rfl rfl rfl (by decide) rfl rfl hl.1 (Nat.le_of_ble_eq_true rfl) dX3_dissolveKink_15 ⟨Nat.le_of_ble_eq_true rfl, Nat.le_of_ble_eq_true rfl⟩ (fun H locs hP hD hS => ?_)
  refine lv_aload_n hx hb dX3_dissolveKink_18 rfl (lv_at hl 0 rfl) ?_
  refine lv_iload_n hx hb dX3_dissolveKink_19 rfl (lv_at hl 1 rfl) ?_
  obtain ⟨o_crossings_4, o_arcs_4, hc_4, hf⟩ := bnd2_s hf
  refine kcVv (As := [.int v1]) (rest := []) (w2 := [(a_p0, .inr (2, [.int o_crossings_4, .int o_circles_3, .ref a_p0_arcs])), (a_p0_arcs, .inl (cyI, 32, .inl o_arcs_4))]) S hK hP hD hS hA hN (mX2_drop l D cyI cyZ H.size a_p0 a_p0_arcs v1 i_p0_crossings o_circles_3 o_arcs_3 o_crossings_4 o_arcs_4 hc_4) (cwV 1 hts gX3_dissolveKink_X2_drop rfl rfl rfl (by decide +kernel) ⟨Nat.le_of_ble_eq_true rfl, Nat.le_of_ble_eq_true rfl⟩) 2 0 rfl rfl [0, 1] [] [0, 1] rfl rfl rfl rfl (by decide) rfl rfl hl.1 (Nat.le_of_ble_eq_true rfl) dX3_dissolveKink_20 ⟨Nat.le_of_ble_eq_true rfl, Nat.le_of_ble_eq_true rfl⟩ (fun H locs hP hD hS => ?_)
  obtain ⟨rfl, rfl, rfl⟩ := some3_s hf
  exact kRv hx hb hr hlocks hP hK hD hS dX3_dissolveKink_23
def kX3_dissolveBigon (v1 : Int32) (v2 : Int32) (v3 : Int32) (i_p0_crossings : Int32) (i_p0_circles : Int32) (f_p0_arcs : Nat → Int32) : Option (Int32 × Int32 × (Nat → Int32)) :=
  bnd1 (kX3_endOf v1 ((ishr v3 2) + 2)) (fun r_1 => bnd1 (kX3_endOf v2 ((v3 &&& 3) + 3)) (fun r_2 => bnd2 (kX2_join r_1 r_2 i_p0_crossings i_p0_circles f_p0_arcs) (fun o_circles_3 o_arcs_3 => bnd1 (kX3_endOf v1 ((ishr v3 2) + 3)) (fun r_4 => bnd1 (kX3_endOf v2 ((v3 &&& 3) + 2)) (fun r_5 => bnd2 (kX2_join r_4 r_5 i_p0_crossings o_circles_3 o_arcs_3) (fun o_circles_6 o_arcs_6 => bnd2 (kX2_drop (imax v1 v2) i_p0_crossings o_arcs_6) (fun o_crossings_7 o_arcs_7 => bnd2 (kX2_drop (imin v1 v2) o_crossings_7 o_arcs_7) (fun o_crossings_8 o_arcs_8 => some (o_crossings_8, o_circles_6, o_arcs_8)))))))))
def rmX3_dissolveBigon : Room := { frames := 2, cells := 0, slots := 0, locals := 49 }
theorem qX3_dissolveBigon_0 : (.methodLink RX3 31 Lib.Math.max.name : Cond) ∈ wsX3_dissolveBigon := by decide +kernel
theorem qX3_dissolveBigon_1 : (.static Lib.Math.max.name : Cond) ∈ wsX3_dissolveBigon := by decide +kernel
theorem qX3_dissolveBigon_2 : (.initialized "java/lang/Math" : Cond) ∈ wsX3_dissolveBigon := by decide +kernel
theorem qX3_dissolveBigon_3 : (.code Lib.Math.max.name Lib.Math.max.code 2 (some .int) : Cond) ∈ wsX3_dissolveBigon := by decide +kernel
theorem qX3_dissolveBigon_4 : (.methodLink RX3 36 Lib.Math.min.name : Cond) ∈ wsX3_dissolveBigon := by decide +kernel
theorem qX3_dissolveBigon_5 : (.static Lib.Math.min.name : Cond) ∈ wsX3_dissolveBigon := by decide +kernel
theorem qX3_dissolveBigon_6 : (.code Lib.Math.min.name Lib.Math.min.code 2 (some .int) : Cond) ∈ wsX3_dissolveBigon := by decide +kernel
set_option maxHeartbeats 4000000 in
set_option maxRecDepth 100000 in
theorem mX3_dissolveBigon (l : Launch) (D : va_G) (cyI cyZ : ClassId) (sz : Nat) (a_p0 a_p0_arcs : Nat) (v1 : Int32) (v2 : Int32) (v3 : Int32) (i_p0_crossings : Int32) (i_p0_circles : Int32) (f_p0_arcs : Nat → Int32) (o_p0_crossings : Int32) (o_p0_circles : Int32) (o_p0_arcs : Nat → Int32) (hf : kX3_dissolveBigon v1 v2 v3 i_p0_crossings i_p0_circles f_p0_arcs = some (o_p0_crossings, o_p0_circles, o_p0_arcs)) : Met l yX3_dissolveBigon wsX3_dissolveBigon rmX3_dissolveBigon (kPre D cyI cyZ [.ref a_p0, .int v1, .int v2, .int v3] [(a_p0, .inr (2, [.int i_p0_crossings, .int i_p0_circles, .ref a_p0_arcs])), (a_p0_arcs, .inl (cyI, 32, .inl f_p0_arcs))] sz) (kQv D cyI cyZ (va_A [(a_p0, .inr (2, [.int i_p0_crossings, .int i_p0_circles, .ref a_p0_arcs])), (a_p0_arcs, .inl (cyI, 32, .inl f_p0_arcs))] sz) [(a_p0, .inr (2, [.int o_p0_crossings, .int o_p0_circles, .ref a_p0_arcs])), (a_p0_arcs, .inl (cyI, 32, .inl o_p0_arcs))]) 0 0 (va_A [(a_p0, .inr (2, [.int i_p0_crossings, .int i_p0_circles, .ref a_p0_arcs])), (a_p0_arcs, .inl (cyI, 32, .inl f_p0_arcs))] sz) := by
  refine Met.ofW (cc := cX3_dissolveBigon) (maxL := 6) (ret := none) (by decide) rfl ?_
  intro p e s m args below meth c s₁ B hml hv
  obtain ⟨rfl, hsz, hP, hK, hD0, hN⟩ := hv
  have hx := B.exec
  have hb := B.bytes
  have hr := B.returns
  have hts := atoms_spec (ws := wsX3_dissolveBigon) B.pre
  have hown : s.vm.findClass RX3 = some m.cls := findClass_of_methodNamed B.named
  have hlocks := B.notSynchronized
  subst hsz
  have hD := hD0.self (sz := s.heap.size)
  generalize hAe : va_A [(a_p0, .inr (2, [.int i_p0_crossings, .int i_p0_circles, .ref a_p0_arcs])), (a_p0_arcs, .inl (cyI, 32, .inl f_p0_arcs))] s.heap.size = A at hD ⊢
  have hA : ∀ q : Nat, s.heap.size ≤ q → A q := fun q h => by rw [← hAe]; exact Or.inr h
  clear hAe hD0
  have hS : va_S A s.heap s.heap [] := va_S.rf
  have S : CallFix p m c cX3_dissolveBigon 6 s (([.ref a_p0, .int v1, .int v2, .int v3] : List Value).toArray) wsX3_dissolveBigon RX3 := ⟨hx, hb, hml, hown, hts⟩
  have hl := lv_entry ([.ref a_p0, .int v1, .int v2, .int v3]) (n := 6) (Nat.le_of_ble_eq_true rfl)
  rw [lg_entry_eq]
  generalize (lg_sl ([.ref a_p0, .int v1, .int v2, .int v3]) ++ List.replicate (6 - (lg_sl ([.ref a_p0, .int v1, .int v2, .int v3])).length) Slot.unset).toArray = ls at hl ⊢
  replace hl : lv_has ls 6 [(0, .ref a_p0), (1, .int v1), (2, .int v2), (3, .int v3)] := hl
  generalize ([] : List Loc) = locs at hS ⊢
  delta kX3_dissolveBigon at hf
  obtain ⟨H, hH⟩ : ∃ H, H = s.heap := ⟨_, rfl⟩
  have hS : va_S A s.heap H locs := by rw [hH]; exact hS
  have hP : va_P D vwCl [(a_p0, .inr (2, [.int i_p0_crossings, .int i_p0_circles, .ref a_p0_arcs])), (a_p0_arcs, .inl (cyI, 32, .inl f_p0_arcs))] H := by rw [hH]; exact hP
  suffices hgo : W p l e (headSpec wsX3_dissolveBigon rmX3_dissolveBigon).room s m (([.ref a_p0, .int v1, .int v2, .int v3] : List Value).toArray) below meth c H locs 0 0 (MQ below (kQv D cyI cyZ A [(a_p0, .inr (2, [.int o_p0_crossings, .int o_p0_circles, .ref a_p0_arcs])), (a_p0_arcs, .inl (cyI, 32, .inl o_p0_arcs))]) (([.ref a_p0, .int v1, .int v2, .int v3] : List Value).toArray) s 0 0 A) (F0 m 0 ls []) by rw [hH] at hgo; exact hgo
  clear hH
  refine lv_iload_n hx hb dX3_dissolveBigon_0 rfl (lv_at hl 3 rfl) ?_
  refine lv_iconst (v := 2) hx hb dX3_dissolveBigon_1 (by decide) ?_
  refine k_ishr hx hb dX3_dissolveBigon_2 ?_
  refine lv_istore (lv' := [(4, .int (ishr v3 2)), (0, .ref a_p0), (1, .int v1), (2, .int v2), (3, .int v3)]) hx hb dX3_dissolveBigon_3 hl (by decide) rfl (fun ls hl => ?_)
  refine lv_iload_n hx hb dX3_dissolveBigon_5 rfl (lv_at hl 4 rfl) ?_
  refine lv_iconst (v := 3) hx hb dX3_dissolveBigon_6 (by decide) ?_
  refine lv_iand hx hb dX3_dissolveBigon_7 ?_
  refine lv_istore (lv' := [(5, .int (v3 &&& 3)), (4, .int (ishr v3 2)), (0, .ref a_p0), (1, .int v1), (2, .int v2), (3, .int v3)]) hx hb dX3_dissolveBigon_8 hl (by decide) rfl (fun ls hl => ?_)
  refine lv_aload_n hx hb dX3_dissolveBigon_10 rfl (lv_at hl 2 rfl) ?_
  refine lv_iload_n hx hb dX3_dissolveBigon_11 rfl (lv_at hl 3 rfl) ?_
  refine lv_iload hx hb dX3_dissolveBigon_12 (lv_at hl 1 rfl) ?_
  refine lv_iconst (v := 2) hx hb dX3_dissolveBigon_14 (by decide) ?_
  refine lv_iadd hx hb dX3_dissolveBigon_15 ?_
  obtain ⟨r_1, hc_1, hf⟩ := bnd1_s hf
  refine kcSi (As := [.int v1, .int ((ishr v3 2) + 2)]) (rest := [.ref a_p0]) (w2 := [(a_p0, .inr (2, [.int i_p0_crossings, .int i_p0_circles, .ref a_p0_arcs])), (a_p0_arcs, .inl (cyI, 32, .inl f_p0_arcs))]) S hK hP hD hS hA hN (mX3_endOf l D cyI cyZ H.size v1 ((ishr v3 2) + 2) r_1 hc_1) (va_cwS 2 hts gX3_dissolveBigon_X3_endOf rfl rfl rfl (by decide +kernel) ⟨Nat.le_of_ble_eq_true rfl, Nat.le_of_ble_eq_true rfl⟩) [] [0, 1] [0, 1] rfl rfl rfl rfl (by decide) rfl rfl hl.1 (Nat.le_of_ble_eq_true rfl) dX3_dissolveBigon_16 ⟨Nat.le_of_ble_eq_true rfl, Nat.le_of_ble_eq_true rfl⟩ (fun H locs hP hD hS => ?_)
  refine lv_iload_n hx hb dX3_dissolveBigon_19 rfl (lv_at hl 4 rfl) ?_
  refine lv_iload hx hb dX3_dissolveBigon_20 (lv_at hl 0 rfl) ?_
  refine lv_iconst (v := 3) hx hb dX3_dissolveBigon_22 (by decide) ?_
  refine lv_iadd hx hb dX3_dissolveBigon_23 ?_
  obtain ⟨r_2, hc_2, hf⟩ := bnd1_s hf
  refine kcSi (As := [.int v2, .int ((v3 &&& 3) + 3)]) (rest := [.int r_1, .ref a_p0]) (w2 := [(a_p0, .inr (2, [.int i_p0_crossings, .int i_p0_circles, .ref a_p0_arcs])), (a_p0_arcs, .inl (cyI, 32, .inl f_p0_arcs))]) S hK hP hD hS hA hN (mX3_endOf l D cyI cyZ H.size v2 ((v3 &&& 3) + 3) r_2 hc_2) (va_cwS 2 hts gX3_dissolveBigon_X3_endOf rfl rfl rfl (by decide +kernel) ⟨Nat.le_of_ble_eq_true rfl, Nat.le_of_ble_eq_true rfl⟩) [] [0, 1] [0, 1] rfl rfl rfl rfl (by decide) rfl rfl hl.1 (Nat.le_of_ble_eq_true rfl) dX3_dissolveBigon_24 ⟨Nat.le_of_ble_eq_true rfl, Nat.le_of_ble_eq_true rfl⟩ (fun H locs hP hD hS => ?_)
  obtain ⟨o_circles_3, o_arcs_3, hc_3, hf⟩ := bnd2_s hf
  refine kcVv (As := [.int r_1, .int r_2]) (rest := []) (w2 := [(a_p0, .inr (2, [.int i_p0_crossings, .int o_circles_3, .ref a_p0_arcs])), (a_p0_arcs, .inl (cyI, 32, .inl o_arcs_3))]) S hK hP hD hS hA hN (mX2_join l D cyI cyZ H.size a_p0 a_p0_arcs r_1 r_2 i_p0_crossings i_p0_circles f_p0_arcs o_circles_3 o_arcs_3 hc_3) (cwV 2 hts gX3_dissolveBigon_X2_join rfl rfl rfl (by decide +kernel) ⟨Nat.le_of_ble_eq_true rfl, Nat.le_of_ble_eq_true rfl⟩) 2 0 rfl rfl [0, 1] [] [0, 1] rfl rfl rfl rfl (by decide) rfl rfl hl.1 (Nat.le_of_ble_eq_true rfl) dX3_dissolveBigon_27 ⟨Nat.le_of_ble_eq_true rfl, Nat.le_of_ble_eq_true rfl⟩ (fun H locs hP hD hS => ?_)
  refine lv_aload_n hx hb dX3_dissolveBigon_30 rfl (lv_at hl 2 rfl) ?_
  refine lv_iload_n hx hb dX3_dissolveBigon_31 rfl (lv_at hl 3 rfl) ?_
  refine lv_iload hx hb dX3_dissolveBigon_32 (lv_at hl 1 rfl) ?_
  refine lv_iconst (v := 3) hx hb dX3_dissolveBigon_34 (by decide) ?_
  refine lv_iadd hx hb dX3_dissolveBigon_35 ?_
  obtain ⟨r_4, hc_4, hf⟩ := bnd1_s hf
  refine kcSi (As := [.int v1, .int ((ishr v3 2) + 3)]) (rest := [.ref a_p0]) (w2 := [(a_p0, .inr (2, [.int i_p0_crossings, .int o_circles_3, .ref a_p0_arcs])), (a_p0_arcs, .inl (cyI, 32, .inl o_arcs_3))]) S hK hP hD hS hA hN (mX3_endOf l D cyI cyZ H.size v1 ((ishr v3 2) + 3) r_4 hc_4) (va_cwS 2 hts gX3_dissolveBigon_X3_endOf rfl rfl rfl (by decide +kernel) ⟨Nat.le_of_ble_eq_true rfl, Nat.le_of_ble_eq_true rfl⟩) [] [0, 1] [0, 1] rfl rfl rfl rfl (by decide) rfl rfl hl.1 (Nat.le_of_ble_eq_true rfl) dX3_dissolveBigon_36 ⟨Nat.le_of_ble_eq_true rfl, Nat.le_of_ble_eq_true rfl⟩ (fun H locs hP hD hS => ?_)
  refine lv_iload_n hx hb dX3_dissolveBigon_39 rfl (lv_at hl 4 rfl) ?_
  refine lv_iload hx hb dX3_dissolveBigon_40 (lv_at hl 0 rfl) ?_
  refine lv_iconst (v := 2) hx hb dX3_dissolveBigon_42 (by decide) ?_
  refine lv_iadd hx hb dX3_dissolveBigon_43 ?_
  obtain ⟨r_5, hc_5, hf⟩ := bnd1_s hf
  refine kcSi (As := [.int v2, .int ((v3 &&& 3) + 2)]) (rest := [.int r_4, .ref a_p0]) (w2 := [(a_p0, .inr (2, [.int i_p0_crossings, .int o_circles_3, .ref a_p0_arcs])), (a_p0_arcs, .inl (cyI, 32, .inl o_arcs_3))]) S hK hP hD hS hA hN (mX3_endOf l D cyI cyZ H.size v2 ((v3 &&& 3) + 2) r_5 hc_5) (va_cwS 2 hts gX3_dissolveBigon_X3_endOf rfl rfl rfl (by decide +kernel) ⟨Nat.le_of_ble_eq_true rfl, Nat.le_of_ble_eq_true rfl⟩) [] [0, 1] [0, 1] rfl rfl rfl rfl (by decide) rfl rfl hl.1 (Nat.le_of_ble_eq_true rfl) dX3_dissolveBigon_44 ⟨Nat.le_of_ble_eq_true rfl, Nat.le_of_ble_eq_true rfl⟩ (fun H locs hP hD hS => ?_)
  obtain ⟨o_circles_6, o_arcs_6, hc_6, hf⟩ := bnd2_s hf
  refine kcVv (As := [.int r_4, .int r_5]) (rest := []) (w2 := [(a_p0, .inr (2, [.int i_p0_crossings, .int o_circles_6, .ref a_p0_arcs])), (a_p0_arcs, .inl (cyI, 32, .inl o_arcs_6))]) S hK hP hD hS hA hN (mX2_join l D cyI cyZ H.size a_p0 a_p0_arcs r_4 r_5 i_p0_crossings o_circles_3 o_arcs_3 o_circles_6 o_arcs_6 hc_6) (cwV 2 hts gX3_dissolveBigon_X2_join rfl rfl rfl (by decide +kernel) ⟨Nat.le_of_ble_eq_true rfl, Nat.le_of_ble_eq_true rfl⟩) 2 0 rfl rfl [0, 1] [] [0, 1] rfl rfl rfl rfl (by decide) rfl rfl hl.1 (Nat.le_of_ble_eq_true rfl) dX3_dissolveBigon_47 ⟨Nat.le_of_ble_eq_true rfl, Nat.le_of_ble_eq_true rfl⟩ (fun H locs hP hD hS => ?_)
  refine lv_aload_n hx hb dX3_dissolveBigon_50 rfl (lv_at hl 2 rfl) ?_
  refine lv_iload_n hx hb dX3_dissolveBigon_51 rfl (lv_at hl 3 rfl) ?_
  refine lv_iload_n hx hb dX3_dissolveBigon_52 rfl (lv_at hl 4 rfl) ?_
  refine k_mmax hx hb (by rw [hml]; exact hl.1.symm) hown (hts (.methodLink RX3 31 Lib.Math.max.name) qX3_dissolveBigon_0) (hts (.static Lib.Math.max.name) qX3_dissolveBigon_1) (hts (.initialized "java/lang/Math") qX3_dissolveBigon_2) (hts (.code Lib.Math.max.name Lib.Math.max.code 2 (some .int)) qX3_dissolveBigon_3) (Nat.le_of_ble_eq_true rfl) (Nat.le_of_ble_eq_true rfl) (Nat.zero_le _) (Nat.zero_le _) dX3_dissolveBigon_53 ?_
  obtain ⟨o_crossings_7, o_arcs_7, hc_7, hf⟩ := bnd2_s hf
  refine kcVv (As := [.int (imax v1 v2)]) (rest := []) (w2 := [(a_p0, .inr (2, [.int o_crossings_7, .int o_circles_6, .ref a_p0_arcs])), (a_p0_arcs, .inl (cyI, 32, .inl o_arcs_7))]) S hK hP hD hS hA hN (mX2_drop l D cyI cyZ H.size a_p0 a_p0_arcs (imax v1 v2) i_p0_crossings o_circles_6 o_arcs_6 o_crossings_7 o_arcs_7 hc_7) (cwV 1 hts gX3_dissolveBigon_X2_drop rfl rfl rfl (by decide +kernel) ⟨Nat.le_of_ble_eq_true rfl, Nat.le_of_ble_eq_true rfl⟩) 2 0 rfl rfl [0, 1] [] [0, 1] rfl rfl rfl rfl (by decide) rfl rfl hl.1 (Nat.le_of_ble_eq_true rfl) dX3_dissolveBigon_56 ⟨Nat.le_of_ble_eq_true rfl, Nat.le_of_ble_eq_true rfl⟩ (fun H locs hP hD hS => ?_)
  refine lv_aload_n hx hb dX3_dissolveBigon_59 rfl (lv_at hl 2 rfl) ?_
  refine lv_iload_n hx hb dX3_dissolveBigon_60 rfl (lv_at hl 3 rfl) ?_
  refine lv_iload_n hx hb dX3_dissolveBigon_61 rfl (lv_at hl 4 rfl) ?_
  refine k_mmin hx hb (by rw [hml]; exact hl.1.symm) hown (hts (.methodLink RX3 36 Lib.Math.min.name) qX3_dissolveBigon_4) (hts (.static Lib.Math.min.name) qX3_dissolveBigon_5) (hts (.initialized "java/lang/Math") qX3_dissolveBigon_2) (hts (.code Lib.Math.min.name Lib.Math.min.code 2 (some .int)) qX3_dissolveBigon_6) (Nat.le_of_ble_eq_true rfl) (Nat.le_of_ble_eq_true rfl) (Nat.zero_le _) (Nat.zero_le _) dX3_dissolveBigon_62 ?_
  obtain ⟨o_crossings_8, o_arcs_8, hc_8, hf⟩ := bnd2_s hf
  refine kcVv (As := [.int (imin v1 v2)]) (rest := []) (w2 := [(a_p0, .inr (2, [.int o_crossings_8, .int o_circles_6, .ref a_p0_arcs])), (a_p0_arcs, .inl (cyI, 32, .inl o_arcs_8))]) S hK hP hD hS hA hN (mX2_drop l D cyI cyZ H.size a_p0 a_p0_arcs (imin v1 v2) o_crossings_7 o_circles_6 o_arcs_7 o_crossings_8 o_arcs_8 hc_8) (cwV 1 hts gX3_dissolveBigon_X2_drop rfl rfl rfl (by decide +kernel) ⟨Nat.le_of_ble_eq_true rfl, Nat.le_of_ble_eq_true rfl⟩) 2 0 rfl rfl [0, 1] [] [0, 1] rfl rfl rfl rfl (by decide) rfl rfl hl.1 (Nat.le_of_ble_eq_true rfl) dX3_dissolveBigon_65 ⟨Nat.le_of_ble_eq_true rfl, Nat.le_of_ble_eq_true rfl⟩ (fun H locs hP hD hS => ?_)
  obtain ⟨rfl, rfl, rfl⟩ := some3_s hf
  exact kRv hx hb hr hlocks hP hK hD hS dX3_dissolveBigon_68
def kX8_character_J1   : Option (Int32) :=
  some (-1)
def kX8_character (v1 : Int32) (i_length : Int32) (f_characters : Nat → Int32) : Option (Int32) :=
  if v1 < 0 then kX8_character_J1 else if i_length ≤ v1 then kX8_character_J1 else if 160 ≤ v1 then kX8_character_J1 else ck v1 160 (some (f_characters v1.toNatClampNeg))
def rmX8_character : Room := { frames := 0, cells := 0, slots := 0, locals := 0 }
theorem qX8_character_0 : (.fieldLink RX8 15 "KnotDiagram$Text" "length" "I" : Cond) ∈ wsX8_character := by decide +kernel
theorem qX8_character_1 : (.fieldLink RX8 9 "KnotDiagram$Text" "characters" "[I" : Cond) ∈ wsX8_character := by decide +kernel
theorem qX8_character_X8 : ∀ w ∈ wsX80, w ∈ wsX8_character := by decide +kernel
set_option maxHeartbeats 4000000 in
set_option maxRecDepth 100000 in
theorem mX8_character (l : Launch) (D : va_G) (cyI cyZ : ClassId) (sz : Nat) (a_this a_characters : Nat) (v1 : Int32) (i_length : Int32) (f_characters : Nat → Int32) (r : Int32) (hf : kX8_character v1 i_length f_characters = some r) : Met l yX8_character wsX8_character rmX8_character (kPre D cyI cyZ [.ref a_this, .int v1] [(a_this, .inr (5, [.ref a_characters, .int i_length])), (a_characters, .inl (cyI, 160, .inl f_characters))] sz) (kQi D cyI cyZ (va_A [(a_this, .inr (5, [.ref a_characters, .int i_length])), (a_characters, .inl (cyI, 160, .inl f_characters))] sz) [(a_this, .inr (5, [.ref a_characters, .int i_length])), (a_characters, .inl (cyI, 160, .inl f_characters))] r) 0 0 (va_A [(a_this, .inr (5, [.ref a_characters, .int i_length])), (a_characters, .inl (cyI, 160, .inl f_characters))] sz) := by
  refine Met.ofW (cc := cX8_character) (maxL := 2) (ret := (some .int)) (by decide) rfl ?_
  intro p e s m args below meth c s₁ B hml hv
  obtain ⟨rfl, hsz, hP, hK, hD0, hN⟩ := hv
  have hx := B.exec
  have hb := B.bytes
  have hr := B.returns
  have hts := atoms_spec (ws := wsX8_character) B.pre
  have hown : s.vm.findClass RX8 = some m.cls := findClass_of_methodNamed B.named
  have hlocks := B.notSynchronized
  subst hsz
  have hD := hD0.self (sz := s.heap.size)
  generalize hAe : va_A [(a_this, .inr (5, [.ref a_characters, .int i_length])), (a_characters, .inl (cyI, 160, .inl f_characters))] s.heap.size = A at hD ⊢
  have hA : ∀ q : Nat, s.heap.size ≤ q → A q := fun q h => by rw [← hAe]; exact Or.inr h
  clear hAe hD0
  have hS : va_S A s.heap s.heap [] := va_S.rf
  have S : CallFix p m c cX8_character 2 s (([.ref a_this, .int v1] : List Value).toArray) wsX8_character RX8 := ⟨hx, hb, hml, hown, hts⟩
  have hl := lv_entry ([.ref a_this, .int v1]) (n := 2) (Nat.le_of_ble_eq_true rfl)
  rw [lg_entry_eq]
  generalize (lg_sl ([.ref a_this, .int v1]) ++ List.replicate (2 - (lg_sl ([.ref a_this, .int v1])).length) Slot.unset).toArray = ls at hl ⊢
  replace hl : lv_has ls 2 [(0, .ref a_this), (1, .int v1)] := hl
  generalize ([] : List Loc) = locs at hS ⊢
  delta kX8_character at hf
  obtain ⟨H, hH⟩ : ∃ H, H = s.heap := ⟨_, rfl⟩
  have hS : va_S A s.heap H locs := by rw [hH]; exact hS
  have hP : va_P D vwCl [(a_this, .inr (5, [.ref a_characters, .int i_length])), (a_characters, .inl (cyI, 160, .inl f_characters))] H := by rw [hH]; exact hP
  suffices hgo : W p l e (headSpec wsX8_character rmX8_character).room s m (([.ref a_this, .int v1] : List Value).toArray) below meth c H locs 0 0 (MQ below (kQi D cyI cyZ A [(a_this, .inr (5, [.ref a_characters, .int i_length])), (a_characters, .inl (cyI, 160, .inl f_characters))] r) (([.ref a_this, .int v1] : List Value).toArray) s 0 0 A) (F0 m 0 ls []) by rw [hH] at hgo; exact hgo
  clear hH
  refine lv_iload_n hx hb dX8_character_0 rfl (lv_at hl 1 rfl) ?_
  have hJ_1 : ∀  (H : Heap) (locs : List Loc) (ls : Array Slot), kX8_character_J1  = some r → va_P D vwCl [(a_this, .inr (5, [.ref a_characters, .int i_length])), (a_characters, .inl (cyI, 160, .inl f_characters))] H → va_D A [(a_this, .inr (5, [.ref a_characters, .int i_length])), (a_characters, .inl (cyI, 160, .inl f_characters))] → va_S A s.heap H locs → lv_has ls 2 [] → W p l e (headSpec wsX8_character rmX8_character).room s m (([.ref a_this, .int v1] : List Value).toArray) below meth c H locs 0 0 (MQ below (kQi D cyI cyZ A [(a_this, .inr (5, [.ref a_characters, .int i_length])), (a_characters, .inl (cyI, 160, .inl f_characters))] r) (([.ref a_this, .int v1] : List Value).toArray) s 0 0 A) (F0 m 28 ls []) := by
    intro  H locs ls hf hP hD hS hl
    delta kX8_character_J1 at hf
    refine lv_iconst (v := (-1)) hx hb dX8_character_28 (by decide) ?_
    obtain rfl := some1_s hf
    exact kRi hx hb hr hlocks hP hK hD hS rfl dX8_character_29
  refine lv_if_lt (tgt := 28) hx hb dX8_character_1 (by decide) (fun c_4 => ?_) (fun c_4 => ?_)
  · replace hf := kt_p hf c_4
    exact hJ_1 H locs ls hf hP hD hS (lv_sub hl [] rfl)
  · replace hf := kt_n hf c_4
    refine lv_iload_n hx hb dX8_character_4 rfl (lv_at hl 1 rfl) ?_
    refine lv_aload_n hx hb dX8_character_5 rfl (lv_at hl 0 rfl) ?_
    refine va_get (D := D) (ci := 5) (v := .int i_length) (C := RX8) (T := TX8) (N := 2) hx hb hts qX8_character_X8 hown hK hP 0 rfl rfl 1 (Nat.le_of_ble_eq_true rfl) (hts (.fieldLink RX8 15 "KnotDiagram$Text" "length" "I") qX8_character_0) (fun _ h9 => h9) rfl dX8_character_6 ?_
    refine lv_icmp_ge (tgt := 28) hx hb dX8_character_9 (by decide) (fun c_3 => ?_) (fun c_3 => ?_)
    · replace hf := kt_p hf c_3
      exact hJ_1 H locs ls hf hP hD hS (lv_sub hl [] rfl)
    · replace hf := kt_n hf c_3
      refine lv_iload_n hx hb dX8_character_12 rfl (lv_at hl 1 rfl) ?_
      refine lv_sipush (v := 160) hx hb dX8_character_13 (by decide) ?_
      refine lv_icmp_ge (tgt := 28) hx hb dX8_character_16 (by decide) (fun c_2 => ?_) (fun c_2 => ?_)
      · replace hf := kt_p hf c_2
        exact hJ_1 H locs ls hf hP hD hS (lv_sub hl [] rfl)
      · replace hf := kt_n hf c_2
        refine lv_aload_n hx hb dX8_character_19 rfl (lv_at hl 0 rfl) ?_
        refine va_get (D := D) (ci := 5) (v := .ref a_characters) (C := RX8) (T := TX8) (N := 2) hx hb hts qX8_character_X8 hown hK hP 0 rfl rfl 0 (Nat.le_of_ble_eq_true rfl) (hts (.fieldLink RX8 9 "KnotDiagram$Text" "characters" "[I") qX8_character_1) (fun _ h9 => h9) rfl dX8_character_20 ?_
        refine lv_iload_n hx hb dX8_character_23 rfl (lv_at hl 1 rfl) ?_
        obtain ⟨hi_1, hf⟩ := ck_s hf
        refine va_iald hx hb hK hP 1 0 rfl rfl hi_1 dX8_character_24 ?_
        refine lv_goto (tgt := 29) hx hb dX8_character_25 (by decide) ?_
        obtain rfl := some1_s hf
        exact kRi hx hb hr hlocks hP hK hD hS rfl dX8_character_29
def kX8_isDigit_J1   : Option (Int32) :=
  some 0
def kX8_isDigit (v1 : Int32) (i_length : Int32) (f_characters : Nat → Int32) : Option (Int32) :=
  bnd1 (kX8_character v1 i_length f_characters) (fun r_1 => if r_1 < 48 then kX8_isDigit_J1 else if 57 < r_1 then kX8_isDigit_J1 else some 1)
def rmX8_isDigit : Room := { frames := 1, cells := 0, slots := 0, locals := 21 }
set_option maxHeartbeats 4000000 in
set_option maxRecDepth 100000 in
theorem mX8_isDigit (l : Launch) (D : va_G) (cyI cyZ : ClassId) (sz : Nat) (a_this a_characters : Nat) (v1 : Int32) (i_length : Int32) (f_characters : Nat → Int32) (r : Int32) (hf : kX8_isDigit v1 i_length f_characters = some r) : Met l yX8_isDigit wsX8_isDigit rmX8_isDigit (kPre D cyI cyZ [.ref a_this, .int v1] [(a_this, .inr (5, [.ref a_characters, .int i_length])), (a_characters, .inl (cyI, 160, .inl f_characters))] sz) (kQi D cyI cyZ (va_A [(a_this, .inr (5, [.ref a_characters, .int i_length])), (a_characters, .inl (cyI, 160, .inl f_characters))] sz) [(a_this, .inr (5, [.ref a_characters, .int i_length])), (a_characters, .inl (cyI, 160, .inl f_characters))] r) 0 0 (va_A [(a_this, .inr (5, [.ref a_characters, .int i_length])), (a_characters, .inl (cyI, 160, .inl f_characters))] sz) := by
  refine Met.ofW (cc := cX8_isDigit) (maxL := 3) (ret := (some .boolean)) (by decide) rfl ?_
  intro p e s m args below meth c s₁ B hml hv
  obtain ⟨rfl, hsz, hP, hK, hD0, hN⟩ := hv
  have hx := B.exec
  have hb := B.bytes
  have hr := B.returns
  have hts := atoms_spec (ws := wsX8_isDigit) B.pre
  have hown : s.vm.findClass RX8 = some m.cls := findClass_of_methodNamed B.named
  have hlocks := B.notSynchronized
  subst hsz
  have hD := hD0.self (sz := s.heap.size)
  generalize hAe : va_A [(a_this, .inr (5, [.ref a_characters, .int i_length])), (a_characters, .inl (cyI, 160, .inl f_characters))] s.heap.size = A at hD ⊢
  have hA : ∀ q : Nat, s.heap.size ≤ q → A q := fun q h => by rw [← hAe]; exact Or.inr h
  clear hAe hD0
  have hS : va_S A s.heap s.heap [] := va_S.rf
  have S : CallFix p m c cX8_isDigit 3 s (([.ref a_this, .int v1] : List Value).toArray) wsX8_isDigit RX8 := ⟨hx, hb, hml, hown, hts⟩
  have hl := lv_entry ([.ref a_this, .int v1]) (n := 3) (Nat.le_of_ble_eq_true rfl)
  rw [lg_entry_eq]
  generalize (lg_sl ([.ref a_this, .int v1]) ++ List.replicate (3 - (lg_sl ([.ref a_this, .int v1])).length) Slot.unset).toArray = ls at hl ⊢
  replace hl : lv_has ls 3 [(0, .ref a_this), (1, .int v1)] := hl
  generalize ([] : List Loc) = locs at hS ⊢
  delta kX8_isDigit at hf
  obtain ⟨H, hH⟩ : ∃ H, H = s.heap := ⟨_, rfl⟩
  have hS : va_S A s.heap H locs := by rw [hH]; exact hS
  have hP : va_P D vwCl [(a_this, .inr (5, [.ref a_characters, .int i_length])), (a_characters, .inl (cyI, 160, .inl f_characters))] H := by rw [hH]; exact hP
  suffices hgo : W p l e (headSpec wsX8_isDigit rmX8_isDigit).room s m (([.ref a_this, .int v1] : List Value).toArray) below meth c H locs 0 0 (MQ below (kQi D cyI cyZ A [(a_this, .inr (5, [.ref a_characters, .int i_length])), (a_characters, .inl (cyI, 160, .inl f_characters))] r) (([.ref a_this, .int v1] : List Value).toArray) s 0 0 A) (F0 m 0 ls []) by rw [hH] at hgo; exact hgo
  clear hH
  refine lv_aload_n hx hb dX8_isDigit_0 rfl (lv_at hl 0 rfl) ?_
  refine lv_iload_n hx hb dX8_isDigit_1 rfl (lv_at hl 1 rfl) ?_
  obtain ⟨r_1, hc_1, hf⟩ := bnd1_s hf
  refine kcVi (As := [.int v1]) (rest := []) (w2 := [(a_this, .inr (5, [.ref a_characters, .int i_length])), (a_characters, .inl (cyI, 160, .inl f_characters))]) S hK hP hD hS hA hN (mX8_character l D cyI cyZ H.size a_this a_characters v1 i_length f_characters r_1 hc_1) (cwV 1 hts gX8_isDigit_X8_character rfl rfl rfl (by decide +kernel) ⟨Nat.le_of_ble_eq_true rfl, Nat.le_of_ble_eq_true rfl⟩) 5 0 rfl rfl [0, 1] [] [0, 1] rfl rfl rfl rfl (by decide) rfl rfl hl.1 (Nat.le_of_ble_eq_true rfl) dX8_isDigit_2 ⟨Nat.le_of_ble_eq_true rfl, Nat.le_of_ble_eq_true rfl⟩ (fun H locs hP hD hS => ?_)
  refine lv_istore_n (lv' := [(2, .int r_1), (0, .ref a_this), (1, .int v1)]) hx hb dX8_isDigit_5 rfl hl (by decide) rfl (fun ls hl => ?_)
  refine lv_iload_n hx hb dX8_isDigit_6 rfl (lv_at hl 0 rfl) ?_
  refine lv_bipush (v := 48) hx hb dX8_isDigit_7 (by decide) ?_
  have hJ_1 : ∀  (H : Heap) (locs : List Loc) (ls : Array Slot), kX8_isDigit_J1  = some r → va_P D vwCl [(a_this, .inr (5, [.ref a_characters, .int i_length])), (a_characters, .inl (cyI, 160, .inl f_characters))] H → va_D A [(a_this, .inr (5, [.ref a_characters, .int i_length])), (a_characters, .inl (cyI, 160, .inl f_characters))] → va_S A s.heap H locs → lv_has ls 3 [] → W p l e (headSpec wsX8_isDigit rmX8_isDigit).room s m (([.ref a_this, .int v1] : List Value).toArray) below meth c H locs 0 0 (MQ below (kQi D cyI cyZ A [(a_this, .inr (5, [.ref a_characters, .int i_length])), (a_characters, .inl (cyI, 160, .inl f_characters))] r) (([.ref a_this, .int v1] : List Value).toArray) s 0 0 A) (F0 m 22 ls []) := by
    intro  H locs ls hf hP hD hS hl
    delta kX8_isDigit_J1 at hf
    refine lv_iconst (v := 0) hx hb dX8_isDigit_22 (by decide) ?_
    obtain rfl := some1_s hf
    exact kRz hx hb hr hlocks hP hK hD hS zn0 rfl dX8_isDigit_23
  refine lv_icmp_lt (tgt := 22) hx hb dX8_isDigit_9 (by decide) (fun c_3 => ?_) (fun c_3 => ?_)
  · replace hf := kt_p hf c_3
    exact hJ_1 H locs ls hf hP hD hS (lv_sub hl [] rfl)
  · replace hf := kt_n hf c_3
    refine lv_iload_n hx hb dX8_isDigit_12 rfl (lv_at hl 0 rfl) ?_
    refine lv_bipush (v := 57) hx hb dX8_isDigit_13 (by decide) ?_
    refine lv_icmp_gt (tgt := 22) hx hb dX8_isDigit_15 (by decide) (fun c_2 => ?_) (fun c_2 => ?_)
    · replace hf := kt_p hf c_2
      exact hJ_1 H locs ls hf hP hD hS (lv_sub hl [] rfl)
    · replace hf := kt_n hf c_2
      refine lv_iconst (v := 1) hx hb dX8_isDigit_18 (by decide) ?_
      refine lv_goto (tgt := 23) hx hb dX8_isDigit_19 (by decide) ?_
      obtain rfl := some1_s hf
      exact kRz hx hb hr hlocks hP hK hD hS zn1 rfl dX8_isDigit_23
def kX8_startsToken (v1 : Int32) (i_length : Int32) (f_characters : Nat → Int32) : Option (Int32) :=
  bnd1 (kX8_isDigit v1 i_length f_characters) (fun r_1 => if r_1 = 0 then bnd1 (kX8_character v1 i_length f_characters) (fun r_2 => if r_2 = 32 then some 0 else some 1) else bnd1 (kX8_isDigit (v1 - 1) i_length f_characters) (fun r_4 => if r_4 = 0 then some 1 else some 0))
def rmX8_startsToken : Room := { frames := 2, cells := 0, slots := 0, locals := 43 }
set_option maxHeartbeats 4000000 in
set_option maxRecDepth 100000 in
theorem mX8_startsToken (l : Launch) (D : va_G) (cyI cyZ : ClassId) (sz : Nat) (a_this a_characters : Nat) (v1 : Int32) (i_length : Int32) (f_characters : Nat → Int32) (r : Int32) (hf : kX8_startsToken v1 i_length f_characters = some r) : Met l yX8_startsToken wsX8_startsToken rmX8_startsToken (kPre D cyI cyZ [.ref a_this, .int v1] [(a_this, .inr (5, [.ref a_characters, .int i_length])), (a_characters, .inl (cyI, 160, .inl f_characters))] sz) (kQi D cyI cyZ (va_A [(a_this, .inr (5, [.ref a_characters, .int i_length])), (a_characters, .inl (cyI, 160, .inl f_characters))] sz) [(a_this, .inr (5, [.ref a_characters, .int i_length])), (a_characters, .inl (cyI, 160, .inl f_characters))] r) 0 0 (va_A [(a_this, .inr (5, [.ref a_characters, .int i_length])), (a_characters, .inl (cyI, 160, .inl f_characters))] sz) := by
  refine Met.ofW (cc := cX8_startsToken) (maxL := 2) (ret := (some .boolean)) (by decide) rfl ?_
  intro p e s m args below meth c s₁ B hml hv
  obtain ⟨rfl, hsz, hP, hK, hD0, hN⟩ := hv
  have hx := B.exec
  have hb := B.bytes
  have hr := B.returns
  have hts := atoms_spec (ws := wsX8_startsToken) B.pre
  have hown : s.vm.findClass RX8 = some m.cls := findClass_of_methodNamed B.named
  have hlocks := B.notSynchronized
  subst hsz
  have hD := hD0.self (sz := s.heap.size)
  generalize hAe : va_A [(a_this, .inr (5, [.ref a_characters, .int i_length])), (a_characters, .inl (cyI, 160, .inl f_characters))] s.heap.size = A at hD ⊢
  have hA : ∀ q : Nat, s.heap.size ≤ q → A q := fun q h => by rw [← hAe]; exact Or.inr h
  clear hAe hD0
  have hS : va_S A s.heap s.heap [] := va_S.rf
  have S : CallFix p m c cX8_startsToken 2 s (([.ref a_this, .int v1] : List Value).toArray) wsX8_startsToken RX8 := ⟨hx, hb, hml, hown, hts⟩
  have hl := lv_entry ([.ref a_this, .int v1]) (n := 2) (Nat.le_of_ble_eq_true rfl)
  rw [lg_entry_eq]
  generalize (lg_sl ([.ref a_this, .int v1]) ++ List.replicate (2 - (lg_sl ([.ref a_this, .int v1])).length) Slot.unset).toArray = ls at hl ⊢
  replace hl : lv_has ls 2 [(0, .ref a_this), (1, .int v1)] := hl
  generalize ([] : List Loc) = locs at hS ⊢
  delta kX8_startsToken at hf
  obtain ⟨H, hH⟩ : ∃ H, H = s.heap := ⟨_, rfl⟩
  have hS : va_S A s.heap H locs := by rw [hH]; exact hS
  have hP : va_P D vwCl [(a_this, .inr (5, [.ref a_characters, .int i_length])), (a_characters, .inl (cyI, 160, .inl f_characters))] H := by rw [hH]; exact hP
  suffices hgo : W p l e (headSpec wsX8_startsToken rmX8_startsToken).room s m (([.ref a_this, .int v1] : List Value).toArray) below meth c H locs 0 0 (MQ below (kQi D cyI cyZ A [(a_this, .inr (5, [.ref a_characters, .int i_length])), (a_characters, .inl (cyI, 160, .inl f_characters))] r) (([.ref a_this, .int v1] : List Value).toArray) s 0 0 A) (F0 m 0 ls []) by rw [hH] at hgo; exact hgo
  clear hH
  refine lv_aload_n hx hb dX8_startsToken_0 rfl (lv_at hl 0 rfl) ?_
  refine lv_iload_n hx hb dX8_startsToken_1 rfl (lv_at hl 1 rfl) ?_
  obtain ⟨r_1, hc_1, hf⟩ := bnd1_s hf
  refine kcVi (As := [.int v1]) (rest := []) (w2 := [(a_this, .inr (5, [.ref a_characters, .int i_length])), (a_characters, .inl (cyI, 160, .inl f_characters))]) S hK hP hD hS hA hN (mX8_isDigit l D cyI cyZ H.size a_this a_characters v1 i_length f_characters r_1 hc_1) (cwV 1 hts gX8_startsToken_X8_isDigit rfl rfl rfl (by decide +kernel) ⟨Nat.le_of_ble_eq_true rfl, Nat.le_of_ble_eq_true rfl⟩) 5 0 rfl rfl [0, 1] [] [0, 1] rfl rfl rfl rfl (by decide) rfl rfl hl.1 (Nat.le_of_ble_eq_true rfl) dX8_startsToken_2 ⟨Nat.le_of_ble_eq_true rfl, Nat.le_of_ble_eq_true rfl⟩ (fun H locs hP hD hS => ?_)
  refine lv_if_eq (tgt := 24) hx hb dX8_startsToken_5 (by decide) (fun c_6 => ?_) (fun c_6 => ?_)
  · replace hf := kt_p hf c_6
    refine lv_aload_n hx hb dX8_startsToken_24 rfl (lv_at hl 0 rfl) ?_
    refine lv_iload_n hx hb dX8_startsToken_25 rfl (lv_at hl 1 rfl) ?_
    obtain ⟨r_2, hc_2, hf⟩ := bnd1_s hf
    refine kcVi (As := [.int v1]) (rest := []) (w2 := [(a_this, .inr (5, [.ref a_characters, .int i_length])), (a_characters, .inl (cyI, 160, .inl f_characters))]) S hK hP hD hS hA hN (mX8_character l D cyI cyZ H.size a_this a_characters v1 i_length f_characters r_2 hc_2) (cwV 1 hts gX8_startsToken_X8_character rfl rfl rfl (by decide +kernel) ⟨Nat.le_of_ble_eq_true rfl, Nat.le_of_ble_eq_true rfl⟩) 5 0 rfl rfl [0, 1] [] [0, 1] rfl rfl rfl rfl (by decide) rfl rfl hl.1 (Nat.le_of_ble_eq_true rfl) dX8_startsToken_26 ⟨Nat.le_of_ble_eq_true rfl, Nat.le_of_ble_eq_true rfl⟩ (fun H locs hP hD hS => ?_)
    refine lv_bipush (v := 32) hx hb dX8_startsToken_29 (by decide) ?_
    refine lv_icmp_eq (tgt := 38) hx hb dX8_startsToken_31 (by decide) (fun c_3 => ?_) (fun c_3 => ?_)
    · replace hf := kt_p hf c_3
      refine lv_iconst (v := 0) hx hb dX8_startsToken_38 (by decide) ?_
      obtain rfl := some1_s hf
      exact kRz hx hb hr hlocks hP hK hD hS zn0 rfl dX8_startsToken_39
    · replace hf := kt_n hf c_3
      refine lv_iconst (v := 1) hx hb dX8_startsToken_34 (by decide) ?_
      refine lv_goto (tgt := 39) hx hb dX8_startsToken_35 (by decide) ?_
      obtain rfl := some1_s hf
      exact kRz hx hb hr hlocks hP hK hD hS zn1 rfl dX8_startsToken_39
  · replace hf := kt_n hf c_6
    refine lv_aload_n hx hb dX8_startsToken_8 rfl (lv_at hl 0 rfl) ?_
    refine lv_iload_n hx hb dX8_startsToken_9 rfl (lv_at hl 1 rfl) ?_
    refine lv_iconst (v := 1) hx hb dX8_startsToken_10 (by decide) ?_
    refine lv_isub hx hb dX8_startsToken_11 ?_
    obtain ⟨r_4, hc_4, hf⟩ := bnd1_s hf
    refine kcVi (As := [.int (v1 - 1)]) (rest := []) (w2 := [(a_this, .inr (5, [.ref a_characters, .int i_length])), (a_characters, .inl (cyI, 160, .inl f_characters))]) S hK hP hD hS hA hN (mX8_isDigit l D cyI cyZ H.size a_this a_characters (v1 - 1) i_length f_characters r_4 hc_4) (cwV 1 hts gX8_startsToken_X8_isDigit rfl rfl rfl (by decide +kernel) ⟨Nat.le_of_ble_eq_true rfl, Nat.le_of_ble_eq_true rfl⟩) 5 0 rfl rfl [0, 1] [] [0, 1] rfl rfl rfl rfl (by decide) rfl rfl hl.1 (Nat.le_of_ble_eq_true rfl) dX8_startsToken_12 ⟨Nat.le_of_ble_eq_true rfl, Nat.le_of_ble_eq_true rfl⟩ (fun H locs hP hD hS => ?_)
    refine lv_if_ne (tgt := 22) hx hb dX8_startsToken_15 (by decide) (fun c_5 => ?_) (fun c_5 => ?_)
    · replace hf := kt_n hf c_5
      refine lv_iconst (v := 0) hx hb dX8_startsToken_22 (by decide) ?_
      obtain rfl := some1_s hf
      exact kRz hx hb hr hlocks hP hK hD hS zn0 rfl dX8_startsToken_23
    · replace hf := kt_p hf c_5
      refine lv_iconst (v := 1) hx hb dX8_startsToken_18 (by decide) ?_
      refine lv_goto (tgt := 23) hx hb dX8_startsToken_19 (by decide) ?_
      obtain rfl := some1_s hf
      exact kRz hx hb hr hlocks hP hK hD hS zn1 rfl dX8_startsToken_23
def kX4_takeCrossing (i_insideStatement : Int32) (i_arcsDue : Int32) (i_p1_crossings : Int32) : Option (Int32 × Int32 × Int32 × Int32) :=
  if i_insideStatement = 0 then if i_p1_crossings < 8 then some (1, 1, 4, (i_p1_crossings + 1)) else some (0, i_insideStatement, i_arcsDue, i_p1_crossings) else some (0, i_insideStatement, i_arcsDue, i_p1_crossings)
def rmX4_takeCrossing : Room := { frames := 0, cells := 0, slots := 0, locals := 0 }
theorem qX4_takeCrossing_0 : (.fieldLink RX4 14 "KnotDiagram$Reader" "insideStatement" "Z" : Cond) ∈ wsX4_takeCrossing := by decide +kernel
theorem qX4_takeCrossing_1 : (.fieldLink RX4 62 "KnotDiagram$Diagram" "crossings" "I" : Cond) ∈ wsX4_takeCrossing := by decide +kernel
theorem qX4_takeCrossing_2 : (.fieldLink RX4 20 "KnotDiagram$Reader" "arcsDue" "I" : Cond) ∈ wsX4_takeCrossing := by decide +kernel
theorem qX4_takeCrossing_X4 : ∀ w ∈ wsX40, w ∈ wsX4_takeCrossing := by decide +kernel
theorem qX4_takeCrossing_X2 : ∀ w ∈ wsX20, w ∈ wsX4_takeCrossing := by decide +kernel
set_option maxHeartbeats 4000000 in
set_option maxRecDepth 100000 in
theorem mX4_takeCrossing (l : Launch) (D : va_G) (cyI cyZ : ClassId) (sz : Nat) (a_this a_p1 a_p1_arcs : Nat) (i_insideStatement : Int32) (i_arcsDue : Int32) (i_p1_crossings : Int32) (i_p1_circles : Int32) (r : Int32) (o_insideStatement : Int32) (o_arcsDue : Int32) (o_p1_crossings : Int32) (hf : kX4_takeCrossing i_insideStatement i_arcsDue i_p1_crossings = some (r, o_insideStatement, o_arcsDue, o_p1_crossings)) : Met l yX4_takeCrossing wsX4_takeCrossing rmX4_takeCrossing (kPre D cyI cyZ [.ref a_this, .ref a_p1] [(a_this, .inr (3, [.int i_insideStatement, .int i_arcsDue])), (a_p1, .inr (2, [.int i_p1_crossings, .int i_p1_circles, .ref a_p1_arcs]))] sz) (kQi D cyI cyZ (va_A [(a_this, .inr (3, [.int i_insideStatement, .int i_arcsDue])), (a_p1, .inr (2, [.int i_p1_crossings, .int i_p1_circles, .ref a_p1_arcs]))] sz) [(a_this, .inr (3, [.int o_insideStatement, .int o_arcsDue])), (a_p1, .inr (2, [.int o_p1_crossings, .int i_p1_circles, .ref a_p1_arcs]))] r) 0 0 (va_A [(a_this, .inr (3, [.int i_insideStatement, .int i_arcsDue])), (a_p1, .inr (2, [.int i_p1_crossings, .int i_p1_circles, .ref a_p1_arcs]))] sz) := by
  refine Met.ofW (cc := cX4_takeCrossing) (maxL := 2) (ret := (some .boolean)) (by decide) rfl ?_
  intro p e s m args below meth c s₁ B hml hv
  obtain ⟨rfl, hsz, hP, hK, hD0, hN⟩ := hv
  have hx := B.exec
  have hb := B.bytes
  have hr := B.returns
  have hts := atoms_spec (ws := wsX4_takeCrossing) B.pre
  have hown : s.vm.findClass RX4 = some m.cls := findClass_of_methodNamed B.named
  have hlocks := B.notSynchronized
  subst hsz
  have hD := hD0.self (sz := s.heap.size)
  generalize hAe : va_A [(a_this, .inr (3, [.int i_insideStatement, .int i_arcsDue])), (a_p1, .inr (2, [.int i_p1_crossings, .int i_p1_circles, .ref a_p1_arcs]))] s.heap.size = A at hD ⊢
  have hA : ∀ q : Nat, s.heap.size ≤ q → A q := fun q h => by rw [← hAe]; exact Or.inr h
  clear hAe hD0
  have hS : va_S A s.heap s.heap [] := va_S.rf
  have S : CallFix p m c cX4_takeCrossing 2 s (([.ref a_this, .ref a_p1] : List Value).toArray) wsX4_takeCrossing RX4 := ⟨hx, hb, hml, hown, hts⟩
  have hl := lv_entry ([.ref a_this, .ref a_p1]) (n := 2) (Nat.le_of_ble_eq_true rfl)
  rw [lg_entry_eq]
  generalize (lg_sl ([.ref a_this, .ref a_p1]) ++ List.replicate (2 - (lg_sl ([.ref a_this, .ref a_p1])).length) Slot.unset).toArray = ls at hl ⊢
  replace hl : lv_has ls 2 [(0, .ref a_this), (1, .ref a_p1)] := hl
  generalize ([] : List Loc) = locs at hS ⊢
  delta kX4_takeCrossing at hf
  obtain ⟨H, hH⟩ : ∃ H, H = s.heap := ⟨_, rfl⟩
  have hS : va_S A s.heap H locs := by rw [hH]; exact hS
  have hP : va_P D vwCl [(a_this, .inr (3, [.int i_insideStatement, .int i_arcsDue])), (a_p1, .inr (2, [.int i_p1_crossings, .int i_p1_circles, .ref a_p1_arcs]))] H := by rw [hH]; exact hP
  suffices hgo : W p l e (headSpec wsX4_takeCrossing rmX4_takeCrossing).room s m (([.ref a_this, .ref a_p1] : List Value).toArray) below meth c H locs 0 0 (MQ below (kQi D cyI cyZ A [(a_this, .inr (3, [.int o_insideStatement, .int o_arcsDue])), (a_p1, .inr (2, [.int o_p1_crossings, .int i_p1_circles, .ref a_p1_arcs]))] r) (([.ref a_this, .ref a_p1] : List Value).toArray) s 0 0 A) (F0 m 0 ls []) by rw [hH] at hgo; exact hgo
  clear hH
  refine lv_aload_n hx hb dX4_takeCrossing_0 rfl (lv_at hl 0 rfl) ?_
  refine va_get (D := D) (ci := 3) (v := .int i_insideStatement) (C := RX4) (T := TX4) (N := 2) hx hb hts qX4_takeCrossing_X4 hown hK hP 0 rfl rfl 0 (Nat.le_of_ble_eq_true rfl) (hts (.fieldLink RX4 14 "KnotDiagram$Reader" "insideStatement" "Z") qX4_takeCrossing_0) (fun _ h9 => h9) rfl dX4_takeCrossing_1 ?_
  refine lv_if_ne (tgt := 16) hx hb dX4_takeCrossing_4 (by decide) (fun c_2 => ?_) (fun c_2 => ?_)
  · replace hf := kt_n hf c_2
    refine lv_iconst (v := 0) hx hb dX4_takeCrossing_16 (by decide) ?_
    obtain ⟨rfl, rfl, rfl, rfl⟩ := some4_s hf
    exact kRz hx hb hr hlocks hP hK hD hS zn0 rfl dX4_takeCrossing_17
  · replace hf := kt_p hf c_2
    refine lv_aload_n hx hb dX4_takeCrossing_7 rfl (lv_at hl 1 rfl) ?_
    refine va_get (D := D) (ci := 2) (v := .int i_p1_crossings) (C := RX2) (T := TX2) (N := 3) hx hb hts qX4_takeCrossing_X2 hown hK hP 1 rfl rfl 0 (Nat.le_of_ble_eq_true rfl) (hts (.fieldLink RX4 62 "KnotDiagram$Diagram" "crossings" "I") qX4_takeCrossing_1) (fun _ h9 => h9) rfl dX4_takeCrossing_8 ?_
    refine lv_bipush (v := 8) hx hb dX4_takeCrossing_11 (by decide) ?_
    refine lv_icmp_lt (tgt := 18) hx hb dX4_takeCrossing_13 (by decide) (fun c_1 => ?_) (fun c_1 => ?_)
    · replace hf := kt_p hf c_1
      refine lv_aload_n hx hb dX4_takeCrossing_18 rfl (lv_at hl 0 rfl) ?_
      refine lv_iconst (v := 1) hx hb dX4_takeCrossing_19 (by decide) ?_
      refine va_put (D := D) (ci := 3) (v := .int 1) (ty := .boolean) (C := RX4) (T := TX4) (N := 2) hx hb hts qX4_takeCrossing_X4 tyX4 tyX4_ok nmX4 hown hK hP hD hS 0 rfl rfl 0 (Nat.le_of_ble_eq_true rfl) (hts (.fieldLink RX4 14 "KnotDiagram$Reader" "insideStatement" "Z") qX4_takeCrossing_0) (fun _ h9 => h9) rfl (by decide +kernel) rfl rfl (Nat.le_of_ble_eq_true rfl) dX4_takeCrossing_20 (fun H locs hP hD hS => ?_)
      replace hP : va_P D vwCl [(a_this, .inr (3, [.int 1, .int i_arcsDue])), (a_p1, .inr (2, [.int i_p1_crossings, .int i_p1_circles, .ref a_p1_arcs]))] H := hP
      replace hD : va_D A [(a_this, .inr (3, [.int 1, .int i_arcsDue])), (a_p1, .inr (2, [.int i_p1_crossings, .int i_p1_circles, .ref a_p1_arcs]))] := hD
      refine lv_aload_n hx hb dX4_takeCrossing_23 rfl (lv_at hl 0 rfl) ?_
      refine lv_iconst (v := 4) hx hb dX4_takeCrossing_24 (by decide) ?_
      refine va_put (D := D) (ci := 3) (v := .int 4) (ty := .int) (C := RX4) (T := TX4) (N := 2) hx hb hts qX4_takeCrossing_X4 tyX4 tyX4_ok nmX4 hown hK hP hD hS 0 rfl rfl 1 (Nat.le_of_ble_eq_true rfl) (hts (.fieldLink RX4 20 "KnotDiagram$Reader" "arcsDue" "I") qX4_takeCrossing_2) (fun _ h9 => h9) rfl (by decide +kernel) rfl rfl (Nat.le_of_ble_eq_true rfl) dX4_takeCrossing_25 (fun H locs hP hD hS => ?_)
      replace hP : va_P D vwCl [(a_this, .inr (3, [.int 1, .int 4])), (a_p1, .inr (2, [.int i_p1_crossings, .int i_p1_circles, .ref a_p1_arcs]))] H := hP
      replace hD : va_D A [(a_this, .inr (3, [.int 1, .int 4])), (a_p1, .inr (2, [.int i_p1_crossings, .int i_p1_circles, .ref a_p1_arcs]))] := hD
      refine lv_aload_n hx hb dX4_takeCrossing_28 rfl (lv_at hl 1 rfl) ?_
      refine lv_dup hx hb dX4_takeCrossing_29 rfl ?_
      refine va_get (D := D) (ci := 2) (v := .int i_p1_crossings) (C := RX2) (T := TX2) (N := 3) hx hb hts qX4_takeCrossing_X2 hown hK hP 1 rfl rfl 0 (Nat.le_of_ble_eq_true rfl) (hts (.fieldLink RX4 62 "KnotDiagram$Diagram" "crossings" "I") qX4_takeCrossing_1) (fun _ h9 => h9) rfl dX4_takeCrossing_30 ?_
      refine lv_iconst (v := 1) hx hb dX4_takeCrossing_33 (by decide) ?_
      refine lv_iadd hx hb dX4_takeCrossing_34 ?_
      refine va_put (D := D) (ci := 2) (v := .int (i_p1_crossings + 1)) (ty := .int) (C := RX2) (T := TX2) (N := 3) hx hb hts qX4_takeCrossing_X2 tyX2 tyX2_ok nmX2 hown hK hP hD hS 1 rfl rfl 0 (Nat.le_of_ble_eq_true rfl) (hts (.fieldLink RX4 62 "KnotDiagram$Diagram" "crossings" "I") qX4_takeCrossing_1) (fun _ h9 => h9) rfl (by decide +kernel) rfl rfl (Nat.le_of_ble_eq_true rfl) dX4_takeCrossing_35 (fun H locs hP hD hS => ?_)
      replace hP : va_P D vwCl [(a_this, .inr (3, [.int 1, .int 4])), (a_p1, .inr (2, [.int (i_p1_crossings + 1), .int i_p1_circles, .ref a_p1_arcs]))] H := hP
      replace hD : va_D A [(a_this, .inr (3, [.int 1, .int 4])), (a_p1, .inr (2, [.int (i_p1_crossings + 1), .int i_p1_circles, .ref a_p1_arcs]))] := hD
      refine lv_iconst (v := 1) hx hb dX4_takeCrossing_38 (by decide) ?_
      obtain ⟨rfl, rfl, rfl, rfl⟩ := some4_s hf
      exact kRz hx hb hr hlocks hP hK hD hS zn1 rfl dX4_takeCrossing_39
    · replace hf := kt_n hf c_1
      refine lv_iconst (v := 0) hx hb dX4_takeCrossing_16 (by decide) ?_
      obtain ⟨rfl, rfl, rfl, rfl⟩ := some4_s hf
      exact kRz hx hb hr hlocks hP hK hD hS zn0 rfl dX4_takeCrossing_17
def kX4_takeCircle (i_insideStatement : Int32) (i_p1_circles : Int32) : Option (Int32 × Int32 × Int32) :=
  if i_insideStatement = 0 then if i_p1_circles < 4 then some (1, 1, (i_p1_circles + 1)) else some (0, i_insideStatement, i_p1_circles) else some (0, i_insideStatement, i_p1_circles)
def rmX4_takeCircle : Room := { frames := 0, cells := 0, slots := 0, locals := 0 }
theorem qX4_takeCircle_0 : (.fieldLink RX4 14 "KnotDiagram$Reader" "insideStatement" "Z" : Cond) ∈ wsX4_takeCircle := by decide +kernel
theorem qX4_takeCircle_1 : (.fieldLink RX4 65 "KnotDiagram$Diagram" "circles" "I" : Cond) ∈ wsX4_takeCircle := by decide +kernel
theorem qX4_takeCircle_X4 : ∀ w ∈ wsX40, w ∈ wsX4_takeCircle := by decide +kernel
theorem qX4_takeCircle_X2 : ∀ w ∈ wsX20, w ∈ wsX4_takeCircle := by decide +kernel
set_option maxHeartbeats 4000000 in
set_option maxRecDepth 100000 in
theorem mX4_takeCircle (l : Launch) (D : va_G) (cyI cyZ : ClassId) (sz : Nat) (a_this a_p1 a_p1_arcs : Nat) (i_insideStatement : Int32) (i_arcsDue : Int32) (i_p1_crossings : Int32) (i_p1_circles : Int32) (r : Int32) (o_insideStatement : Int32) (o_p1_circles : Int32) (hf : kX4_takeCircle i_insideStatement i_p1_circles = some (r, o_insideStatement, o_p1_circles)) : Met l yX4_takeCircle wsX4_takeCircle rmX4_takeCircle (kPre D cyI cyZ [.ref a_this, .ref a_p1] [(a_this, .inr (3, [.int i_insideStatement, .int i_arcsDue])), (a_p1, .inr (2, [.int i_p1_crossings, .int i_p1_circles, .ref a_p1_arcs]))] sz) (kQi D cyI cyZ (va_A [(a_this, .inr (3, [.int i_insideStatement, .int i_arcsDue])), (a_p1, .inr (2, [.int i_p1_crossings, .int i_p1_circles, .ref a_p1_arcs]))] sz) [(a_this, .inr (3, [.int o_insideStatement, .int i_arcsDue])), (a_p1, .inr (2, [.int i_p1_crossings, .int o_p1_circles, .ref a_p1_arcs]))] r) 0 0 (va_A [(a_this, .inr (3, [.int i_insideStatement, .int i_arcsDue])), (a_p1, .inr (2, [.int i_p1_crossings, .int i_p1_circles, .ref a_p1_arcs]))] sz) := by
  refine Met.ofW (cc := cX4_takeCircle) (maxL := 2) (ret := (some .boolean)) (by decide) rfl ?_
  intro p e s m args below meth c s₁ B hml hv
  obtain ⟨rfl, hsz, hP, hK, hD0, hN⟩ := hv
  have hx := B.exec
  have hb := B.bytes
  have hr := B.returns
  have hts := atoms_spec (ws := wsX4_takeCircle) B.pre
  have hown : s.vm.findClass RX4 = some m.cls := findClass_of_methodNamed B.named
  have hlocks := B.notSynchronized
  subst hsz
  have hD := hD0.self (sz := s.heap.size)
  generalize hAe : va_A [(a_this, .inr (3, [.int i_insideStatement, .int i_arcsDue])), (a_p1, .inr (2, [.int i_p1_crossings, .int i_p1_circles, .ref a_p1_arcs]))] s.heap.size = A at hD ⊢
  have hA : ∀ q : Nat, s.heap.size ≤ q → A q := fun q h => by rw [← hAe]; exact Or.inr h
  clear hAe hD0
  have hS : va_S A s.heap s.heap [] := va_S.rf
  have S : CallFix p m c cX4_takeCircle 2 s (([.ref a_this, .ref a_p1] : List Value).toArray) wsX4_takeCircle RX4 := ⟨hx, hb, hml, hown, hts⟩
  have hl := lv_entry ([.ref a_this, .ref a_p1]) (n := 2) (Nat.le_of_ble_eq_true rfl)
  rw [lg_entry_eq]
  generalize (lg_sl ([.ref a_this, .ref a_p1]) ++ List.replicate (2 - (lg_sl ([.ref a_this, .ref a_p1])).length) Slot.unset).toArray = ls at hl ⊢
  replace hl : lv_has ls 2 [(0, .ref a_this), (1, .ref a_p1)] := hl
  generalize ([] : List Loc) = locs at hS ⊢
  delta kX4_takeCircle at hf
  obtain ⟨H, hH⟩ : ∃ H, H = s.heap := ⟨_, rfl⟩
  have hS : va_S A s.heap H locs := by rw [hH]; exact hS
  have hP : va_P D vwCl [(a_this, .inr (3, [.int i_insideStatement, .int i_arcsDue])), (a_p1, .inr (2, [.int i_p1_crossings, .int i_p1_circles, .ref a_p1_arcs]))] H := by rw [hH]; exact hP
  suffices hgo : W p l e (headSpec wsX4_takeCircle rmX4_takeCircle).room s m (([.ref a_this, .ref a_p1] : List Value).toArray) below meth c H locs 0 0 (MQ below (kQi D cyI cyZ A [(a_this, .inr (3, [.int o_insideStatement, .int i_arcsDue])), (a_p1, .inr (2, [.int i_p1_crossings, .int o_p1_circles, .ref a_p1_arcs]))] r) (([.ref a_this, .ref a_p1] : List Value).toArray) s 0 0 A) (F0 m 0 ls []) by rw [hH] at hgo; exact hgo
  clear hH
  refine lv_aload_n hx hb dX4_takeCircle_0 rfl (lv_at hl 0 rfl) ?_
  refine va_get (D := D) (ci := 3) (v := .int i_insideStatement) (C := RX4) (T := TX4) (N := 2) hx hb hts qX4_takeCircle_X4 hown hK hP 0 rfl rfl 0 (Nat.le_of_ble_eq_true rfl) (hts (.fieldLink RX4 14 "KnotDiagram$Reader" "insideStatement" "Z") qX4_takeCircle_0) (fun _ h9 => h9) rfl dX4_takeCircle_1 ?_
  refine lv_if_ne (tgt := 15) hx hb dX4_takeCircle_4 (by decide) (fun c_2 => ?_) (fun c_2 => ?_)
  · replace hf := kt_n hf c_2
    refine lv_iconst (v := 0) hx hb dX4_takeCircle_15 (by decide) ?_
    obtain ⟨rfl, rfl, rfl⟩ := some3_s hf
    exact kRz hx hb hr hlocks hP hK hD hS zn0 rfl dX4_takeCircle_16
  · replace hf := kt_p hf c_2
    refine lv_aload_n hx hb dX4_takeCircle_7 rfl (lv_at hl 1 rfl) ?_
    refine va_get (D := D) (ci := 2) (v := .int i_p1_circles) (C := RX2) (T := TX2) (N := 3) hx hb hts qX4_takeCircle_X2 hown hK hP 1 rfl rfl 1 (Nat.le_of_ble_eq_true rfl) (hts (.fieldLink RX4 65 "KnotDiagram$Diagram" "circles" "I") qX4_takeCircle_1) (fun _ h9 => h9) rfl dX4_takeCircle_8 ?_
    refine lv_iconst (v := 4) hx hb dX4_takeCircle_11 (by decide) ?_
    refine lv_icmp_lt (tgt := 17) hx hb dX4_takeCircle_12 (by decide) (fun c_1 => ?_) (fun c_1 => ?_)
    · replace hf := kt_p hf c_1
      refine lv_aload_n hx hb dX4_takeCircle_17 rfl (lv_at hl 0 rfl) ?_
      refine lv_iconst (v := 1) hx hb dX4_takeCircle_18 (by decide) ?_
      refine va_put (D := D) (ci := 3) (v := .int 1) (ty := .boolean) (C := RX4) (T := TX4) (N := 2) hx hb hts qX4_takeCircle_X4 tyX4 tyX4_ok nmX4 hown hK hP hD hS 0 rfl rfl 0 (Nat.le_of_ble_eq_true rfl) (hts (.fieldLink RX4 14 "KnotDiagram$Reader" "insideStatement" "Z") qX4_takeCircle_0) (fun _ h9 => h9) rfl (by decide +kernel) rfl rfl (Nat.le_of_ble_eq_true rfl) dX4_takeCircle_19 (fun H locs hP hD hS => ?_)
      replace hP : va_P D vwCl [(a_this, .inr (3, [.int 1, .int i_arcsDue])), (a_p1, .inr (2, [.int i_p1_crossings, .int i_p1_circles, .ref a_p1_arcs]))] H := hP
      replace hD : va_D A [(a_this, .inr (3, [.int 1, .int i_arcsDue])), (a_p1, .inr (2, [.int i_p1_crossings, .int i_p1_circles, .ref a_p1_arcs]))] := hD
      refine lv_aload_n hx hb dX4_takeCircle_22 rfl (lv_at hl 1 rfl) ?_
      refine lv_dup hx hb dX4_takeCircle_23 rfl ?_
      refine va_get (D := D) (ci := 2) (v := .int i_p1_circles) (C := RX2) (T := TX2) (N := 3) hx hb hts qX4_takeCircle_X2 hown hK hP 1 rfl rfl 1 (Nat.le_of_ble_eq_true rfl) (hts (.fieldLink RX4 65 "KnotDiagram$Diagram" "circles" "I") qX4_takeCircle_1) (fun _ h9 => h9) rfl dX4_takeCircle_24 ?_
      refine lv_iconst (v := 1) hx hb dX4_takeCircle_27 (by decide) ?_
      refine lv_iadd hx hb dX4_takeCircle_28 ?_
      refine va_put (D := D) (ci := 2) (v := .int (i_p1_circles + 1)) (ty := .int) (C := RX2) (T := TX2) (N := 3) hx hb hts qX4_takeCircle_X2 tyX2 tyX2_ok nmX2 hown hK hP hD hS 1 rfl rfl 1 (Nat.le_of_ble_eq_true rfl) (hts (.fieldLink RX4 65 "KnotDiagram$Diagram" "circles" "I") qX4_takeCircle_1) (fun _ h9 => h9) rfl (by decide +kernel) rfl rfl (Nat.le_of_ble_eq_true rfl) dX4_takeCircle_29 (fun H locs hP hD hS => ?_)
      replace hP : va_P D vwCl [(a_this, .inr (3, [.int 1, .int i_arcsDue])), (a_p1, .inr (2, [.int i_p1_crossings, .int (i_p1_circles + 1), .ref a_p1_arcs]))] H := hP
      replace hD : va_D A [(a_this, .inr (3, [.int 1, .int i_arcsDue])), (a_p1, .inr (2, [.int i_p1_crossings, .int (i_p1_circles + 1), .ref a_p1_arcs]))] := hD
      refine lv_iconst (v := 1) hx hb dX4_takeCircle_32 (by decide) ?_
      obtain ⟨rfl, rfl, rfl⟩ := some3_s hf
      exact kRz hx hb hr hlocks hP hK hD hS zn1 rfl dX4_takeCircle_33
    · replace hf := kt_n hf c_1
      refine lv_iconst (v := 0) hx hb dX4_takeCircle_15 (by decide) ?_
      obtain ⟨rfl, rfl, rfl⟩ := some3_s hf
      exact kRz hx hb hr hlocks hP hK hD hS zn0 rfl dX4_takeCircle_16
def kX4_takeSemicolon (i_insideStatement : Int32) (i_arcsDue : Int32) : Option (Int32 × Int32) :=
  if i_insideStatement = 0 then some (0, i_insideStatement) else if i_arcsDue ≤ 0 then some (1, 0) else some (0, i_insideStatement)
def rmX4_takeSemicolon : Room := { frames := 0, cells := 0, slots := 0, locals := 0 }
theorem qX4_takeSemicolon_0 : (.fieldLink RX4 14 "KnotDiagram$Reader" "insideStatement" "Z" : Cond) ∈ wsX4_takeSemicolon := by decide +kernel
theorem qX4_takeSemicolon_1 : (.fieldLink RX4 20 "KnotDiagram$Reader" "arcsDue" "I" : Cond) ∈ wsX4_takeSemicolon := by decide +kernel
theorem qX4_takeSemicolon_X4 : ∀ w ∈ wsX40, w ∈ wsX4_takeSemicolon := by decide +kernel
set_option maxHeartbeats 4000000 in
set_option maxRecDepth 100000 in
theorem mX4_takeSemicolon (l : Launch) (D : va_G) (cyI cyZ : ClassId) (sz : Nat) (a_this : Nat) (i_insideStatement : Int32) (i_arcsDue : Int32) (r : Int32) (o_insideStatement : Int32) (hf : kX4_takeSemicolon i_insideStatement i_arcsDue = some (r, o_insideStatement)) : Met l yX4_takeSemicolon wsX4_takeSemicolon rmX4_takeSemicolon (kPre D cyI cyZ [.ref a_this] [(a_this, .inr (3, [.int i_insideStatement, .int i_arcsDue]))] sz) (kQi D cyI cyZ (va_A [(a_this, .inr (3, [.int i_insideStatement, .int i_arcsDue]))] sz) [(a_this, .inr (3, [.int o_insideStatement, .int i_arcsDue]))] r) 0 0 (va_A [(a_this, .inr (3, [.int i_insideStatement, .int i_arcsDue]))] sz) := by
  refine Met.ofW (cc := cX4_takeSemicolon) (maxL := 1) (ret := (some .boolean)) (by decide) rfl ?_
  intro p e s m args below meth c s₁ B hml hv
  obtain ⟨rfl, hsz, hP, hK, hD0, hN⟩ := hv
  have hx := B.exec
  have hb := B.bytes
  have hr := B.returns
  have hts := atoms_spec (ws := wsX4_takeSemicolon) B.pre
  have hown : s.vm.findClass RX4 = some m.cls := findClass_of_methodNamed B.named
  have hlocks := B.notSynchronized
  subst hsz
  have hD := hD0.self (sz := s.heap.size)
  generalize hAe : va_A [(a_this, .inr (3, [.int i_insideStatement, .int i_arcsDue]))] s.heap.size = A at hD ⊢
  have hA : ∀ q : Nat, s.heap.size ≤ q → A q := fun q h => by rw [← hAe]; exact Or.inr h
  clear hAe hD0
  have hS : va_S A s.heap s.heap [] := va_S.rf
  have S : CallFix p m c cX4_takeSemicolon 1 s (([.ref a_this] : List Value).toArray) wsX4_takeSemicolon RX4 := ⟨hx, hb, hml, hown, hts⟩
  have hl := lv_entry ([.ref a_this]) (n := 1) (Nat.le_of_ble_eq_true rfl)
  rw [lg_entry_eq]
  generalize (lg_sl ([.ref a_this]) ++ List.replicate (1 - (lg_sl ([.ref a_this])).length) Slot.unset).toArray = ls at hl ⊢
  replace hl : lv_has ls 1 [(0, .ref a_this)] := hl
  generalize ([] : List Loc) = locs at hS ⊢
  delta kX4_takeSemicolon at hf
  obtain ⟨H, hH⟩ : ∃ H, H = s.heap := ⟨_, rfl⟩
  have hS : va_S A s.heap H locs := by rw [hH]; exact hS
  have hP : va_P D vwCl [(a_this, .inr (3, [.int i_insideStatement, .int i_arcsDue]))] H := by rw [hH]; exact hP
  suffices hgo : W p l e (headSpec wsX4_takeSemicolon rmX4_takeSemicolon).room s m (([.ref a_this] : List Value).toArray) below meth c H locs 0 0 (MQ below (kQi D cyI cyZ A [(a_this, .inr (3, [.int o_insideStatement, .int i_arcsDue]))] r) (([.ref a_this] : List Value).toArray) s 0 0 A) (F0 m 0 ls []) by rw [hH] at hgo; exact hgo
  clear hH
  refine lv_aload_n hx hb dX4_takeSemicolon_0 rfl (lv_at hl 0 rfl) ?_
  refine va_get (D := D) (ci := 3) (v := .int i_insideStatement) (C := RX4) (T := TX4) (N := 2) hx hb hts qX4_takeSemicolon_X4 hown hK hP 0 rfl rfl 0 (Nat.le_of_ble_eq_true rfl) (hts (.fieldLink RX4 14 "KnotDiagram$Reader" "insideStatement" "Z") qX4_takeSemicolon_0) (fun _ h9 => h9) rfl dX4_takeSemicolon_1 ?_
  refine lv_if_eq (tgt := 14) hx hb dX4_takeSemicolon_4 (by decide) (fun c_2 => ?_) (fun c_2 => ?_)
  · replace hf := kt_p hf c_2
    refine lv_iconst (v := 0) hx hb dX4_takeSemicolon_14 (by decide) ?_
    obtain ⟨rfl, rfl⟩ := some2_s hf
    exact kRz hx hb hr hlocks hP hK hD hS zn0 rfl dX4_takeSemicolon_15
  · replace hf := kt_n hf c_2
    refine lv_aload_n hx hb dX4_takeSemicolon_7 rfl (lv_at hl 0 rfl) ?_
    refine va_get (D := D) (ci := 3) (v := .int i_arcsDue) (C := RX4) (T := TX4) (N := 2) hx hb hts qX4_takeSemicolon_X4 hown hK hP 0 rfl rfl 1 (Nat.le_of_ble_eq_true rfl) (hts (.fieldLink RX4 20 "KnotDiagram$Reader" "arcsDue" "I") qX4_takeSemicolon_1) (fun _ h9 => h9) rfl dX4_takeSemicolon_8 ?_
    refine lv_if_le (tgt := 16) hx hb dX4_takeSemicolon_11 (by decide) (fun c_1 => ?_) (fun c_1 => ?_)
    · replace hf := kt_p hf c_1
      refine lv_aload_n hx hb dX4_takeSemicolon_16 rfl (lv_at hl 0 rfl) ?_
      refine lv_iconst (v := 0) hx hb dX4_takeSemicolon_17 (by decide) ?_
      refine va_put (D := D) (ci := 3) (v := .int 0) (ty := .boolean) (C := RX4) (T := TX4) (N := 2) hx hb hts qX4_takeSemicolon_X4 tyX4 tyX4_ok nmX4 hown hK hP hD hS 0 rfl rfl 0 (Nat.le_of_ble_eq_true rfl) (hts (.fieldLink RX4 14 "KnotDiagram$Reader" "insideStatement" "Z") qX4_takeSemicolon_0) (fun _ h9 => h9) rfl (by decide +kernel) rfl rfl (Nat.le_of_ble_eq_true rfl) dX4_takeSemicolon_18 (fun H locs hP hD hS => ?_)
      replace hP : va_P D vwCl [(a_this, .inr (3, [.int 0, .int i_arcsDue]))] H := hP
      replace hD : va_D A [(a_this, .inr (3, [.int 0, .int i_arcsDue]))] := hD
      refine lv_iconst (v := 1) hx hb dX4_takeSemicolon_21 (by decide) ?_
      obtain ⟨rfl, rfl⟩ := some2_s hf
      exact kRz hx hb hr hlocks hP hK hD hS zn1 rfl dX4_takeSemicolon_22
    · replace hf := kt_n hf c_1
      refine lv_iconst (v := 0) hx hb dX4_takeSemicolon_14 (by decide) ?_
      obtain ⟨rfl, rfl⟩ := some2_s hf
      exact kRz hx hb hr hlocks hP hK hD hS zn0 rfl dX4_takeSemicolon_15
def kX8_arcFrom_J1   : Option (Int32) :=
  some 0
def kX8_arcFrom (v1 : Int32) (i_length : Int32) (f_characters : Nat → Int32) : Option (Int32) :=
  bnd1 (kX8_character v1 i_length f_characters) (fun r_1 => bnd1 (kX8_isDigit v1 i_length f_characters) (fun r_2 => if r_2 = 0 then some 0 else if (r_1 - 48) = 0 then some 0 else bnd1 (kX8_isDigit (v1 + 1) i_length f_characters) (fun r_3 => if r_3 = 0 then some (r_1 - 48) else bnd1 (kX8_character (v1 + 1) i_length f_characters) (fun r_4 => bnd1 (kX8_isDigit (v1 + 2) i_length f_characters) (fun r_5 => if r_5 = 0 then if (((10 * (r_1 - 48)) + r_4) - 48) ≤ 16 then some (((10 * (r_1 - 48)) + r_4) - 48) else kX8_arcFrom_J1 else kX8_arcFrom_J1)))))
def rmX8_arcFrom : Room := { frames := 2, cells := 0, slots := 0, locals := 43 }
set_option maxHeartbeats 4000000 in
set_option maxRecDepth 100000 in
theorem mX8_arcFrom (l : Launch) (D : va_G) (cyI cyZ : ClassId) (sz : Nat) (a_this a_characters : Nat) (v1 : Int32) (i_length : Int32) (f_characters : Nat → Int32) (r : Int32) (hf : kX8_arcFrom v1 i_length f_characters = some r) : Met l yX8_arcFrom wsX8_arcFrom rmX8_arcFrom (kPre D cyI cyZ [.ref a_this, .int v1] [(a_this, .inr (5, [.ref a_characters, .int i_length])), (a_characters, .inl (cyI, 160, .inl f_characters))] sz) (kQi D cyI cyZ (va_A [(a_this, .inr (5, [.ref a_characters, .int i_length])), (a_characters, .inl (cyI, 160, .inl f_characters))] sz) [(a_this, .inr (5, [.ref a_characters, .int i_length])), (a_characters, .inl (cyI, 160, .inl f_characters))] r) 0 0 (va_A [(a_this, .inr (5, [.ref a_characters, .int i_length])), (a_characters, .inl (cyI, 160, .inl f_characters))] sz) := by
  refine Met.ofW (cc := cX8_arcFrom) (maxL := 4) (ret := (some .int)) (by decide) rfl ?_
  intro p e s m args below meth c s₁ B hml hv
  obtain ⟨rfl, hsz, hP, hK, hD0, hN⟩ := hv
  have hx := B.exec
  have hb := B.bytes
  have hr := B.returns
  have hts := atoms_spec (ws := wsX8_arcFrom) B.pre
  have hown : s.vm.findClass RX8 = some m.cls := findClass_of_methodNamed B.named
  have hlocks := B.notSynchronized
  subst hsz
  have hD := hD0.self (sz := s.heap.size)
  generalize hAe : va_A [(a_this, .inr (5, [.ref a_characters, .int i_length])), (a_characters, .inl (cyI, 160, .inl f_characters))] s.heap.size = A at hD ⊢
  have hA : ∀ q : Nat, s.heap.size ≤ q → A q := fun q h => by rw [← hAe]; exact Or.inr h
  clear hAe hD0
  have hS : va_S A s.heap s.heap [] := va_S.rf
  have S : CallFix p m c cX8_arcFrom 4 s (([.ref a_this, .int v1] : List Value).toArray) wsX8_arcFrom RX8 := ⟨hx, hb, hml, hown, hts⟩
  have hl := lv_entry ([.ref a_this, .int v1]) (n := 4) (Nat.le_of_ble_eq_true rfl)
  rw [lg_entry_eq]
  generalize (lg_sl ([.ref a_this, .int v1]) ++ List.replicate (4 - (lg_sl ([.ref a_this, .int v1])).length) Slot.unset).toArray = ls at hl ⊢
  replace hl : lv_has ls 4 [(0, .ref a_this), (1, .int v1)] := hl
  generalize ([] : List Loc) = locs at hS ⊢
  delta kX8_arcFrom at hf
  obtain ⟨H, hH⟩ : ∃ H, H = s.heap := ⟨_, rfl⟩
  have hS : va_S A s.heap H locs := by rw [hH]; exact hS
  have hP : va_P D vwCl [(a_this, .inr (5, [.ref a_characters, .int i_length])), (a_characters, .inl (cyI, 160, .inl f_characters))] H := by rw [hH]; exact hP
  suffices hgo : W p l e (headSpec wsX8_arcFrom rmX8_arcFrom).room s m (([.ref a_this, .int v1] : List Value).toArray) below meth c H locs 0 0 (MQ below (kQi D cyI cyZ A [(a_this, .inr (5, [.ref a_characters, .int i_length])), (a_characters, .inl (cyI, 160, .inl f_characters))] r) (([.ref a_this, .int v1] : List Value).toArray) s 0 0 A) (F0 m 0 ls []) by rw [hH] at hgo; exact hgo
  clear hH
  refine lv_aload_n hx hb dX8_arcFrom_0 rfl (lv_at hl 0 rfl) ?_
  refine lv_iload_n hx hb dX8_arcFrom_1 rfl (lv_at hl 1 rfl) ?_
  obtain ⟨r_1, hc_1, hf⟩ := bnd1_s hf
  refine kcVi (As := [.int v1]) (rest := []) (w2 := [(a_this, .inr (5, [.ref a_characters, .int i_length])), (a_characters, .inl (cyI, 160, .inl f_characters))]) S hK hP hD hS hA hN (mX8_character l D cyI cyZ H.size a_this a_characters v1 i_length f_characters r_1 hc_1) (cwV 1 hts gX8_arcFrom_X8_character rfl rfl rfl (by decide +kernel) ⟨Nat.le_of_ble_eq_true rfl, Nat.le_of_ble_eq_true rfl⟩) 5 0 rfl rfl [0, 1] [] [0, 1] rfl rfl rfl rfl (by decide) rfl rfl hl.1 (Nat.le_of_ble_eq_true rfl) dX8_arcFrom_2 ⟨Nat.le_of_ble_eq_true rfl, Nat.le_of_ble_eq_true rfl⟩ (fun H locs hP hD hS => ?_)
  refine lv_bipush (v := 48) hx hb dX8_arcFrom_5 (by decide) ?_
  refine lv_isub hx hb dX8_arcFrom_7 ?_
  refine lv_istore_n (lv' := [(2, .int (r_1 - 48)), (0, .ref a_this), (1, .int v1)]) hx hb dX8_arcFrom_8 rfl hl (by decide) rfl (fun ls hl => ?_)
  refine lv_aload_n hx hb dX8_arcFrom_9 rfl (lv_at hl 1 rfl) ?_
  refine lv_iload_n hx hb dX8_arcFrom_10 rfl (lv_at hl 2 rfl) ?_
  obtain ⟨r_2, hc_2, hf⟩ := bnd1_s hf
  refine kcVi (As := [.int v1]) (rest := []) (w2 := [(a_this, .inr (5, [.ref a_characters, .int i_length])), (a_characters, .inl (cyI, 160, .inl f_characters))]) S hK hP hD hS hA hN (mX8_isDigit l D cyI cyZ H.size a_this a_characters v1 i_length f_characters r_2 hc_2) (cwV 1 hts gX8_arcFrom_X8_isDigit rfl rfl rfl (by decide +kernel) ⟨Nat.le_of_ble_eq_true rfl, Nat.le_of_ble_eq_true rfl⟩) 5 0 rfl rfl [0, 1] [] [0, 1] rfl rfl rfl rfl (by decide) rfl rfl hl.1 (Nat.le_of_ble_eq_true rfl) dX8_arcFrom_11 ⟨Nat.le_of_ble_eq_true rfl, Nat.le_of_ble_eq_true rfl⟩ (fun H locs hP hD hS => ?_)
  refine lv_if_eq (tgt := 21) hx hb dX8_arcFrom_14 (by decide) (fun c_10 => ?_) (fun c_10 => ?_)
  · replace hf := kt_p hf c_10
    refine lv_iconst (v := 0) hx hb dX8_arcFrom_21 (by decide) ?_
    obtain rfl := some1_s hf
    exact kRi hx hb hr hlocks hP hK hD hS rfl dX8_arcFrom_22
  · replace hf := kt_n hf c_10
    refine lv_iload_n hx hb dX8_arcFrom_17 rfl (lv_at hl 0 rfl) ?_
    refine lv_if_ne (tgt := 23) hx hb dX8_arcFrom_18 (by decide) (fun c_9 => ?_) (fun c_9 => ?_)
    · replace hf := kt_n hf c_9
      refine lv_aload_n hx hb dX8_arcFrom_23 rfl (lv_at hl 1 rfl) ?_
      refine lv_iload_n hx hb dX8_arcFrom_24 rfl (lv_at hl 2 rfl) ?_
      refine lv_iconst (v := 1) hx hb dX8_arcFrom_25 (by decide) ?_
      refine lv_iadd hx hb dX8_arcFrom_26 ?_
      obtain ⟨r_3, hc_3, hf⟩ := bnd1_s hf
      refine kcVi (As := [.int (v1 + 1)]) (rest := []) (w2 := [(a_this, .inr (5, [.ref a_characters, .int i_length])), (a_characters, .inl (cyI, 160, .inl f_characters))]) S hK hP hD hS hA hN (mX8_isDigit l D cyI cyZ H.size a_this a_characters (v1 + 1) i_length f_characters r_3 hc_3) (cwV 1 hts gX8_arcFrom_X8_isDigit rfl rfl rfl (by decide +kernel) ⟨Nat.le_of_ble_eq_true rfl, Nat.le_of_ble_eq_true rfl⟩) 5 0 rfl rfl [0, 1] [] [0, 1] rfl rfl rfl rfl (by decide) rfl rfl hl.1 (Nat.le_of_ble_eq_true rfl) dX8_arcFrom_27 ⟨Nat.le_of_ble_eq_true rfl, Nat.le_of_ble_eq_true rfl⟩ (fun H locs hP hD hS => ?_)
      refine lv_if_ne (tgt := 35) hx hb dX8_arcFrom_30 (by decide) (fun c_8 => ?_) (fun c_8 => ?_)
      · replace hf := kt_n hf c_8
        refine lv_bipush (v := 10) hx hb dX8_arcFrom_35 (by decide) ?_
        refine lv_iload_n hx hb dX8_arcFrom_37 rfl (lv_at hl 0 rfl) ?_
        refine lv_imul hx hb dX8_arcFrom_38 ?_
        refine lv_aload_n hx hb dX8_arcFrom_39 rfl (lv_at hl 1 rfl) ?_
        refine lv_iload_n hx hb dX8_arcFrom_40 rfl (lv_at hl 2 rfl) ?_
        refine lv_iconst (v := 1) hx hb dX8_arcFrom_41 (by decide) ?_
        refine lv_iadd hx hb dX8_arcFrom_42 ?_
        obtain ⟨r_4, hc_4, hf⟩ := bnd1_s hf
        refine kcVi (As := [.int (v1 + 1)]) (rest := [.int (10 * (r_1 - 48))]) (w2 := [(a_this, .inr (5, [.ref a_characters, .int i_length])), (a_characters, .inl (cyI, 160, .inl f_characters))]) S hK hP hD hS hA hN (mX8_character l D cyI cyZ H.size a_this a_characters (v1 + 1) i_length f_characters r_4 hc_4) (cwV 1 hts gX8_arcFrom_X8_character rfl rfl rfl (by decide +kernel) ⟨Nat.le_of_ble_eq_true rfl, Nat.le_of_ble_eq_true rfl⟩) 5 0 rfl rfl [0, 1] [] [0, 1] rfl rfl rfl rfl (by decide) rfl rfl hl.1 (Nat.le_of_ble_eq_true rfl) dX8_arcFrom_43 ⟨Nat.le_of_ble_eq_true rfl, Nat.le_of_ble_eq_true rfl⟩ (fun H locs hP hD hS => ?_)
        refine lv_iadd hx hb dX8_arcFrom_46 ?_
        refine lv_bipush (v := 48) hx hb dX8_arcFrom_47 (by decide) ?_
        refine lv_isub hx hb dX8_arcFrom_49 ?_
        refine lv_istore_n (lv' := [(3, .int (((10 * (r_1 - 48)) + r_4) - 48)), (2, .int (r_1 - 48)), (0, .ref a_this), (1, .int v1)]) hx hb dX8_arcFrom_50 rfl hl (by decide) rfl (fun ls hl => ?_)
        refine lv_aload_n hx hb dX8_arcFrom_51 rfl (lv_at hl 2 rfl) ?_
        refine lv_iload_n hx hb dX8_arcFrom_52 rfl (lv_at hl 3 rfl) ?_
        refine lv_iconst (v := 2) hx hb dX8_arcFrom_53 (by decide) ?_
        refine lv_iadd hx hb dX8_arcFrom_54 ?_
        obtain ⟨r_5, hc_5, hf⟩ := bnd1_s hf
        refine kcVi (As := [.int (v1 + 2)]) (rest := []) (w2 := [(a_this, .inr (5, [.ref a_characters, .int i_length])), (a_characters, .inl (cyI, 160, .inl f_characters))]) S hK hP hD hS hA hN (mX8_isDigit l D cyI cyZ H.size a_this a_characters (v1 + 2) i_length f_characters r_5 hc_5) (cwV 1 hts gX8_arcFrom_X8_isDigit rfl rfl rfl (by decide +kernel) ⟨Nat.le_of_ble_eq_true rfl, Nat.le_of_ble_eq_true rfl⟩) 5 0 rfl rfl [0, 1] [] [0, 1] rfl rfl rfl rfl (by decide) rfl rfl hl.1 (Nat.le_of_ble_eq_true rfl) dX8_arcFrom_55 ⟨Nat.le_of_ble_eq_true rfl, Nat.le_of_ble_eq_true rfl⟩ (fun H locs hP hD hS => ?_)
        have hJ_1 : ∀  (H : Heap) (locs : List Loc) (ls : Array Slot), kX8_arcFrom_J1  = some r → va_P D vwCl [(a_this, .inr (5, [.ref a_characters, .int i_length])), (a_characters, .inl (cyI, 160, .inl f_characters))] H → va_D A [(a_this, .inr (5, [.ref a_characters, .int i_length])), (a_characters, .inl (cyI, 160, .inl f_characters))] → va_S A s.heap H locs → lv_has ls 4 [] → W p l e (headSpec wsX8_arcFrom rmX8_arcFrom).room s m (([.ref a_this, .int v1] : List Value).toArray) below meth c H locs 0 0 (MQ below (kQi D cyI cyZ A [(a_this, .inr (5, [.ref a_characters, .int i_length])), (a_characters, .inl (cyI, 160, .inl f_characters))] r) (([.ref a_this, .int v1] : List Value).toArray) s 0 0 A) (F0 m 67 ls []) := by
          intro  H locs ls hf hP hD hS hl
          delta kX8_arcFrom_J1 at hf
          refine lv_iconst (v := 0) hx hb dX8_arcFrom_67 (by decide) ?_
          refine lv_goto (tgt := 72) hx hb dX8_arcFrom_68 (by decide) ?_
          obtain rfl := some1_s hf
          exact kRi hx hb hr hlocks hP hK hD hS rfl dX8_arcFrom_72
        refine lv_if_ne (tgt := 67) hx hb dX8_arcFrom_58 (by decide) (fun c_7 => ?_) (fun c_7 => ?_)
        · replace hf := kt_n hf c_7
          exact hJ_1 H locs ls hf hP hD hS (lv_sub hl [] rfl)
        · replace hf := kt_p hf c_7
          refine lv_iload_n hx hb dX8_arcFrom_61 rfl (lv_at hl 0 rfl) ?_
          refine lv_bipush (v := 16) hx hb dX8_arcFrom_62 (by decide) ?_
          refine lv_icmp_le (tgt := 71) hx hb dX8_arcFrom_64 (by decide) (fun c_6 => ?_) (fun c_6 => ?_)
          · replace hf := kt_p hf c_6
            refine lv_iload_n hx hb dX8_arcFrom_71 rfl (lv_at hl 0 rfl) ?_
            obtain rfl := some1_s hf
            exact kRi hx hb hr hlocks hP hK hD hS rfl dX8_arcFrom_72
          · replace hf := kt_n hf c_6
            exact hJ_1 H locs ls hf hP hD hS (lv_sub hl [] rfl)
      · replace hf := kt_p hf c_8
        refine lv_iload_n hx hb dX8_arcFrom_33 rfl (lv_at hl 0 rfl) ?_
        obtain rfl := some1_s hf
        exact kRi hx hb hr hlocks hP hK hD hS rfl dX8_arcFrom_34
    · replace hf := kt_p hf c_9
      refine lv_iconst (v := 0) hx hb dX8_arcFrom_21 (by decide) ?_
      obtain rfl := some1_s hf
      exact kRi hx hb hr hlocks hP hK hD hS rfl dX8_arcFrom_22
def kX4_takeArc (v1 : Int32) (i_arcsDue : Int32) (i_p2_crossings : Int32) (f_p2_arcs : Nat → Int32) : Option (Int32 × Int32 × (Nat → Int32)) :=
  if v1 = 0 then some (0, i_arcsDue, f_p2_arcs) else if i_arcsDue = 0 then some (0, i_arcsDue, f_p2_arcs) else bnd1 (kX2_occurrences v1 i_p2_crossings f_p2_arcs) (fun r_1 => if r_1 < 2 then bnd1 (kX2_endCount i_p2_crossings) (fun r_2 => bnd1 (kX2_setArc (r_2 - i_arcsDue) v1 f_p2_arcs) (fun o_arcs_3 => some (1, (i_arcsDue - 1), o_arcs_3))) else some (0, i_arcsDue, f_p2_arcs))
def rmX4_takeArc : Room := { frames := 2, cells := 0, slots := 0, locals := 45 }
theorem qX4_takeArc_0 : (.fieldLink RX4 20 "KnotDiagram$Reader" "arcsDue" "I" : Cond) ∈ wsX4_takeArc := by decide +kernel
theorem qX4_takeArc_X4 : ∀ w ∈ wsX40, w ∈ wsX4_takeArc := by decide +kernel
set_option maxHeartbeats 4000000 in
set_option maxRecDepth 100000 in
theorem mX4_takeArc (l : Launch) (D : va_G) (cyI cyZ : ClassId) (sz : Nat) (a_this a_p2 a_p2_arcs : Nat) (v1 : Int32) (i_insideStatement : Int32) (i_arcsDue : Int32) (i_p2_crossings : Int32) (i_p2_circles : Int32) (f_p2_arcs : Nat → Int32) (r : Int32) (o_arcsDue : Int32) (o_p2_arcs : Nat → Int32) (hf : kX4_takeArc v1 i_arcsDue i_p2_crossings f_p2_arcs = some (r, o_arcsDue, o_p2_arcs)) : Met l yX4_takeArc wsX4_takeArc rmX4_takeArc (kPre D cyI cyZ [.ref a_this, .int v1, .ref a_p2] [(a_this, .inr (3, [.int i_insideStatement, .int i_arcsDue])), (a_p2, .inr (2, [.int i_p2_crossings, .int i_p2_circles, .ref a_p2_arcs])), (a_p2_arcs, .inl (cyI, 32, .inl f_p2_arcs))] sz) (kQi D cyI cyZ (va_A [(a_this, .inr (3, [.int i_insideStatement, .int i_arcsDue])), (a_p2, .inr (2, [.int i_p2_crossings, .int i_p2_circles, .ref a_p2_arcs])), (a_p2_arcs, .inl (cyI, 32, .inl f_p2_arcs))] sz) [(a_this, .inr (3, [.int i_insideStatement, .int o_arcsDue])), (a_p2, .inr (2, [.int i_p2_crossings, .int i_p2_circles, .ref a_p2_arcs])), (a_p2_arcs, .inl (cyI, 32, .inl o_p2_arcs))] r) 0 0 (va_A [(a_this, .inr (3, [.int i_insideStatement, .int i_arcsDue])), (a_p2, .inr (2, [.int i_p2_crossings, .int i_p2_circles, .ref a_p2_arcs])), (a_p2_arcs, .inl (cyI, 32, .inl f_p2_arcs))] sz) := by
  refine Met.ofW (cc := cX4_takeArc) (maxL := 3) (ret := (some .boolean)) (by decide) rfl ?_
  intro p e s m args below meth c s₁ B hml hv
  obtain ⟨rfl, hsz, hP, hK, hD0, hN⟩ := hv
  have hx := B.exec
  have hb := B.bytes
  have hr := B.returns
  have hts := atoms_spec (ws := wsX4_takeArc) B.pre
  have hown : s.vm.findClass RX4 = some m.cls := findClass_of_methodNamed B.named
  have hlocks := B.notSynchronized
  subst hsz
  have hD := hD0.self (sz := s.heap.size)
  generalize hAe : va_A [(a_this, .inr (3, [.int i_insideStatement, .int i_arcsDue])), (a_p2, .inr (2, [.int i_p2_crossings, .int i_p2_circles, .ref a_p2_arcs])), (a_p2_arcs, .inl (cyI, 32, .inl f_p2_arcs))] s.heap.size = A at hD ⊢
  have hA : ∀ q : Nat, s.heap.size ≤ q → A q := fun q h => by rw [← hAe]; exact Or.inr h
  clear hAe hD0
  have hS : va_S A s.heap s.heap [] := va_S.rf
  have S : CallFix p m c cX4_takeArc 3 s (([.ref a_this, .int v1, .ref a_p2] : List Value).toArray) wsX4_takeArc RX4 := ⟨hx, hb, hml, hown, hts⟩
  have hl := lv_entry ([.ref a_this, .int v1, .ref a_p2]) (n := 3) (Nat.le_of_ble_eq_true rfl)
  rw [lg_entry_eq]
  generalize (lg_sl ([.ref a_this, .int v1, .ref a_p2]) ++ List.replicate (3 - (lg_sl ([.ref a_this, .int v1, .ref a_p2])).length) Slot.unset).toArray = ls at hl ⊢
  replace hl : lv_has ls 3 [(0, .ref a_this), (1, .int v1), (2, .ref a_p2)] := hl
  generalize ([] : List Loc) = locs at hS ⊢
  delta kX4_takeArc at hf
  obtain ⟨H, hH⟩ : ∃ H, H = s.heap := ⟨_, rfl⟩
  have hS : va_S A s.heap H locs := by rw [hH]; exact hS
  have hP : va_P D vwCl [(a_this, .inr (3, [.int i_insideStatement, .int i_arcsDue])), (a_p2, .inr (2, [.int i_p2_crossings, .int i_p2_circles, .ref a_p2_arcs])), (a_p2_arcs, .inl (cyI, 32, .inl f_p2_arcs))] H := by rw [hH]; exact hP
  suffices hgo : W p l e (headSpec wsX4_takeArc rmX4_takeArc).room s m (([.ref a_this, .int v1, .ref a_p2] : List Value).toArray) below meth c H locs 0 0 (MQ below (kQi D cyI cyZ A [(a_this, .inr (3, [.int i_insideStatement, .int o_arcsDue])), (a_p2, .inr (2, [.int i_p2_crossings, .int i_p2_circles, .ref a_p2_arcs])), (a_p2_arcs, .inl (cyI, 32, .inl o_p2_arcs))] r) (([.ref a_this, .int v1, .ref a_p2] : List Value).toArray) s 0 0 A) (F0 m 0 ls []) by rw [hH] at hgo; exact hgo
  clear hH
  refine lv_iload_n hx hb dX4_takeArc_0 rfl (lv_at hl 1 rfl) ?_
  refine lv_if_eq (tgt := 20) hx hb dX4_takeArc_1 (by decide) (fun c_6 => ?_) (fun c_6 => ?_)
  · replace hf := kt_p hf c_6
    refine lv_iconst (v := 0) hx hb dX4_takeArc_20 (by decide) ?_
    obtain ⟨rfl, rfl, rfl⟩ := some3_s hf
    exact kRz hx hb hr hlocks hP hK hD hS zn0 rfl dX4_takeArc_21
  · replace hf := kt_n hf c_6
    refine lv_aload_n hx hb dX4_takeArc_4 rfl (lv_at hl 0 rfl) ?_
    refine va_get (D := D) (ci := 3) (v := .int i_arcsDue) (C := RX4) (T := TX4) (N := 2) hx hb hts qX4_takeArc_X4 hown hK hP 0 rfl rfl 1 (Nat.le_of_ble_eq_true rfl) (hts (.fieldLink RX4 20 "KnotDiagram$Reader" "arcsDue" "I") qX4_takeArc_0) (fun _ h9 => h9) rfl dX4_takeArc_5 ?_
    refine lv_if_eq (tgt := 20) hx hb dX4_takeArc_8 (by decide) (fun c_5 => ?_) (fun c_5 => ?_)
    · replace hf := kt_p hf c_5
      refine lv_iconst (v := 0) hx hb dX4_takeArc_20 (by decide) ?_
      obtain ⟨rfl, rfl, rfl⟩ := some3_s hf
      exact kRz hx hb hr hlocks hP hK hD hS zn0 rfl dX4_takeArc_21
    · replace hf := kt_n hf c_5
      refine lv_aload_n hx hb dX4_takeArc_11 rfl (lv_at hl 2 rfl) ?_
      refine lv_iload_n hx hb dX4_takeArc_12 rfl (lv_at hl 1 rfl) ?_
      obtain ⟨r_1, hc_1, hf⟩ := bnd1_s hf
      refine kcVi (As := [.int v1]) (rest := []) (w2 := [(a_this, .inr (3, [.int i_insideStatement, .int i_arcsDue])), (a_p2, .inr (2, [.int i_p2_crossings, .int i_p2_circles, .ref a_p2_arcs])), (a_p2_arcs, .inl (cyI, 32, .inl f_p2_arcs))]) S hK hP hD hS hA hN (mX2_occurrences l D cyI cyZ H.size a_p2 a_p2_arcs v1 i_p2_crossings i_p2_circles f_p2_arcs r_1 hc_1) (cwV 1 hts gX4_takeArc_X2_occurrences rfl rfl rfl (by decide +kernel) ⟨Nat.le_of_ble_eq_true rfl, Nat.le_of_ble_eq_true rfl⟩) 2 1 rfl rfl [1, 2] [0] [0, 1, 2] rfl rfl rfl rfl (by decide) rfl rfl hl.1 (Nat.le_of_ble_eq_true rfl) dX4_takeArc_13 ⟨Nat.le_of_ble_eq_true rfl, Nat.le_of_ble_eq_true rfl⟩ (fun H locs hP hD hS => ?_)
      refine lv_iconst (v := 2) hx hb dX4_takeArc_16 (by decide) ?_
      refine lv_icmp_lt (tgt := 22) hx hb dX4_takeArc_17 (by decide) (fun c_4 => ?_) (fun c_4 => ?_)
      · replace hf := kt_p hf c_4
        refine lv_aload_n hx hb dX4_takeArc_22 rfl (lv_at hl 2 rfl) ?_
        refine lv_aload_n hx hb dX4_takeArc_23 rfl (lv_at hl 2 rfl) ?_
        obtain ⟨r_2, hc_2, hf⟩ := bnd1_s hf
        refine kcVi (As := []) (rest := [.ref a_p2]) (w2 := [(a_this, .inr (3, [.int i_insideStatement, .int i_arcsDue])), (a_p2, .inr (2, [.int i_p2_crossings, .int i_p2_circles, .ref a_p2_arcs])), (a_p2_arcs, .inl (cyI, 32, .inl f_p2_arcs))]) S hK hP hD hS hA hN (mX2_endCount l D cyI cyZ H.size a_p2 a_p2_arcs i_p2_crossings i_p2_circles r_2 hc_2) (cwV 0 hts gX4_takeArc_X2_endCount rfl rfl rfl (by decide +kernel) ⟨Nat.le_of_ble_eq_true rfl, Nat.le_of_ble_eq_true rfl⟩) 2 1 rfl rfl [1] [0, 2] [0, 2, 1] rfl rfl rfl rfl (by decide) rfl rfl hl.1 (Nat.le_of_ble_eq_true rfl) dX4_takeArc_24 ⟨Nat.le_of_ble_eq_true rfl, Nat.le_of_ble_eq_true rfl⟩ (fun H locs hP hD hS => ?_)
        refine lv_aload_n hx hb dX4_takeArc_27 rfl (lv_at hl 0 rfl) ?_
        refine va_get (D := D) (ci := 3) (v := .int i_arcsDue) (C := RX4) (T := TX4) (N := 2) hx hb hts qX4_takeArc_X4 hown hK hP 0 rfl rfl 1 (Nat.le_of_ble_eq_true rfl) (hts (.fieldLink RX4 20 "KnotDiagram$Reader" "arcsDue" "I") qX4_takeArc_0) (fun _ h9 => h9) rfl dX4_takeArc_28 ?_
        refine lv_isub hx hb dX4_takeArc_31 ?_
        refine lv_iload_n hx hb dX4_takeArc_32 rfl (lv_at hl 1 rfl) ?_
        obtain ⟨o_arcs_3, hc_3, hf⟩ := bnd1_s hf
        refine kcVv (As := [.int (r_2 - i_arcsDue), .int v1]) (rest := []) (w2 := [(a_this, .inr (3, [.int i_insideStatement, .int i_arcsDue])), (a_p2, .inr (2, [.int i_p2_crossings, .int i_p2_circles, .ref a_p2_arcs])), (a_p2_arcs, .inl (cyI, 32, .inl o_arcs_3))]) S hK hP hD hS hA hN (mX2_setArc l D cyI cyZ H.size a_p2 a_p2_arcs (r_2 - i_arcsDue) v1 i_p2_crossings i_p2_circles f_p2_arcs o_arcs_3 hc_3) (cwV 2 hts gX4_takeArc_X2_setArc rfl rfl rfl (by decide +kernel) ⟨Nat.le_of_ble_eq_true rfl, Nat.le_of_ble_eq_true rfl⟩) 2 1 rfl rfl [1, 2] [0] [0, 1, 2] rfl rfl rfl rfl (by decide) rfl rfl hl.1 (Nat.le_of_ble_eq_true rfl) dX4_takeArc_33 ⟨Nat.le_of_ble_eq_true rfl, Nat.le_of_ble_eq_true rfl⟩ (fun H locs hP hD hS => ?_)
        refine lv_aload_n hx hb dX4_takeArc_36 rfl (lv_at hl 0 rfl) ?_
        refine lv_dup hx hb dX4_takeArc_37 rfl ?_
        refine va_get (D := D) (ci := 3) (v := .int i_arcsDue) (C := RX4) (T := TX4) (N := 2) hx hb hts qX4_takeArc_X4 hown hK hP 0 rfl rfl 1 (Nat.le_of_ble_eq_true rfl) (hts (.fieldLink RX4 20 "KnotDiagram$Reader" "arcsDue" "I") qX4_takeArc_0) (fun _ h9 => h9) rfl dX4_takeArc_38 ?_
        refine lv_iconst (v := 1) hx hb dX4_takeArc_41 (by decide) ?_
        refine lv_isub hx hb dX4_takeArc_42 ?_
        refine va_put (D := D) (ci := 3) (v := .int (i_arcsDue - 1)) (ty := .int) (C := RX4) (T := TX4) (N := 2) hx hb hts qX4_takeArc_X4 tyX4 tyX4_ok nmX4 hown hK hP hD hS 0 rfl rfl 1 (Nat.le_of_ble_eq_true rfl) (hts (.fieldLink RX4 20 "KnotDiagram$Reader" "arcsDue" "I") qX4_takeArc_0) (fun _ h9 => h9) rfl (by decide +kernel) rfl rfl (Nat.le_of_ble_eq_true rfl) dX4_takeArc_43 (fun H locs hP hD hS => ?_)
        replace hP : va_P D vwCl [(a_this, .inr (3, [.int i_insideStatement, .int (i_arcsDue - 1)])), (a_p2, .inr (2, [.int i_p2_crossings, .int i_p2_circles, .ref a_p2_arcs])), (a_p2_arcs, .inl (cyI, 32, .inl o_arcs_3))] H := hP
        replace hD : va_D A [(a_this, .inr (3, [.int i_insideStatement, .int (i_arcsDue - 1)])), (a_p2, .inr (2, [.int i_p2_crossings, .int i_p2_circles, .ref a_p2_arcs])), (a_p2_arcs, .inl (cyI, 32, .inl o_arcs_3))] := hD
        refine lv_iconst (v := 1) hx hb dX4_takeArc_46 (by decide) ?_
        obtain ⟨rfl, rfl, rfl⟩ := some3_s hf
        exact kRz hx hb hr hlocks hP hK hD hS zn1 rfl dX4_takeArc_47
      · replace hf := kt_n hf c_4
        refine lv_iconst (v := 0) hx hb dX4_takeArc_20 (by decide) ?_
        obtain ⟨rfl, rfl, rfl⟩ := some3_s hf
        exact kRz hx hb hr hlocks hP hK hD hS zn0 rfl dX4_takeArc_21
def kX4_takeToken (v2 : Int32) (i_insideStatement : Int32) (i_arcsDue : Int32) (i_p1_length : Int32) (f_p1_characters : Nat → Int32) (i_p3_crossings : Int32) (i_p3_circles : Int32) (f_p3_arcs : Nat → Int32) : Option (Int32 × Int32 × Int32 × Int32 × Int32 × (Nat → Int32)) :=
  bnd1 (kX8_character v2 i_p1_length f_p1_characters) (fun r_1 => if r_1 = 59 then bnd2 (kX4_takeSemicolon i_insideStatement i_arcsDue) (fun r_9 o_insideStatement_9 => zr r_9 (some (r_9, o_insideStatement_9, i_arcsDue, i_p3_crossings, i_p3_circles, f_p3_arcs))) else if r_1 = 111 then bnd3 (kX4_takeCircle i_insideStatement i_p3_circles) (fun r_8 o_insideStatement_8 o_p1_circles_8 => zr r_8 (some (r_8, o_insideStatement_8, i_arcsDue, i_p3_crossings, o_p1_circles_8, f_p3_arcs))) else if r_1 = 120 then bnd4 (kX4_takeCrossing i_insideStatement i_arcsDue i_p3_crossings) (fun r_7 o_insideStatement_7 o_arcsDue_7 o_p1_crossings_7 => zr r_7 (some (r_7, o_insideStatement_7, o_arcsDue_7, o_p1_crossings_7, i_p3_circles, f_p3_arcs))) else bnd1 (kX8_arcFrom v2 i_p1_length f_p1_characters) (fun r_2 => bnd3 (kX4_takeArc r_2 i_arcsDue i_p3_crossings f_p3_arcs) (fun r_3 o_arcsDue_3 o_p2_arcs_3 => zr r_3 (some (r_3, i_insideStatement, o_arcsDue_3, i_p3_crossings, i_p3_circles, o_p2_arcs_3)))))
def rmX4_takeToken : Room := { frames := 3, cells := 0, slots := 0, locals := 67 }
set_option maxHeartbeats 4000000 in
set_option maxRecDepth 100000 in
theorem mX4_takeToken (l : Launch) (D : va_G) (cyI cyZ : ClassId) (sz : Nat) (a_this a_p1 a_p3 a_p1_characters a_p3_arcs : Nat) (v2 : Int32) (i_insideStatement : Int32) (i_arcsDue : Int32) (i_p1_length : Int32) (f_p1_characters : Nat → Int32) (i_p3_crossings : Int32) (i_p3_circles : Int32) (f_p3_arcs : Nat → Int32) (r : Int32) (o_insideStatement : Int32) (o_arcsDue : Int32) (o_p3_crossings : Int32) (o_p3_circles : Int32) (o_p3_arcs : Nat → Int32) (hf : kX4_takeToken v2 i_insideStatement i_arcsDue i_p1_length f_p1_characters i_p3_crossings i_p3_circles f_p3_arcs = some (r, o_insideStatement, o_arcsDue, o_p3_crossings, o_p3_circles, o_p3_arcs)) : Met l yX4_takeToken wsX4_takeToken rmX4_takeToken (kPre D cyI cyZ [.ref a_this, .ref a_p1, .int v2, .ref a_p3] [(a_this, .inr (3, [.int i_insideStatement, .int i_arcsDue])), (a_p1, .inr (5, [.ref a_p1_characters, .int i_p1_length])), (a_p1_characters, .inl (cyI, 160, .inl f_p1_characters)), (a_p3, .inr (2, [.int i_p3_crossings, .int i_p3_circles, .ref a_p3_arcs])), (a_p3_arcs, .inl (cyI, 32, .inl f_p3_arcs))] sz) (kQi D cyI cyZ (va_A [(a_this, .inr (3, [.int i_insideStatement, .int i_arcsDue])), (a_p1, .inr (5, [.ref a_p1_characters, .int i_p1_length])), (a_p1_characters, .inl (cyI, 160, .inl f_p1_characters)), (a_p3, .inr (2, [.int i_p3_crossings, .int i_p3_circles, .ref a_p3_arcs])), (a_p3_arcs, .inl (cyI, 32, .inl f_p3_arcs))] sz) [(a_this, .inr (3, [.int o_insideStatement, .int o_arcsDue])), (a_p1, .inr (5, [.ref a_p1_characters, .int i_p1_length])), (a_p1_characters, .inl (cyI, 160, .inl f_p1_characters)), (a_p3, .inr (2, [.int o_p3_crossings, .int o_p3_circles, .ref a_p3_arcs])), (a_p3_arcs, .inl (cyI, 32, .inl o_p3_arcs))] r) 0 0 (va_A [(a_this, .inr (3, [.int i_insideStatement, .int i_arcsDue])), (a_p1, .inr (5, [.ref a_p1_characters, .int i_p1_length])), (a_p1_characters, .inl (cyI, 160, .inl f_p1_characters)), (a_p3, .inr (2, [.int i_p3_crossings, .int i_p3_circles, .ref a_p3_arcs])), (a_p3_arcs, .inl (cyI, 32, .inl f_p3_arcs))] sz) := by
  refine Met.ofW (cc := cX4_takeToken) (maxL := 4) (ret := (some .boolean)) (by decide) rfl ?_
  intro p e s m args below meth c s₁ B hml hv
  obtain ⟨rfl, hsz, hP, hK, hD0, hN⟩ := hv
  have hx := B.exec
  have hb := B.bytes
  have hr := B.returns
  have hts := atoms_spec (ws := wsX4_takeToken) B.pre
  have hown : s.vm.findClass RX4 = some m.cls := findClass_of_methodNamed B.named
  have hlocks := B.notSynchronized
  subst hsz
  have hD := hD0.self (sz := s.heap.size)
  generalize hAe : va_A [(a_this, .inr (3, [.int i_insideStatement, .int i_arcsDue])), (a_p1, .inr (5, [.ref a_p1_characters, .int i_p1_length])), (a_p1_characters, .inl (cyI, 160, .inl f_p1_characters)), (a_p3, .inr (2, [.int i_p3_crossings, .int i_p3_circles, .ref a_p3_arcs])), (a_p3_arcs, .inl (cyI, 32, .inl f_p3_arcs))] s.heap.size = A at hD ⊢
  have hA : ∀ q : Nat, s.heap.size ≤ q → A q := fun q h => by rw [← hAe]; exact Or.inr h
  clear hAe hD0
  have hS : va_S A s.heap s.heap [] := va_S.rf
  have S : CallFix p m c cX4_takeToken 4 s (([.ref a_this, .ref a_p1, .int v2, .ref a_p3] : List Value).toArray) wsX4_takeToken RX4 := ⟨hx, hb, hml, hown, hts⟩
  have hl := lv_entry ([.ref a_this, .ref a_p1, .int v2, .ref a_p3]) (n := 4) (Nat.le_of_ble_eq_true rfl)
  rw [lg_entry_eq]
  generalize (lg_sl ([.ref a_this, .ref a_p1, .int v2, .ref a_p3]) ++ List.replicate (4 - (lg_sl ([.ref a_this, .ref a_p1, .int v2, .ref a_p3])).length) Slot.unset).toArray = ls at hl ⊢
  replace hl : lv_has ls 4 [(0, .ref a_this), (1, .ref a_p1), (2, .int v2), (3, .ref a_p3)] := hl
  generalize ([] : List Loc) = locs at hS ⊢
  delta kX4_takeToken at hf
  obtain ⟨H, hH⟩ : ∃ H, H = s.heap := ⟨_, rfl⟩
  have hS : va_S A s.heap H locs := by rw [hH]; exact hS
  have hP : va_P D vwCl [(a_this, .inr (3, [.int i_insideStatement, .int i_arcsDue])), (a_p1, .inr (5, [.ref a_p1_characters, .int i_p1_length])), (a_p1_characters, .inl (cyI, 160, .inl f_p1_characters)), (a_p3, .inr (2, [.int i_p3_crossings, .int i_p3_circles, .ref a_p3_arcs])), (a_p3_arcs, .inl (cyI, 32, .inl f_p3_arcs))] H := by rw [hH]; exact hP
  suffices hgo : W p l e (headSpec wsX4_takeToken rmX4_takeToken).room s m (([.ref a_this, .ref a_p1, .int v2, .ref a_p3] : List Value).toArray) below meth c H locs 0 0 (MQ below (kQi D cyI cyZ A [(a_this, .inr (3, [.int o_insideStatement, .int o_arcsDue])), (a_p1, .inr (5, [.ref a_p1_characters, .int i_p1_length])), (a_p1_characters, .inl (cyI, 160, .inl f_p1_characters)), (a_p3, .inr (2, [.int o_p3_crossings, .int o_p3_circles, .ref a_p3_arcs])), (a_p3_arcs, .inl (cyI, 32, .inl o_p3_arcs))] r) (([.ref a_this, .ref a_p1, .int v2, .ref a_p3] : List Value).toArray) s 0 0 A) (F0 m 0 ls []) by rw [hH] at hgo; exact hgo
  clear hH
  refine lv_aload_n hx hb dX4_takeToken_0 rfl (lv_at hl 1 rfl) ?_
  refine lv_iload_n hx hb dX4_takeToken_1 rfl (lv_at hl 2 rfl) ?_
  obtain ⟨r_1, hc_1, hf⟩ := bnd1_s hf
  refine kcVi (As := [.int v2]) (rest := []) (w2 := [(a_this, .inr (3, [.int i_insideStatement, .int i_arcsDue])), (a_p1, .inr (5, [.ref a_p1_characters, .int i_p1_length])), (a_p1_characters, .inl (cyI, 160, .inl f_p1_characters)), (a_p3, .inr (2, [.int i_p3_crossings, .int i_p3_circles, .ref a_p3_arcs])), (a_p3_arcs, .inl (cyI, 32, .inl f_p3_arcs))]) S hK hP hD hS hA hN (mX8_character l D cyI cyZ H.size a_p1 a_p1_characters v2 i_p1_length f_p1_characters r_1 hc_1) (cwV 1 hts gX4_takeToken_X8_character rfl rfl rfl (by decide +kernel) ⟨Nat.le_of_ble_eq_true rfl, Nat.le_of_ble_eq_true rfl⟩) 5 1 rfl rfl [1, 2] [0, 3, 4] [0, 3, 4, 1, 2] rfl rfl rfl rfl (by decide) rfl rfl hl.1 (Nat.le_of_ble_eq_true rfl) dX4_takeToken_2 ⟨Nat.le_of_ble_eq_true rfl, Nat.le_of_ble_eq_true rfl⟩ (fun H locs hP hD hS => ?_)
  by_cases c_4 : r_1 = 59
  · replace hf := kt_p hf c_4
    refine lv_lookup (off := 47) (tgt := 52) hx hb dX4_takeToken_5 (by decide) (by rw [c_4]; decide) (by decide) ?_
    refine lv_aload_n hx hb dX4_takeToken_52 rfl (lv_at hl 0 rfl) ?_
    obtain ⟨r_9, o_insideStatement_9, hc_9, hf⟩ := bnd2_s hf
    refine kcVi (As := []) (rest := []) (w2 := [(a_this, .inr (3, [.int o_insideStatement_9, .int i_arcsDue])), (a_p1, .inr (5, [.ref a_p1_characters, .int i_p1_length])), (a_p1_characters, .inl (cyI, 160, .inl f_p1_characters)), (a_p3, .inr (2, [.int i_p3_crossings, .int i_p3_circles, .ref a_p3_arcs])), (a_p3_arcs, .inl (cyI, 32, .inl f_p3_arcs))]) S hK hP hD hS hA hN (mX4_takeSemicolon l D cyI cyZ H.size a_this i_insideStatement i_arcsDue r_9 o_insideStatement_9 hc_9) (cwV 0 hts gX4_takeToken_X4_takeSemicolon rfl rfl rfl (by decide +kernel) ⟨Nat.le_of_ble_eq_true rfl, Nat.le_of_ble_eq_true rfl⟩) 3 0 rfl rfl [0] [1, 2, 3, 4] [4, 0, 1, 2, 3] rfl rfl rfl rfl (by decide) rfl rfl hl.1 (Nat.le_of_ble_eq_true rfl) dX4_takeToken_53 ⟨Nat.le_of_ble_eq_true rfl, Nat.le_of_ble_eq_true rfl⟩ (fun H locs hP hD hS => ?_)
    obtain ⟨hz, hf⟩ := zr_s hf
    obtain ⟨rfl, rfl, rfl, rfl, rfl, rfl⟩ := some6_s hf
    exact kRz hx hb hr hlocks hP hK hD hS hz rfl dX4_takeToken_56
  · replace hf := kt_n hf c_4
    by_cases c_5 : r_1 = 111
    · replace hf := kt_p hf c_5
      refine lv_lookup (off := 41) (tgt := 46) hx hb dX4_takeToken_5 (by decide) (by rw [c_5]; decide) (by decide) ?_
      refine lv_aload_n hx hb dX4_takeToken_46 rfl (lv_at hl 0 rfl) ?_
      refine lv_aload_n hx hb dX4_takeToken_47 rfl (lv_at hl 3 rfl) ?_
      obtain ⟨r_8, o_insideStatement_8, o_p1_circles_8, hc_8, hf⟩ := bnd3_s hf
      refine kcVi (As := [.ref a_p3]) (rest := []) (w2 := [(a_this, .inr (3, [.int o_insideStatement_8, .int i_arcsDue])), (a_p1, .inr (5, [.ref a_p1_characters, .int i_p1_length])), (a_p1_characters, .inl (cyI, 160, .inl f_p1_characters)), (a_p3, .inr (2, [.int i_p3_crossings, .int o_p1_circles_8, .ref a_p3_arcs])), (a_p3_arcs, .inl (cyI, 32, .inl f_p3_arcs))]) S hK hP hD hS hA hN (mX4_takeCircle l D cyI cyZ H.size a_this a_p3 a_p3_arcs i_insideStatement i_arcsDue i_p3_crossings i_p3_circles r_8 o_insideStatement_8 o_p1_circles_8 hc_8) (cwV 1 hts gX4_takeToken_X4_takeCircle rfl rfl rfl (by decide +kernel) ⟨Nat.le_of_ble_eq_true rfl, Nat.le_of_ble_eq_true rfl⟩) 3 0 rfl rfl [0, 3] [1, 2, 4] [3, 0, 1, 4, 2] rfl rfl rfl rfl (by decide) rfl rfl hl.1 (Nat.le_of_ble_eq_true rfl) dX4_takeToken_48 ⟨Nat.le_of_ble_eq_true rfl, Nat.le_of_ble_eq_true rfl⟩ (fun H locs hP hD hS => ?_)
      obtain ⟨hz, hf⟩ := zr_s hf
      obtain ⟨rfl, rfl, rfl, rfl, rfl, rfl⟩ := some6_s hf
      exact kRz hx hb hr hlocks hP hK hD hS hz rfl dX4_takeToken_51
    · replace hf := kt_n hf c_5
      by_cases c_6 : r_1 = 120
      · replace hf := kt_p hf c_6
        refine lv_lookup (off := 35) (tgt := 40) hx hb dX4_takeToken_5 (by decide) (by rw [c_6]; decide) (by decide) ?_
        refine lv_aload_n hx hb dX4_takeToken_40 rfl (lv_at hl 0 rfl) ?_
        refine lv_aload_n hx hb dX4_takeToken_41 rfl (lv_at hl 3 rfl) ?_
        obtain ⟨r_7, o_insideStatement_7, o_arcsDue_7, o_p1_crossings_7, hc_7, hf⟩ := bnd4_s hf
        refine kcVi (As := [.ref a_p3]) (rest := []) (w2 := [(a_this, .inr (3, [.int o_insideStatement_7, .int o_arcsDue_7])), (a_p1, .inr (5, [.ref a_p1_characters, .int i_p1_length])), (a_p1_characters, .inl (cyI, 160, .inl f_p1_characters)), (a_p3, .inr (2, [.int o_p1_crossings_7, .int i_p3_circles, .ref a_p3_arcs])), (a_p3_arcs, .inl (cyI, 32, .inl f_p3_arcs))]) S hK hP hD hS hA hN (mX4_takeCrossing l D cyI cyZ H.size a_this a_p3 a_p3_arcs i_insideStatement i_arcsDue i_p3_crossings i_p3_circles r_7 o_insideStatement_7 o_arcsDue_7 o_p1_crossings_7 hc_7) (cwV 1 hts gX4_takeToken_X4_takeCrossing rfl rfl rfl (by decide +kernel) ⟨Nat.le_of_ble_eq_true rfl, Nat.le_of_ble_eq_true rfl⟩) 3 0 rfl rfl [0, 3] [1, 2, 4] [3, 0, 1, 4, 2] rfl rfl rfl rfl (by decide) rfl rfl hl.1 (Nat.le_of_ble_eq_true rfl) dX4_takeToken_42 ⟨Nat.le_of_ble_eq_true rfl, Nat.le_of_ble_eq_true rfl⟩ (fun H locs hP hD hS => ?_)
        obtain ⟨hz, hf⟩ := zr_s hf
        obtain ⟨rfl, rfl, rfl, rfl, rfl, rfl⟩ := some6_s hf
        exact kRz hx hb hr hlocks hP hK hD hS hz rfl dX4_takeToken_45
      · replace hf := kt_n hf c_6
        refine lv_lookup (off := 52) (tgt := 57) hx hb dX4_takeToken_5 (by decide) (k_look3 (by decide) (by decide) (by decide) c_4 c_5 c_6) (by decide) ?_
        refine lv_aload_n hx hb dX4_takeToken_57 rfl (lv_at hl 0 rfl) ?_
        refine lv_aload_n hx hb dX4_takeToken_58 rfl (lv_at hl 1 rfl) ?_
        refine lv_iload_n hx hb dX4_takeToken_59 rfl (lv_at hl 2 rfl) ?_
        obtain ⟨r_2, hc_2, hf⟩ := bnd1_s hf
        refine kcVi (As := [.int v2]) (rest := [.ref a_this]) (w2 := [(a_this, .inr (3, [.int i_insideStatement, .int i_arcsDue])), (a_p1, .inr (5, [.ref a_p1_characters, .int i_p1_length])), (a_p1_characters, .inl (cyI, 160, .inl f_p1_characters)), (a_p3, .inr (2, [.int i_p3_crossings, .int i_p3_circles, .ref a_p3_arcs])), (a_p3_arcs, .inl (cyI, 32, .inl f_p3_arcs))]) S hK hP hD hS hA hN (mX8_arcFrom l D cyI cyZ H.size a_p1 a_p1_characters v2 i_p1_length f_p1_characters r_2 hc_2) (cwV 1 hts gX4_takeToken_X8_arcFrom rfl rfl rfl (by decide +kernel) ⟨Nat.le_of_ble_eq_true rfl, Nat.le_of_ble_eq_true rfl⟩) 5 1 rfl rfl [1, 2] [0, 3, 4] [0, 3, 4, 1, 2] rfl rfl rfl rfl (by decide) rfl rfl hl.1 (Nat.le_of_ble_eq_true rfl) dX4_takeToken_60 ⟨Nat.le_of_ble_eq_true rfl, Nat.le_of_ble_eq_true rfl⟩ (fun H locs hP hD hS => ?_)
        refine lv_aload_n hx hb dX4_takeToken_63 rfl (lv_at hl 3 rfl) ?_
        obtain ⟨r_3, o_arcsDue_3, o_p2_arcs_3, hc_3, hf⟩ := bnd3_s hf
        refine kcVi (As := [.int r_2, .ref a_p3]) (rest := []) (w2 := [(a_this, .inr (3, [.int i_insideStatement, .int o_arcsDue_3])), (a_p1, .inr (5, [.ref a_p1_characters, .int i_p1_length])), (a_p1_characters, .inl (cyI, 160, .inl f_p1_characters)), (a_p3, .inr (2, [.int i_p3_crossings, .int i_p3_circles, .ref a_p3_arcs])), (a_p3_arcs, .inl (cyI, 32, .inl o_p2_arcs_3))]) S hK hP hD hS hA hN (mX4_takeArc l D cyI cyZ H.size a_this a_p3 a_p3_arcs r_2 i_insideStatement i_arcsDue i_p3_crossings i_p3_circles f_p3_arcs r_3 o_arcsDue_3 o_p2_arcs_3 hc_3) (cwV 2 hts gX4_takeToken_X4_takeArc rfl rfl rfl (by decide +kernel) ⟨Nat.le_of_ble_eq_true rfl, Nat.le_of_ble_eq_true rfl⟩) 3 0 rfl rfl [0, 3, 4] [1, 2] [2, 0, 1, 3, 4] rfl rfl rfl rfl (by decide) rfl rfl hl.1 (Nat.le_of_ble_eq_true rfl) dX4_takeToken_64 ⟨Nat.le_of_ble_eq_true rfl, Nat.le_of_ble_eq_true rfl⟩ (fun H locs hP hD hS => ?_)
        obtain ⟨hz, hf⟩ := zr_s hf
        obtain ⟨rfl, rfl, rfl, rfl, rfl, rfl⟩ := some6_s hf
        exact kRz hx hb hr hlocks hP hK hD hS hz rfl dX4_takeToken_67
def kX4_isWhole_L1 (r_1 : Int32) (f_p1_arcs : Nat → Int32) (i_p1_crossings : Int32) (K_1 : Int32 → Option (Int32)) (v3_1 : Int32) : Option (Int32) :=
  if r_1 ≤ v3_1 then some 1 else bnd1 (kX2_arc v3_1 f_p1_arcs) (fun r_2 => bnd1 (kX2_occurrences r_2 i_p1_crossings f_p1_arcs) (fun r_3 => if r_3 = 2 then K_1 (v3_1 + 1) else some 0))
def kX4_isWhole (i_insideStatement : Int32) (i_p1_crossings : Int32) (i_p1_circles : Int32) (f_p1_arcs : Nat → Int32) : Option (Int32) :=
  if i_insideStatement = 0 then if (i_p1_crossings + i_p1_circles) = 0 then some 0 else bnd1 (kX2_endCount i_p1_crossings) (fun r_1 => it1 (kX4_isWhole_L1 r_1 f_p1_arcs i_p1_crossings) 400 0) else some 0
def rmX4_isWhole : Room := { frames := 2, cells := 0, slots := 0, locals := 45 }
theorem qX4_isWhole_0 : (.fieldLink RX4 14 "KnotDiagram$Reader" "insideStatement" "Z" : Cond) ∈ wsX4_isWhole := by decide +kernel
theorem qX4_isWhole_1 : (.fieldLink RX4 62 "KnotDiagram$Diagram" "crossings" "I" : Cond) ∈ wsX4_isWhole := by decide +kernel
theorem qX4_isWhole_2 : (.fieldLink RX4 65 "KnotDiagram$Diagram" "circles" "I" : Cond) ∈ wsX4_isWhole := by decide +kernel
theorem qX4_isWhole_X4 : ∀ w ∈ wsX40, w ∈ wsX4_isWhole := by decide +kernel
theorem qX4_isWhole_X2 : ∀ w ∈ wsX20, w ∈ wsX4_isWhole := by decide +kernel
set_option maxHeartbeats 4000000 in
set_option maxRecDepth 100000 in
theorem mX4_isWhole (l : Launch) (D : va_G) (cyI cyZ : ClassId) (sz : Nat) (a_this a_p1 a_p1_arcs : Nat) (i_insideStatement : Int32) (i_arcsDue : Int32) (i_p1_crossings : Int32) (i_p1_circles : Int32) (f_p1_arcs : Nat → Int32) (r : Int32) (hf : kX4_isWhole i_insideStatement i_p1_crossings i_p1_circles f_p1_arcs = some r) : Met l yX4_isWhole wsX4_isWhole rmX4_isWhole (kPre D cyI cyZ [.ref a_this, .ref a_p1] [(a_this, .inr (3, [.int i_insideStatement, .int i_arcsDue])), (a_p1, .inr (2, [.int i_p1_crossings, .int i_p1_circles, .ref a_p1_arcs])), (a_p1_arcs, .inl (cyI, 32, .inl f_p1_arcs))] sz) (kQi D cyI cyZ (va_A [(a_this, .inr (3, [.int i_insideStatement, .int i_arcsDue])), (a_p1, .inr (2, [.int i_p1_crossings, .int i_p1_circles, .ref a_p1_arcs])), (a_p1_arcs, .inl (cyI, 32, .inl f_p1_arcs))] sz) [(a_this, .inr (3, [.int i_insideStatement, .int i_arcsDue])), (a_p1, .inr (2, [.int i_p1_crossings, .int i_p1_circles, .ref a_p1_arcs])), (a_p1_arcs, .inl (cyI, 32, .inl f_p1_arcs))] r) 0 0 (va_A [(a_this, .inr (3, [.int i_insideStatement, .int i_arcsDue])), (a_p1, .inr (2, [.int i_p1_crossings, .int i_p1_circles, .ref a_p1_arcs])), (a_p1_arcs, .inl (cyI, 32, .inl f_p1_arcs))] sz) := by
  refine Met.ofW (cc := cX4_isWhole) (maxL := 4) (ret := (some .boolean)) (by decide) rfl ?_
  intro p e s m args below meth c s₁ B hml hv
  obtain ⟨rfl, hsz, hP, hK, hD0, hN⟩ := hv
  have hx := B.exec
  have hb := B.bytes
  have hr := B.returns
  have hts := atoms_spec (ws := wsX4_isWhole) B.pre
  have hown : s.vm.findClass RX4 = some m.cls := findClass_of_methodNamed B.named
  have hlocks := B.notSynchronized
  subst hsz
  have hD := hD0.self (sz := s.heap.size)
  generalize hAe : va_A [(a_this, .inr (3, [.int i_insideStatement, .int i_arcsDue])), (a_p1, .inr (2, [.int i_p1_crossings, .int i_p1_circles, .ref a_p1_arcs])), (a_p1_arcs, .inl (cyI, 32, .inl f_p1_arcs))] s.heap.size = A at hD ⊢
  have hA : ∀ q : Nat, s.heap.size ≤ q → A q := fun q h => by rw [← hAe]; exact Or.inr h
  clear hAe hD0
  have hS : va_S A s.heap s.heap [] := va_S.rf
  have S : CallFix p m c cX4_isWhole 4 s (([.ref a_this, .ref a_p1] : List Value).toArray) wsX4_isWhole RX4 := ⟨hx, hb, hml, hown, hts⟩
  have hl := lv_entry ([.ref a_this, .ref a_p1]) (n := 4) (Nat.le_of_ble_eq_true rfl)
  rw [lg_entry_eq]
  generalize (lg_sl ([.ref a_this, .ref a_p1]) ++ List.replicate (4 - (lg_sl ([.ref a_this, .ref a_p1])).length) Slot.unset).toArray = ls at hl ⊢
  replace hl : lv_has ls 4 [(0, .ref a_this), (1, .ref a_p1)] := hl
  generalize ([] : List Loc) = locs at hS ⊢
  delta kX4_isWhole at hf
  obtain ⟨H, hH⟩ : ∃ H, H = s.heap := ⟨_, rfl⟩
  have hS : va_S A s.heap H locs := by rw [hH]; exact hS
  have hP : va_P D vwCl [(a_this, .inr (3, [.int i_insideStatement, .int i_arcsDue])), (a_p1, .inr (2, [.int i_p1_crossings, .int i_p1_circles, .ref a_p1_arcs])), (a_p1_arcs, .inl (cyI, 32, .inl f_p1_arcs))] H := by rw [hH]; exact hP
  suffices hgo : W p l e (headSpec wsX4_isWhole rmX4_isWhole).room s m (([.ref a_this, .ref a_p1] : List Value).toArray) below meth c H locs 0 0 (MQ below (kQi D cyI cyZ A [(a_this, .inr (3, [.int i_insideStatement, .int i_arcsDue])), (a_p1, .inr (2, [.int i_p1_crossings, .int i_p1_circles, .ref a_p1_arcs])), (a_p1_arcs, .inl (cyI, 32, .inl f_p1_arcs))] r) (([.ref a_this, .ref a_p1] : List Value).toArray) s 0 0 A) (F0 m 0 ls []) by rw [hH] at hgo; exact hgo
  clear hH
  refine lv_aload_n hx hb dX4_isWhole_0 rfl (lv_at hl 0 rfl) ?_
  refine va_get (D := D) (ci := 3) (v := .int i_insideStatement) (C := RX4) (T := TX4) (N := 2) hx hb hts qX4_isWhole_X4 hown hK hP 0 rfl rfl 0 (Nat.le_of_ble_eq_true rfl) (hts (.fieldLink RX4 14 "KnotDiagram$Reader" "insideStatement" "Z") qX4_isWhole_0) (fun _ h9 => h9) rfl dX4_isWhole_1 ?_
  refine lv_if_ne (tgt := 19) hx hb dX4_isWhole_4 (by decide) (fun c_7 => ?_) (fun c_7 => ?_)
  · replace hf := kt_n hf c_7
    refine lv_iconst (v := 0) hx hb dX4_isWhole_19 (by decide) ?_
    obtain rfl := some1_s hf
    exact kRz hx hb hr hlocks hP hK hD hS zn0 rfl dX4_isWhole_20
  · replace hf := kt_p hf c_7
    refine lv_aload_n hx hb dX4_isWhole_7 rfl (lv_at hl 1 rfl) ?_
    refine va_get (D := D) (ci := 2) (v := .int i_p1_crossings) (C := RX2) (T := TX2) (N := 3) hx hb hts qX4_isWhole_X2 hown hK hP 1 rfl rfl 0 (Nat.le_of_ble_eq_true rfl) (hts (.fieldLink RX4 62 "KnotDiagram$Diagram" "crossings" "I") qX4_isWhole_1) (fun _ h9 => h9) rfl dX4_isWhole_8 ?_
    refine lv_aload_n hx hb dX4_isWhole_11 rfl (lv_at hl 1 rfl) ?_
    refine va_get (D := D) (ci := 2) (v := .int i_p1_circles) (C := RX2) (T := TX2) (N := 3) hx hb hts qX4_isWhole_X2 hown hK hP 1 rfl rfl 1 (Nat.le_of_ble_eq_true rfl) (hts (.fieldLink RX4 65 "KnotDiagram$Diagram" "circles" "I") qX4_isWhole_2) (fun _ h9 => h9) rfl dX4_isWhole_12 ?_
    refine lv_iadd hx hb dX4_isWhole_15 ?_
    refine lv_if_ne (tgt := 21) hx hb dX4_isWhole_16 (by decide) (fun c_6 => ?_) (fun c_6 => ?_)
    · replace hf := kt_n hf c_6
      refine lv_aload_n hx hb dX4_isWhole_21 rfl (lv_at hl 1 rfl) ?_
      obtain ⟨r_1, hc_1, hf⟩ := bnd1_s hf
      refine kcVi (As := []) (rest := []) (w2 := [(a_this, .inr (3, [.int i_insideStatement, .int i_arcsDue])), (a_p1, .inr (2, [.int i_p1_crossings, .int i_p1_circles, .ref a_p1_arcs])), (a_p1_arcs, .inl (cyI, 32, .inl f_p1_arcs))]) S hK hP hD hS hA hN (mX2_endCount l D cyI cyZ H.size a_p1 a_p1_arcs i_p1_crossings i_p1_circles r_1 hc_1) (cwV 0 hts gX4_isWhole_X2_endCount rfl rfl rfl (by decide +kernel) ⟨Nat.le_of_ble_eq_true rfl, Nat.le_of_ble_eq_true rfl⟩) 2 1 rfl rfl [1] [0, 2] [0, 2, 1] rfl rfl rfl rfl (by decide) rfl rfl hl.1 (Nat.le_of_ble_eq_true rfl) dX4_isWhole_22 ⟨Nat.le_of_ble_eq_true rfl, Nat.le_of_ble_eq_true rfl⟩ (fun H locs hP hD hS => ?_)
      refine lv_istore_n (lv' := [(2, .int r_1), (0, .ref a_this), (1, .ref a_p1)]) hx hb dX4_isWhole_25 rfl hl (by decide) rfl (fun ls hl => ?_)
      refine lv_iconst (v := 0) hx hb dX4_isWhole_26 (by decide) ?_
      refine lv_istore_n (lv' := [(3, .int 0), (2, .int r_1), (0, .ref a_this), (1, .ref a_p1)]) hx hb dX4_isWhole_27 rfl hl (by decide) rfl (fun ls hl => ?_)
      have hL_1 : ∀ (n : Nat) (v3_1 : Int32) (H : Heap) (locs : List Loc) (ls : Array Slot), it1 (kX4_isWhole_L1 r_1 f_p1_arcs i_p1_crossings) n v3_1 = some r → va_P D vwCl [(a_this, .inr (3, [.int i_insideStatement, .int i_arcsDue])), (a_p1, .inr (2, [.int i_p1_crossings, .int i_p1_circles, .ref a_p1_arcs])), (a_p1_arcs, .inl (cyI, 32, .inl f_p1_arcs))] H → va_D A [(a_this, .inr (3, [.int i_insideStatement, .int i_arcsDue])), (a_p1, .inr (2, [.int i_p1_crossings, .int i_p1_circles, .ref a_p1_arcs])), (a_p1_arcs, .inl (cyI, 32, .inl f_p1_arcs))] → va_S A s.heap H locs → lv_has ls 4 [(1, .ref a_p1), (2, .int r_1), (3, .int v3_1)] → W p l e (headSpec wsX4_isWhole rmX4_isWhole).room s m (([.ref a_this, .ref a_p1] : List Value).toArray) below meth c H locs 0 0 (MQ below (kQi D cyI cyZ A [(a_this, .inr (3, [.int i_insideStatement, .int i_arcsDue])), (a_p1, .inr (2, [.int i_p1_crossings, .int i_p1_circles, .ref a_p1_arcs])), (a_p1_arcs, .inl (cyI, 32, .inl f_p1_arcs))] r) (([.ref a_this, .ref a_p1] : List Value).toArray) s 0 0 A) (F0 m 28 ls []) := by
        intro n_1
        induction n_1 with
        | zero =>
          intro _ _ _ _ hf
          exact (it1_z hf).elim
        | succ n_1 ih_1 =>
          intro v3_1 H locs ls hf hP hD hS hl
          replace hf := it1_s hf
          rw [kX4_isWhole_L1] at hf
          refine lv_iload_n hx hb dX4_isWhole_28 rfl (lv_at hl 2 rfl) ?_
          refine lv_iload_n hx hb dX4_isWhole_29 rfl (lv_at hl 1 rfl) ?_
          refine lv_icmp_ge (tgt := 54) hx hb dX4_isWhole_30 (by decide) (fun c_5 => ?_) (fun c_5 => ?_)
          · replace hf := kt_p hf c_5
            refine lv_iconst (v := 1) hx hb dX4_isWhole_54 (by decide) ?_
            obtain rfl := some1_s hf
            exact kRz hx hb hr hlocks hP hK hD hS zn1 rfl dX4_isWhole_55
          · replace hf := kt_n hf c_5
            refine lv_aload_n hx hb dX4_isWhole_33 rfl (lv_at hl 0 rfl) ?_
            refine lv_aload_n hx hb dX4_isWhole_34 rfl (lv_at hl 0 rfl) ?_
            refine lv_iload_n hx hb dX4_isWhole_35 rfl (lv_at hl 2 rfl) ?_
            obtain ⟨r_2, hc_2, hf⟩ := bnd1_s hf
            refine kcVi (As := [.int v3_1]) (rest := [.ref a_p1]) (w2 := [(a_this, .inr (3, [.int i_insideStatement, .int i_arcsDue])), (a_p1, .inr (2, [.int i_p1_crossings, .int i_p1_circles, .ref a_p1_arcs])), (a_p1_arcs, .inl (cyI, 32, .inl f_p1_arcs))]) S hK hP hD hS hA hN (mX2_arc l D cyI cyZ H.size a_p1 a_p1_arcs v3_1 i_p1_crossings i_p1_circles f_p1_arcs r_2 hc_2) (cwV 1 hts gX4_isWhole_X2_arc rfl rfl rfl (by decide +kernel) ⟨Nat.le_of_ble_eq_true rfl, Nat.le_of_ble_eq_true rfl⟩) 2 1 rfl rfl [1, 2] [0] [0, 1, 2] rfl rfl rfl rfl (by decide) rfl rfl hl.1 (Nat.le_of_ble_eq_true rfl) dX4_isWhole_36 ⟨Nat.le_of_ble_eq_true rfl, Nat.le_of_ble_eq_true rfl⟩ (fun H locs hP hD hS => ?_)
            obtain ⟨r_3, hc_3, hf⟩ := bnd1_s hf
            refine kcVi (As := [.int r_2]) (rest := []) (w2 := [(a_this, .inr (3, [.int i_insideStatement, .int i_arcsDue])), (a_p1, .inr (2, [.int i_p1_crossings, .int i_p1_circles, .ref a_p1_arcs])), (a_p1_arcs, .inl (cyI, 32, .inl f_p1_arcs))]) S hK hP hD hS hA hN (mX2_occurrences l D cyI cyZ H.size a_p1 a_p1_arcs r_2 i_p1_crossings i_p1_circles f_p1_arcs r_3 hc_3) (cwV 1 hts gX4_isWhole_X2_occurrences rfl rfl rfl (by decide +kernel) ⟨Nat.le_of_ble_eq_true rfl, Nat.le_of_ble_eq_true rfl⟩) 2 1 rfl rfl [1, 2] [0] [0, 1, 2] rfl rfl rfl rfl (by decide) rfl rfl hl.1 (Nat.le_of_ble_eq_true rfl) dX4_isWhole_39 ⟨Nat.le_of_ble_eq_true rfl, Nat.le_of_ble_eq_true rfl⟩ (fun H locs hP hD hS => ?_)
            refine lv_iconst (v := 2) hx hb dX4_isWhole_42 (by decide) ?_
            refine lv_icmp_eq (tgt := 48) hx hb dX4_isWhole_43 (by decide) (fun c_4 => ?_) (fun c_4 => ?_)
            · replace hf := kt_p hf c_4
              refine lv_iinc (v := (v3_1 + 1)) (lv' := [(3, .int (v3_1 + 1)), (1, .ref a_p1), (2, .int r_1)]) hx hb dX4_isWhole_48 hl (k := 2) rfl rfl (by decide) rfl (fun ls hl => ?_)
              refine lv_goto (tgt := 28) hx hb dX4_isWhole_51 (by decide) ?_
              exact ih_1 (v3_1 + 1) H locs ls hf hP hD hS (lv_sub hl [1, 2, 0] rfl)
            · replace hf := kt_n hf c_4
              refine lv_iconst (v := 0) hx hb dX4_isWhole_46 (by decide) ?_
              obtain rfl := some1_s hf
              exact kRz hx hb hr hlocks hP hK hD hS zn0 rfl dX4_isWhole_47
      exact hL_1 400 0 H locs ls hf hP hD hS (lv_sub hl [3, 1, 0] rfl)
    · replace hf := kt_p hf c_6
      refine lv_iconst (v := 0) hx hb dX4_isWhole_19 (by decide) ?_
      obtain rfl := some1_s hf
      exact kRz hx hb hr hlocks hP hK hD hS zn0 rfl dX4_isWhole_20
def kX4_read_L1 (i_p1_length : Int32) (f_p1_characters : Nat → Int32) (K_1 : Int32 → Int32 → Int32 → Int32 → Int32 → (Nat → Int32) → Option (Int32 × Int32 × Int32 × Int32 × Int32 × (Nat → Int32))) (v4_1 : Int32) (i_insideStatement_1 : Int32) (i_arcsDue_1 : Int32) (i_p2_crossings_1 : Int32) (i_p2_circles_1 : Int32) (f_p2_arcs_1 : Nat → Int32) : Option (Int32 × Int32 × Int32 × Int32 × Int32 × (Nat → Int32)) :=
  if i_p1_length ≤ v4_1 then bnd1 (kX4_isWhole i_insideStatement_1 i_p2_crossings_1 i_p2_circles_1 f_p2_arcs_1) (fun r_2 => if r_2 = 0 then some (i_p1_length, i_insideStatement_1, i_arcsDue_1, i_p2_crossings_1, i_p2_circles_1, f_p2_arcs_1) else some ((-1), i_insideStatement_1, i_arcsDue_1, i_p2_crossings_1, i_p2_circles_1, f_p2_arcs_1)) else bnd1 (kX8_startsToken v4_1 i_p1_length f_p1_characters) (fun r_4 => if r_4 = 0 then K_1 (v4_1 + 1) i_insideStatement_1 i_arcsDue_1 i_p2_crossings_1 i_p2_circles_1 f_p2_arcs_1 else bnd6 (kX4_takeToken v4_1 i_insideStatement_1 i_arcsDue_1 i_p1_length f_p1_characters i_p2_crossings_1 i_p2_circles_1 f_p2_arcs_1) (fun r_5 o_insideStatement_5 o_arcsDue_5 o_p3_crossings_5 o_p3_circles_5 o_p3_arcs_5 => if r_5 = 0 then some (v4_1, o_insideStatement_5, o_arcsDue_5, o_p3_crossings_5, o_p3_circles_5, o_p3_arcs_5) else K_1 (v4_1 + 1) o_insideStatement_5 o_arcsDue_5 o_p3_crossings_5 o_p3_circles_5 o_p3_arcs_5))
def kX4_read (i_insideStatement : Int32) (i_arcsDue : Int32) (i_p1_length : Int32) (f_p1_characters : Nat → Int32) (i_p2_crossings : Int32) (i_p2_circles : Int32) (f_p2_arcs : Nat → Int32) : Option (Int32 × Int32 × Int32 × Int32 × Int32 × (Nat → Int32)) :=
  bnd3 (kX2_clear i_p2_crossings i_p2_circles f_p2_arcs) (fun o_crossings_1 o_circles_1 o_arcs_1 => it6 (kX4_read_L1 i_p1_length f_p1_characters) 400 0 0 0 o_crossings_1 o_circles_1 o_arcs_1)
def rmX4_read : Room := { frames := 4, cells := 0, slots := 0, locals := 90 }
theorem qX4_read_0 : (.fieldLink RX4 14 "KnotDiagram$Reader" "insideStatement" "Z" : Cond) ∈ wsX4_read := by decide +kernel
theorem qX4_read_1 : (.fieldLink RX4 20 "KnotDiagram$Reader" "arcsDue" "I" : Cond) ∈ wsX4_read := by decide +kernel
theorem qX4_read_2 : (.fieldLink RX4 24 "KnotDiagram$Text" "length" "I" : Cond) ∈ wsX4_read := by decide +kernel
theorem qX4_read_X4 : ∀ w ∈ wsX40, w ∈ wsX4_read := by decide +kernel
theorem qX4_read_X8 : ∀ w ∈ wsX80, w ∈ wsX4_read := by decide +kernel
set_option maxHeartbeats 4000000 in
set_option maxRecDepth 100000 in
theorem mX4_read (l : Launch) (D : va_G) (cyI cyZ : ClassId) (sz : Nat) (a_this a_p1 a_p2 a_p1_characters a_p2_arcs : Nat) (i_insideStatement : Int32) (i_arcsDue : Int32) (i_p1_length : Int32) (f_p1_characters : Nat → Int32) (i_p2_crossings : Int32) (i_p2_circles : Int32) (f_p2_arcs : Nat → Int32) (r : Int32) (o_insideStatement : Int32) (o_arcsDue : Int32) (o_p2_crossings : Int32) (o_p2_circles : Int32) (o_p2_arcs : Nat → Int32) (hf : kX4_read i_insideStatement i_arcsDue i_p1_length f_p1_characters i_p2_crossings i_p2_circles f_p2_arcs = some (r, o_insideStatement, o_arcsDue, o_p2_crossings, o_p2_circles, o_p2_arcs)) : Met l yX4_read wsX4_read rmX4_read (kPre D cyI cyZ [.ref a_this, .ref a_p1, .ref a_p2] [(a_this, .inr (3, [.int i_insideStatement, .int i_arcsDue])), (a_p1, .inr (5, [.ref a_p1_characters, .int i_p1_length])), (a_p1_characters, .inl (cyI, 160, .inl f_p1_characters)), (a_p2, .inr (2, [.int i_p2_crossings, .int i_p2_circles, .ref a_p2_arcs])), (a_p2_arcs, .inl (cyI, 32, .inl f_p2_arcs))] sz) (kQi D cyI cyZ (va_A [(a_this, .inr (3, [.int i_insideStatement, .int i_arcsDue])), (a_p1, .inr (5, [.ref a_p1_characters, .int i_p1_length])), (a_p1_characters, .inl (cyI, 160, .inl f_p1_characters)), (a_p2, .inr (2, [.int i_p2_crossings, .int i_p2_circles, .ref a_p2_arcs])), (a_p2_arcs, .inl (cyI, 32, .inl f_p2_arcs))] sz) [(a_this, .inr (3, [.int o_insideStatement, .int o_arcsDue])), (a_p1, .inr (5, [.ref a_p1_characters, .int i_p1_length])), (a_p1_characters, .inl (cyI, 160, .inl f_p1_characters)), (a_p2, .inr (2, [.int o_p2_crossings, .int o_p2_circles, .ref a_p2_arcs])), (a_p2_arcs, .inl (cyI, 32, .inl o_p2_arcs))] r) 0 0 (va_A [(a_this, .inr (3, [.int i_insideStatement, .int i_arcsDue])), (a_p1, .inr (5, [.ref a_p1_characters, .int i_p1_length])), (a_p1_characters, .inl (cyI, 160, .inl f_p1_characters)), (a_p2, .inr (2, [.int i_p2_crossings, .int i_p2_circles, .ref a_p2_arcs])), (a_p2_arcs, .inl (cyI, 32, .inl f_p2_arcs))] sz) := by
  refine Met.ofW (cc := cX4_read) (maxL := 5) (ret := (some .int)) (by decide) rfl ?_
  intro p e s m args below meth c s₁ B hml hv
  obtain ⟨rfl, hsz, hP, hK, hD0, hN⟩ := hv
  have hx := B.exec
  have hb := B.bytes
  have hr := B.returns
  have hts := atoms_spec (ws := wsX4_read) B.pre
  have hown : s.vm.findClass RX4 = some m.cls := findClass_of_methodNamed B.named
  have hlocks := B.notSynchronized
  subst hsz
  have hD := hD0.self (sz := s.heap.size)
  generalize hAe : va_A [(a_this, .inr (3, [.int i_insideStatement, .int i_arcsDue])), (a_p1, .inr (5, [.ref a_p1_characters, .int i_p1_length])), (a_p1_characters, .inl (cyI, 160, .inl f_p1_characters)), (a_p2, .inr (2, [.int i_p2_crossings, .int i_p2_circles, .ref a_p2_arcs])), (a_p2_arcs, .inl (cyI, 32, .inl f_p2_arcs))] s.heap.size = A at hD ⊢
  have hA : ∀ q : Nat, s.heap.size ≤ q → A q := fun q h => by rw [← hAe]; exact Or.inr h
  clear hAe hD0
  have hS : va_S A s.heap s.heap [] := va_S.rf
  have S : CallFix p m c cX4_read 5 s (([.ref a_this, .ref a_p1, .ref a_p2] : List Value).toArray) wsX4_read RX4 := ⟨hx, hb, hml, hown, hts⟩
  have hl := lv_entry ([.ref a_this, .ref a_p1, .ref a_p2]) (n := 5) (Nat.le_of_ble_eq_true rfl)
  rw [lg_entry_eq]
  generalize (lg_sl ([.ref a_this, .ref a_p1, .ref a_p2]) ++ List.replicate (5 - (lg_sl ([.ref a_this, .ref a_p1, .ref a_p2])).length) Slot.unset).toArray = ls at hl ⊢
  replace hl : lv_has ls 5 [(0, .ref a_this), (1, .ref a_p1), (2, .ref a_p2)] := hl
  generalize ([] : List Loc) = locs at hS ⊢
  delta kX4_read at hf
  obtain ⟨H, hH⟩ : ∃ H, H = s.heap := ⟨_, rfl⟩
  have hS : va_S A s.heap H locs := by rw [hH]; exact hS
  have hP : va_P D vwCl [(a_this, .inr (3, [.int i_insideStatement, .int i_arcsDue])), (a_p1, .inr (5, [.ref a_p1_characters, .int i_p1_length])), (a_p1_characters, .inl (cyI, 160, .inl f_p1_characters)), (a_p2, .inr (2, [.int i_p2_crossings, .int i_p2_circles, .ref a_p2_arcs])), (a_p2_arcs, .inl (cyI, 32, .inl f_p2_arcs))] H := by rw [hH]; exact hP
  suffices hgo : W p l e (headSpec wsX4_read rmX4_read).room s m (([.ref a_this, .ref a_p1, .ref a_p2] : List Value).toArray) below meth c H locs 0 0 (MQ below (kQi D cyI cyZ A [(a_this, .inr (3, [.int o_insideStatement, .int o_arcsDue])), (a_p1, .inr (5, [.ref a_p1_characters, .int i_p1_length])), (a_p1_characters, .inl (cyI, 160, .inl f_p1_characters)), (a_p2, .inr (2, [.int o_p2_crossings, .int o_p2_circles, .ref a_p2_arcs])), (a_p2_arcs, .inl (cyI, 32, .inl o_p2_arcs))] r) (([.ref a_this, .ref a_p1, .ref a_p2] : List Value).toArray) s 0 0 A) (F0 m 0 ls []) by rw [hH] at hgo; exact hgo
  clear hH
  refine lv_aload_n hx hb dX4_read_0 rfl (lv_at hl 2 rfl) ?_
  obtain ⟨o_crossings_1, o_circles_1, o_arcs_1, hc_1, hf⟩ := bnd3_s hf
  refine kcVv (As := []) (rest := []) (w2 := [(a_this, .inr (3, [.int i_insideStatement, .int i_arcsDue])), (a_p1, .inr (5, [.ref a_p1_characters, .int i_p1_length])), (a_p1_characters, .inl (cyI, 160, .inl f_p1_characters)), (a_p2, .inr (2, [.int o_crossings_1, .int o_circles_1, .ref a_p2_arcs])), (a_p2_arcs, .inl (cyI, 32, .inl o_arcs_1))]) S hK hP hD hS hA hN (mX2_clear l D cyI cyZ H.size a_p2 a_p2_arcs i_p2_crossings i_p2_circles f_p2_arcs o_crossings_1 o_circles_1 o_arcs_1 hc_1) (cwV 0 hts gX4_read_X2_clear rfl rfl rfl (by decide +kernel) ⟨Nat.le_of_ble_eq_true rfl, Nat.le_of_ble_eq_true rfl⟩) 2 3 rfl rfl [3, 4] [0, 1, 2] [0, 1, 2, 3, 4] rfl rfl rfl rfl (by decide) rfl rfl hl.1 (Nat.le_of_ble_eq_true rfl) dX4_read_1 ⟨Nat.le_of_ble_eq_true rfl, Nat.le_of_ble_eq_true rfl⟩ (fun H locs hP hD hS => ?_)
  refine lv_aload_n hx hb dX4_read_4 rfl (lv_at hl 0 rfl) ?_
  refine lv_iconst (v := 0) hx hb dX4_read_5 (by decide) ?_
  refine va_put (D := D) (ci := 3) (v := .int 0) (ty := .boolean) (C := RX4) (T := TX4) (N := 2) hx hb hts qX4_read_X4 tyX4 tyX4_ok nmX4 hown hK hP hD hS 0 rfl rfl 0 (Nat.le_of_ble_eq_true rfl) (hts (.fieldLink RX4 14 "KnotDiagram$Reader" "insideStatement" "Z") qX4_read_0) (fun _ h9 => h9) rfl (by decide +kernel) rfl rfl (Nat.le_of_ble_eq_true rfl) dX4_read_6 (fun H locs hP hD hS => ?_)
  replace hP : va_P D vwCl [(a_this, .inr (3, [.int 0, .int i_arcsDue])), (a_p1, .inr (5, [.ref a_p1_characters, .int i_p1_length])), (a_p1_characters, .inl (cyI, 160, .inl f_p1_characters)), (a_p2, .inr (2, [.int o_crossings_1, .int o_circles_1, .ref a_p2_arcs])), (a_p2_arcs, .inl (cyI, 32, .inl o_arcs_1))] H := hP
  replace hD : va_D A [(a_this, .inr (3, [.int 0, .int i_arcsDue])), (a_p1, .inr (5, [.ref a_p1_characters, .int i_p1_length])), (a_p1_characters, .inl (cyI, 160, .inl f_p1_characters)), (a_p2, .inr (2, [.int o_crossings_1, .int o_circles_1, .ref a_p2_arcs])), (a_p2_arcs, .inl (cyI, 32, .inl o_arcs_1))] := hD
  refine lv_aload_n hx hb dX4_read_9 rfl (lv_at hl 0 rfl) ?_
  refine lv_iconst (v := 0) hx hb dX4_read_10 (by decide) ?_
  refine va_put (D := D) (ci := 3) (v := .int 0) (ty := .int) (C := RX4) (T := TX4) (N := 2) hx hb hts qX4_read_X4 tyX4 tyX4_ok nmX4 hown hK hP hD hS 0 rfl rfl 1 (Nat.le_of_ble_eq_true rfl) (hts (.fieldLink RX4 20 "KnotDiagram$Reader" "arcsDue" "I") qX4_read_1) (fun _ h9 => h9) rfl (by decide +kernel) rfl rfl (Nat.le_of_ble_eq_true rfl) dX4_read_11 (fun H locs hP hD hS => ?_)
  replace hP : va_P D vwCl [(a_this, .inr (3, [.int 0, .int 0])), (a_p1, .inr (5, [.ref a_p1_characters, .int i_p1_length])), (a_p1_characters, .inl (cyI, 160, .inl f_p1_characters)), (a_p2, .inr (2, [.int o_crossings_1, .int o_circles_1, .ref a_p2_arcs])), (a_p2_arcs, .inl (cyI, 32, .inl o_arcs_1))] H := hP
  replace hD : va_D A [(a_this, .inr (3, [.int 0, .int 0])), (a_p1, .inr (5, [.ref a_p1_characters, .int i_p1_length])), (a_p1_characters, .inl (cyI, 160, .inl f_p1_characters)), (a_p2, .inr (2, [.int o_crossings_1, .int o_circles_1, .ref a_p2_arcs])), (a_p2_arcs, .inl (cyI, 32, .inl o_arcs_1))] := hD
  refine lv_aload_n hx hb dX4_read_14 rfl (lv_at hl 1 rfl) ?_
  refine va_get (D := D) (ci := 5) (v := .int i_p1_length) (C := RX8) (T := TX8) (N := 2) hx hb hts qX4_read_X8 hown hK hP 1 rfl rfl 1 (Nat.le_of_ble_eq_true rfl) (hts (.fieldLink RX4 24 "KnotDiagram$Text" "length" "I") qX4_read_2) (fun _ h9 => h9) rfl dX4_read_15 ?_
  refine lv_istore_n (lv' := [(3, .int i_p1_length), (0, .ref a_this), (1, .ref a_p1), (2, .ref a_p2)]) hx hb dX4_read_18 rfl hl (by decide) rfl (fun ls hl => ?_)
  refine lv_iconst (v := 0) hx hb dX4_read_19 (by decide) ?_
  refine lv_istore (lv' := [(4, .int 0), (3, .int i_p1_length), (0, .ref a_this), (1, .ref a_p1), (2, .ref a_p2)]) hx hb dX4_read_20 hl (by decide) rfl (fun ls hl => ?_)
  have hL_1 : ∀ (n : Nat) (v4_1 : Int32) (i_insideStatement_1 : Int32) (i_arcsDue_1 : Int32) (i_p2_crossings_1 : Int32) (i_p2_circles_1 : Int32) (f_p2_arcs_1 : Nat → Int32) (H : Heap) (locs : List Loc) (ls : Array Slot), it6 (kX4_read_L1 i_p1_length f_p1_characters) n v4_1 i_insideStatement_1 i_arcsDue_1 i_p2_crossings_1 i_p2_circles_1 f_p2_arcs_1 = some (r, o_insideStatement, o_arcsDue, o_p2_crossings, o_p2_circles, o_p2_arcs) → va_P D vwCl [(a_this, .inr (3, [.int i_insideStatement_1, .int i_arcsDue_1])), (a_p1, .inr (5, [.ref a_p1_characters, .int i_p1_length])), (a_p1_characters, .inl (cyI, 160, .inl f_p1_characters)), (a_p2, .inr (2, [.int i_p2_crossings_1, .int i_p2_circles_1, .ref a_p2_arcs])), (a_p2_arcs, .inl (cyI, 32, .inl f_p2_arcs_1))] H → va_D A [(a_this, .inr (3, [.int i_insideStatement_1, .int i_arcsDue_1])), (a_p1, .inr (5, [.ref a_p1_characters, .int i_p1_length])), (a_p1_characters, .inl (cyI, 160, .inl f_p1_characters)), (a_p2, .inr (2, [.int i_p2_crossings_1, .int i_p2_circles_1, .ref a_p2_arcs])), (a_p2_arcs, .inl (cyI, 32, .inl f_p2_arcs_1))] → va_S A s.heap H locs → lv_has ls 5 [(0, .ref a_this), (1, .ref a_p1), (2, .ref a_p2), (3, .int i_p1_length), (4, .int v4_1)] → W p l e (headSpec wsX4_read rmX4_read).room s m (([.ref a_this, .ref a_p1, .ref a_p2] : List Value).toArray) below meth c H locs 0 0 (MQ below (kQi D cyI cyZ A [(a_this, .inr (3, [.int o_insideStatement, .int o_arcsDue])), (a_p1, .inr (5, [.ref a_p1_characters, .int i_p1_length])), (a_p1_characters, .inl (cyI, 160, .inl f_p1_characters)), (a_p2, .inr (2, [.int o_p2_crossings, .int o_p2_circles, .ref a_p2_arcs])), (a_p2_arcs, .inl (cyI, 32, .inl o_p2_arcs))] r) (([.ref a_this, .ref a_p1, .ref a_p2] : List Value).toArray) s 0 0 A) (F0 m 22 ls []) := by
    intro n_1
    induction n_1 with
    | zero =>
      intro _ _ _ _ _ _ _ _ _ hf
      exact (it6_z hf).elim
    | succ n_1 ih_1 =>
      intro v4_1 i_insideStatement_1 i_arcsDue_1 i_p2_crossings_1 i_p2_circles_1 f_p2_arcs_1 H locs ls hf hP hD hS hl
      replace hf := it6_s hf
      rw [kX4_read_L1] at hf
      refine lv_iload hx hb dX4_read_22 (lv_at hl 4 rfl) ?_
      refine lv_iload_n hx hb dX4_read_24 rfl (lv_at hl 3 rfl) ?_
      refine lv_icmp_ge (tgt := 57) hx hb dX4_read_25 (by decide) (fun c_8 => ?_) (fun c_8 => ?_)
      · replace hf := kt_p hf c_8
        refine lv_aload_n hx hb dX4_read_57 rfl (lv_at hl 0 rfl) ?_
        refine lv_aload_n hx hb dX4_read_58 rfl (lv_at hl 2 rfl) ?_
        obtain ⟨r_2, hc_2, hf⟩ := bnd1_s hf
        refine kcVi (As := [.ref a_p2]) (rest := []) (w2 := [(a_this, .inr (3, [.int i_insideStatement_1, .int i_arcsDue_1])), (a_p1, .inr (5, [.ref a_p1_characters, .int i_p1_length])), (a_p1_characters, .inl (cyI, 160, .inl f_p1_characters)), (a_p2, .inr (2, [.int i_p2_crossings_1, .int i_p2_circles_1, .ref a_p2_arcs])), (a_p2_arcs, .inl (cyI, 32, .inl f_p2_arcs_1))]) S hK hP hD hS hA hN (mX4_isWhole l D cyI cyZ H.size a_this a_p2 a_p2_arcs i_insideStatement_1 i_arcsDue_1 i_p2_crossings_1 i_p2_circles_1 f_p2_arcs_1 r_2 hc_2) (cwV 1 hts gX4_read_X4_isWhole rfl rfl rfl (by decide +kernel) ⟨Nat.le_of_ble_eq_true rfl, Nat.le_of_ble_eq_true rfl⟩) 3 0 rfl rfl [0, 3, 4] [1, 2] [2, 0, 1, 3, 4] rfl rfl rfl rfl (by decide) rfl rfl hl.1 (Nat.le_of_ble_eq_true rfl) dX4_read_59 ⟨Nat.le_of_ble_eq_true rfl, Nat.le_of_ble_eq_true rfl⟩ (fun H locs hP hD hS => ?_)
        refine lv_if_eq (tgt := 69) hx hb dX4_read_62 (by decide) (fun c_3 => ?_) (fun c_3 => ?_)
        · replace hf := kt_p hf c_3
          refine lv_aload_n hx hb dX4_read_69 rfl (lv_at hl 1 rfl) ?_
          refine va_get (D := D) (ci := 5) (v := .int i_p1_length) (C := RX8) (T := TX8) (N := 2) hx hb hts qX4_read_X8 hown hK hP 1 rfl rfl 1 (Nat.le_of_ble_eq_true rfl) (hts (.fieldLink RX4 24 "KnotDiagram$Text" "length" "I") qX4_read_2) (fun _ h9 => h9) rfl dX4_read_70 ?_
          obtain ⟨rfl, rfl, rfl, rfl, rfl, rfl⟩ := some6_s hf
          exact kRi hx hb hr hlocks hP hK hD hS rfl dX4_read_73
        · replace hf := kt_n hf c_3
          refine lv_iconst (v := (-1)) hx hb dX4_read_65 (by decide) ?_
          refine lv_goto (tgt := 73) hx hb dX4_read_66 (by decide) ?_
          obtain ⟨rfl, rfl, rfl, rfl, rfl, rfl⟩ := some6_s hf
          exact kRi hx hb hr hlocks hP hK hD hS rfl dX4_read_73
      · replace hf := kt_n hf c_8
        refine lv_aload_n hx hb dX4_read_28 rfl (lv_at hl 1 rfl) ?_
        refine lv_iload hx hb dX4_read_29 (lv_at hl 4 rfl) ?_
        obtain ⟨r_4, hc_4, hf⟩ := bnd1_s hf
        refine kcVi (As := [.int v4_1]) (rest := []) (w2 := [(a_this, .inr (3, [.int i_insideStatement_1, .int i_arcsDue_1])), (a_p1, .inr (5, [.ref a_p1_characters, .int i_p1_length])), (a_p1_characters, .inl (cyI, 160, .inl f_p1_characters)), (a_p2, .inr (2, [.int i_p2_crossings_1, .int i_p2_circles_1, .ref a_p2_arcs])), (a_p2_arcs, .inl (cyI, 32, .inl f_p2_arcs_1))]) S hK hP hD hS hA hN (mX8_startsToken l D cyI cyZ H.size a_p1 a_p1_characters v4_1 i_p1_length f_p1_characters r_4 hc_4) (cwV 1 hts gX4_read_X8_startsToken rfl rfl rfl (by decide +kernel) ⟨Nat.le_of_ble_eq_true rfl, Nat.le_of_ble_eq_true rfl⟩) 5 1 rfl rfl [1, 2] [0, 3, 4] [0, 3, 4, 1, 2] rfl rfl rfl rfl (by decide) rfl rfl hl.1 (Nat.le_of_ble_eq_true rfl) dX4_read_31 ⟨Nat.le_of_ble_eq_true rfl, Nat.le_of_ble_eq_true rfl⟩ (fun H locs hP hD hS => ?_)
        refine lv_if_eq (tgt := 51) hx hb dX4_read_34 (by decide) (fun c_7 => ?_) (fun c_7 => ?_)
        · replace hf := kt_p hf c_7
          refine lv_iinc (v := (v4_1 + 1)) (lv' := [(4, .int (v4_1 + 1)), (0, .ref a_this), (1, .ref a_p1), (2, .ref a_p2), (3, .int i_p1_length)]) hx hb dX4_read_51 hl (k := 4) rfl rfl (by decide) rfl (fun ls hl => ?_)
          refine lv_goto (tgt := 22) hx hb dX4_read_54 (by decide) ?_
          exact ih_1 (v4_1 + 1) i_insideStatement_1 i_arcsDue_1 i_p2_crossings_1 i_p2_circles_1 f_p2_arcs_1 H locs ls hf hP hD hS (lv_sub hl [1, 2, 3, 4, 0] rfl)
        · replace hf := kt_n hf c_7
          refine lv_aload_n hx hb dX4_read_37 rfl (lv_at hl 0 rfl) ?_
          refine lv_aload_n hx hb dX4_read_38 rfl (lv_at hl 1 rfl) ?_
          refine lv_iload hx hb dX4_read_39 (lv_at hl 4 rfl) ?_
          refine lv_aload_n hx hb dX4_read_41 rfl (lv_at hl 2 rfl) ?_
          obtain ⟨r_5, o_insideStatement_5, o_arcsDue_5, o_p3_crossings_5, o_p3_circles_5, o_p3_arcs_5, hc_5, hf⟩ := bnd6_s hf
          refine kcVi (As := [.ref a_p1, .int v4_1, .ref a_p2]) (rest := []) (w2 := [(a_this, .inr (3, [.int o_insideStatement_5, .int o_arcsDue_5])), (a_p1, .inr (5, [.ref a_p1_characters, .int i_p1_length])), (a_p1_characters, .inl (cyI, 160, .inl f_p1_characters)), (a_p2, .inr (2, [.int o_p3_crossings_5, .int o_p3_circles_5, .ref a_p2_arcs])), (a_p2_arcs, .inl (cyI, 32, .inl o_p3_arcs_5))]) S hK hP hD hS hA hN (mX4_takeToken l D cyI cyZ H.size a_this a_p1 a_p2 a_p1_characters a_p2_arcs v4_1 i_insideStatement_1 i_arcsDue_1 i_p1_length f_p1_characters i_p2_crossings_1 i_p2_circles_1 f_p2_arcs_1 r_5 o_insideStatement_5 o_arcsDue_5 o_p3_crossings_5 o_p3_circles_5 o_p3_arcs_5 hc_5) (cwV 3 hts gX4_read_X4_takeToken rfl rfl rfl (by decide +kernel) ⟨Nat.le_of_ble_eq_true rfl, Nat.le_of_ble_eq_true rfl⟩) 3 0 rfl rfl [0, 1, 2, 3, 4] [] [0, 1, 2, 3, 4] rfl rfl rfl rfl (by decide) rfl rfl hl.1 (Nat.le_of_ble_eq_true rfl) dX4_read_42 ⟨Nat.le_of_ble_eq_true rfl, Nat.le_of_ble_eq_true rfl⟩ (fun H locs hP hD hS => ?_)
          refine lv_if_ne (tgt := 51) hx hb dX4_read_45 (by decide) (fun c_6 => ?_) (fun c_6 => ?_)
          · replace hf := kt_n hf c_6
            refine lv_iinc (v := (v4_1 + 1)) (lv' := [(4, .int (v4_1 + 1)), (0, .ref a_this), (1, .ref a_p1), (2, .ref a_p2), (3, .int i_p1_length)]) hx hb dX4_read_51 hl (k := 4) rfl rfl (by decide) rfl (fun ls hl => ?_)
            refine lv_goto (tgt := 22) hx hb dX4_read_54 (by decide) ?_
            exact ih_1 (v4_1 + 1) o_insideStatement_5 o_arcsDue_5 o_p3_crossings_5 o_p3_circles_5 o_p3_arcs_5 H locs ls hf hP hD hS (lv_sub hl [1, 2, 3, 4, 0] rfl)
          · replace hf := kt_p hf c_6
            refine lv_iload hx hb dX4_read_48 (lv_at hl 4 rfl) ?_
            obtain ⟨rfl, rfl, rfl, rfl, rfl, rfl⟩ := some6_s hf
            exact kRi hx hb hr hlocks hP hK hD hS rfl dX4_read_50
  exact hL_1 400 0 0 0 o_crossings_1 o_circles_1 o_arcs_1 H locs ls hf hP hD hS (lv_sub hl [2, 3, 4, 1, 0] rfl)
def kX5_partOf_L2 (r_2 : Int32) (K_1 : Int32 → Int32 → Option (Int32)) (v5_1 : Int32) (i_p0_crossings : Int32) (f_p0_arcs : Nat → Int32) (K_2 : Int32 → Int32 → Option (Int32)) (v2_2 : Int32) (v6_2 : Int32) : Option (Int32) :=
  if r_2 ≤ v6_2 then K_1 v2_2 (v5_1 + 1) else bnd1 (kX9_contains v2_2 (ishr v6_2 2)) (fun r_3 => if r_3 = 0 then K_2 v2_2 (v6_2 + 1) else bnd1 (kX2_otherEnd v6_2 i_p0_crossings f_p0_arcs) (fun r_4 => bnd1 (kX9_bit (ishr r_4 2)) (fun r_5 => K_2 (v2_2 ||| r_5) (v6_2 + 1))))
def kX5_partOf_L1 (i_p0_crossings : Int32) (r_2 : Int32) (f_p0_arcs : Nat → Int32) (K_1 : Int32 → Int32 → Option (Int32)) (v2_1 : Int32) (v5_1 : Int32) : Option (Int32) :=
  if i_p0_crossings ≤ v5_1 then some v2_1 else it2 (kX5_partOf_L2 r_2 K_1 v5_1 i_p0_crossings f_p0_arcs) 400 v2_1 0
def kX5_partOf (v1 : Int32) (i_p0_crossings : Int32) (f_p0_arcs : Nat → Int32) : Option (Int32) :=
  bnd1 (kX9_bit v1) (fun r_1 => bnd1 (kX2_endCount i_p0_crossings) (fun r_2 => it2 (kX5_partOf_L1 i_p0_crossings r_2 f_p0_arcs) 400 r_1 1))
def rmX5_partOf : Room := { frames := 2, cells := 0, slots := 0, locals := 45 }
theorem qX5_partOf_0 : (.initialized RX9 : Cond) ∈ wsX5_partOf := by decide +kernel
theorem qX5_partOf_1 : (.static yX9_bit : Cond) ∈ wsX5_partOf := by decide +kernel
theorem qX5_partOf_2 : (.fieldLink RX5 9 "KnotDiagram$Diagram" "crossings" "I" : Cond) ∈ wsX5_partOf := by decide +kernel
theorem qX5_partOf_3 : (.static yX9_contains : Cond) ∈ wsX5_partOf := by decide +kernel
theorem qX5_partOf_X2 : ∀ w ∈ wsX20, w ∈ wsX5_partOf := by decide +kernel
set_option maxHeartbeats 4000000 in
set_option maxRecDepth 100000 in
theorem mX5_partOf (l : Launch) (D : va_G) (cyI cyZ : ClassId) (sz : Nat) (a_p0 a_p0_arcs : Nat) (v1 : Int32) (i_p0_crossings : Int32) (i_p0_circles : Int32) (f_p0_arcs : Nat → Int32) (r : Int32) (hf : kX5_partOf v1 i_p0_crossings f_p0_arcs = some r) : Met l yX5_partOf wsX5_partOf rmX5_partOf (kPre D cyI cyZ [.ref a_p0, .int v1] [(a_p0, .inr (2, [.int i_p0_crossings, .int i_p0_circles, .ref a_p0_arcs])), (a_p0_arcs, .inl (cyI, 32, .inl f_p0_arcs))] sz) (kQi D cyI cyZ (va_A [(a_p0, .inr (2, [.int i_p0_crossings, .int i_p0_circles, .ref a_p0_arcs])), (a_p0_arcs, .inl (cyI, 32, .inl f_p0_arcs))] sz) [(a_p0, .inr (2, [.int i_p0_crossings, .int i_p0_circles, .ref a_p0_arcs])), (a_p0_arcs, .inl (cyI, 32, .inl f_p0_arcs))] r) 0 0 (va_A [(a_p0, .inr (2, [.int i_p0_crossings, .int i_p0_circles, .ref a_p0_arcs])), (a_p0_arcs, .inl (cyI, 32, .inl f_p0_arcs))] sz) := by
  refine Met.ofW (cc := cX5_partOf) (maxL := 7) (ret := (some .int)) (by decide) rfl ?_
  intro p e s m args below meth c s₁ B hml hv
  obtain ⟨rfl, hsz, hP, hK, hD0, hN⟩ := hv
  have hx := B.exec
  have hb := B.bytes
  have hr := B.returns
  have hts := atoms_spec (ws := wsX5_partOf) B.pre
  have hown : s.vm.findClass RX5 = some m.cls := findClass_of_methodNamed B.named
  have hlocks := B.notSynchronized
  subst hsz
  have hD := hD0.self (sz := s.heap.size)
  generalize hAe : va_A [(a_p0, .inr (2, [.int i_p0_crossings, .int i_p0_circles, .ref a_p0_arcs])), (a_p0_arcs, .inl (cyI, 32, .inl f_p0_arcs))] s.heap.size = A at hD ⊢
  have hA : ∀ q : Nat, s.heap.size ≤ q → A q := fun q h => by rw [← hAe]; exact Or.inr h
  clear hAe hD0
  have hS : va_S A s.heap s.heap [] := va_S.rf
  have S : CallFix p m c cX5_partOf 7 s (([.ref a_p0, .int v1] : List Value).toArray) wsX5_partOf RX5 := ⟨hx, hb, hml, hown, hts⟩
  have hl := lv_entry ([.ref a_p0, .int v1]) (n := 7) (Nat.le_of_ble_eq_true rfl)
  rw [lg_entry_eq]
  generalize (lg_sl ([.ref a_p0, .int v1]) ++ List.replicate (7 - (lg_sl ([.ref a_p0, .int v1])).length) Slot.unset).toArray = ls at hl ⊢
  replace hl : lv_has ls 7 [(0, .ref a_p0), (1, .int v1)] := hl
  generalize ([] : List Loc) = locs at hS ⊢
  delta kX5_partOf at hf
  obtain ⟨H, hH⟩ : ∃ H, H = s.heap := ⟨_, rfl⟩
  have hS : va_S A s.heap H locs := by rw [hH]; exact hS
  have hP : va_P D vwCl [(a_p0, .inr (2, [.int i_p0_crossings, .int i_p0_circles, .ref a_p0_arcs])), (a_p0_arcs, .inl (cyI, 32, .inl f_p0_arcs))] H := by rw [hH]; exact hP
  suffices hgo : W p l e (headSpec wsX5_partOf rmX5_partOf).room s m (([.ref a_p0, .int v1] : List Value).toArray) below meth c H locs 0 0 (MQ below (kQi D cyI cyZ A [(a_p0, .inr (2, [.int i_p0_crossings, .int i_p0_circles, .ref a_p0_arcs])), (a_p0_arcs, .inl (cyI, 32, .inl f_p0_arcs))] r) (([.ref a_p0, .int v1] : List Value).toArray) s 0 0 A) (F0 m 0 ls []) by rw [hH] at hgo; exact hgo
  clear hH
  refine lv_iload_n hx hb dX5_partOf_0 rfl (lv_at hl 1 rfl) ?_
  obtain ⟨r_1, hc_1, hf⟩ := bnd1_s hf
  refine kcNi (As := [.int v1]) (rest := []) (w2 := [(a_p0, .inr (2, [.int i_p0_crossings, .int i_p0_circles, .ref a_p0_arcs])), (a_p0_arcs, .inl (cyI, 32, .inl f_p0_arcs))]) S hK hP hD hS hA hN (mX9_bit l D cyI cyZ H.size v1 r_1 hc_1) ⟨va_cnB 1 hts gX5_partOf_X9_bit_n25 rfl rfl rfl hN.2.2.2.1 (hts (.initialized RX9) qX5_partOf_0) (by decide +kernel) ⟨Nat.le_of_ble_eq_true rfl, Nat.le_of_ble_eq_true rfl⟩, (hts (.static yX9_bit) qX5_partOf_1), trivial⟩ [] [0, 1] [0, 1] rfl rfl rfl rfl (by decide) rfl rfl hl.1 (Nat.le_of_ble_eq_true rfl) dX5_partOf_1 ⟨Nat.le_of_ble_eq_true rfl, Nat.le_of_ble_eq_true rfl⟩ (fun H locs hP hD hS => ?_)
  refine lv_istore_n (lv' := [(2, .int r_1), (0, .ref a_p0), (1, .int v1)]) hx hb dX5_partOf_4 rfl hl (by decide) rfl (fun ls hl => ?_)
  refine lv_aload_n hx hb dX5_partOf_5 rfl (lv_at hl 1 rfl) ?_
  refine va_get (D := D) (ci := 2) (v := .int i_p0_crossings) (C := RX2) (T := TX2) (N := 3) hx hb hts qX5_partOf_X2 hown hK hP 0 rfl rfl 0 (Nat.le_of_ble_eq_true rfl) (hts (.fieldLink RX5 9 "KnotDiagram$Diagram" "crossings" "I") qX5_partOf_2) (fun _ h9 => h9) rfl dX5_partOf_6 ?_
  refine lv_istore_n (lv' := [(3, .int i_p0_crossings), (2, .int r_1), (0, .ref a_p0), (1, .int v1)]) hx hb dX5_partOf_9 rfl hl (by decide) rfl (fun ls hl => ?_)
  refine lv_aload_n hx hb dX5_partOf_10 rfl (lv_at hl 2 rfl) ?_
  obtain ⟨r_2, hc_2, hf⟩ := bnd1_s hf
  refine kcVi (As := []) (rest := []) (w2 := [(a_p0, .inr (2, [.int i_p0_crossings, .int i_p0_circles, .ref a_p0_arcs])), (a_p0_arcs, .inl (cyI, 32, .inl f_p0_arcs))]) S hK hP hD hS hA hN (mX2_endCount l D cyI cyZ H.size a_p0 a_p0_arcs i_p0_crossings i_p0_circles r_2 hc_2) (cwV 0 hts gX5_partOf_X2_endCount rfl rfl rfl (by decide +kernel) ⟨Nat.le_of_ble_eq_true rfl, Nat.le_of_ble_eq_true rfl⟩) 2 0 rfl rfl [0] [1] [1, 0] rfl rfl rfl rfl (by decide) rfl rfl hl.1 (Nat.le_of_ble_eq_true rfl) dX5_partOf_11 ⟨Nat.le_of_ble_eq_true rfl, Nat.le_of_ble_eq_true rfl⟩ (fun H locs hP hD hS => ?_)
  refine lv_istore (lv' := [(4, .int r_2), (3, .int i_p0_crossings), (2, .int r_1), (0, .ref a_p0), (1, .int v1)]) hx hb dX5_partOf_14 hl (by decide) rfl (fun ls hl => ?_)
  refine lv_iconst (v := 1) hx hb dX5_partOf_16 (by decide) ?_
  refine lv_istore (lv' := [(5, .int 1), (4, .int r_2), (3, .int i_p0_crossings), (2, .int r_1), (0, .ref a_p0), (1, .int v1)]) hx hb dX5_partOf_17 hl (by decide) rfl (fun ls hl => ?_)
  have hL_1 : ∀ (n : Nat) (v2_1 : Int32) (v5_1 : Int32) (H : Heap) (locs : List Loc) (ls : Array Slot), it2 (kX5_partOf_L1 i_p0_crossings r_2 f_p0_arcs) n v2_1 v5_1 = some r → va_P D vwCl [(a_p0, .inr (2, [.int i_p0_crossings, .int i_p0_circles, .ref a_p0_arcs])), (a_p0_arcs, .inl (cyI, 32, .inl f_p0_arcs))] H → va_D A [(a_p0, .inr (2, [.int i_p0_crossings, .int i_p0_circles, .ref a_p0_arcs])), (a_p0_arcs, .inl (cyI, 32, .inl f_p0_arcs))] → va_S A s.heap H locs → lv_has ls 7 [(0, .ref a_p0), (2, .int v2_1), (3, .int i_p0_crossings), (4, .int r_2), (5, .int v5_1)] → W p l e (headSpec wsX5_partOf rmX5_partOf).room s m (([.ref a_p0, .int v1] : List Value).toArray) below meth c H locs 0 0 (MQ below (kQi D cyI cyZ A [(a_p0, .inr (2, [.int i_p0_crossings, .int i_p0_circles, .ref a_p0_arcs])), (a_p0_arcs, .inl (cyI, 32, .inl f_p0_arcs))] r) (([.ref a_p0, .int v1] : List Value).toArray) s 0 0 A) (F0 m 19 ls []) := by
    intro n_1
    induction n_1 with
    | zero =>
      intro _ _ _ _ _ hf
      exact (it2_z hf).elim
    | succ n_1 ih_1 =>
      intro v2_1 v5_1 H locs ls hf hP hD hS hl
      replace hf := it2_s hf
      rw [kX5_partOf_L1] at hf
      refine lv_iload hx hb dX5_partOf_19 (lv_at hl 4 rfl) ?_
      refine lv_iload_n hx hb dX5_partOf_21 rfl (lv_at hl 2 rfl) ?_
      refine lv_icmp_ge (tgt := 72) hx hb dX5_partOf_22 (by decide) (fun c_8 => ?_) (fun c_8 => ?_)
      · replace hf := kt_p hf c_8
        refine lv_iload_n hx hb dX5_partOf_72 rfl (lv_at hl 1 rfl) ?_
        obtain rfl := some1_s hf
        exact kRi hx hb hr hlocks hP hK hD hS rfl dX5_partOf_73
      · replace hf := kt_n hf c_8
        refine lv_iconst (v := 0) hx hb dX5_partOf_25 (by decide) ?_
        refine lv_istore (lv' := [(6, .int 0), (0, .ref a_p0), (2, .int v2_1), (3, .int i_p0_crossings), (4, .int r_2), (5, .int v5_1)]) hx hb dX5_partOf_26 hl (by decide) rfl (fun ls hl => ?_)
        have hL_2 : ∀ (n : Nat) (v2_2 : Int32) (v6_2 : Int32) (H : Heap) (locs : List Loc) (ls : Array Slot), it2 (kX5_partOf_L2 r_2 (it2 (kX5_partOf_L1 i_p0_crossings r_2 f_p0_arcs) n_1) v5_1 i_p0_crossings f_p0_arcs) n v2_2 v6_2 = some r → va_P D vwCl [(a_p0, .inr (2, [.int i_p0_crossings, .int i_p0_circles, .ref a_p0_arcs])), (a_p0_arcs, .inl (cyI, 32, .inl f_p0_arcs))] H → va_D A [(a_p0, .inr (2, [.int i_p0_crossings, .int i_p0_circles, .ref a_p0_arcs])), (a_p0_arcs, .inl (cyI, 32, .inl f_p0_arcs))] → va_S A s.heap H locs → lv_has ls 7 [(0, .ref a_p0), (2, .int v2_2), (3, .int i_p0_crossings), (4, .int r_2), (5, .int v5_1), (6, .int v6_2)] → W p l e (headSpec wsX5_partOf rmX5_partOf).room s m (([.ref a_p0, .int v1] : List Value).toArray) below meth c H locs 0 0 (MQ below (kQi D cyI cyZ A [(a_p0, .inr (2, [.int i_p0_crossings, .int i_p0_circles, .ref a_p0_arcs])), (a_p0_arcs, .inl (cyI, 32, .inl f_p0_arcs))] r) (([.ref a_p0, .int v1] : List Value).toArray) s 0 0 A) (F0 m 28 ls []) := by
          intro n_2
          induction n_2 with
          | zero =>
            intro _ _ _ _ _ hf
            exact (it2_z hf).elim
          | succ n_2 ih_2 =>
            intro v2_2 v6_2 H locs ls hf hP hD hS hl
            replace hf := it2_s hf
            rw [kX5_partOf_L2] at hf
            refine lv_iload hx hb dX5_partOf_28 (lv_at hl 5 rfl) ?_
            refine lv_iload hx hb dX5_partOf_30 (lv_at hl 3 rfl) ?_
            refine lv_icmp_ge (tgt := 66) hx hb dX5_partOf_32 (by decide) (fun c_7 => ?_) (fun c_7 => ?_)
            · replace hf := kt_p hf c_7
              refine lv_iinc (v := (v5_1 + 1)) (lv' := [(5, .int (v5_1 + 1)), (0, .ref a_p0), (2, .int v2_2), (3, .int i_p0_crossings), (4, .int r_2), (6, .int v6_2)]) hx hb dX5_partOf_66 hl (k := 4) rfl rfl (by decide) rfl (fun ls hl => ?_)
              refine lv_goto (tgt := 19) hx hb dX5_partOf_69 (by decide) ?_
              exact ih_1 v2_2 (v5_1 + 1) H locs ls hf hP hD hS (lv_sub hl [1, 2, 3, 4, 0] rfl)
            · replace hf := kt_n hf c_7
              refine lv_iload_n hx hb dX5_partOf_35 rfl (lv_at hl 1 rfl) ?_
              refine lv_iload hx hb dX5_partOf_36 (lv_at hl 5 rfl) ?_
              refine lv_iconst (v := 2) hx hb dX5_partOf_38 (by decide) ?_
              refine k_ishr hx hb dX5_partOf_39 ?_
              obtain ⟨r_3, hc_3, hf⟩ := bnd1_s hf
              refine kcNi (As := [.int v2_2, .int (ishr v6_2 2)]) (rest := []) (w2 := [(a_p0, .inr (2, [.int i_p0_crossings, .int i_p0_circles, .ref a_p0_arcs])), (a_p0_arcs, .inl (cyI, 32, .inl f_p0_arcs))]) S hK hP hD hS hA hN (mX9_contains l D cyI cyZ H.size v2_2 (ishr v6_2 2) r_3 hc_3) ⟨va_cnB 2 hts gX5_partOf_X9_contains_n15 rfl rfl rfl hN.2.2.1 (hts (.initialized RX9) qX5_partOf_0) (by decide +kernel) ⟨Nat.le_of_ble_eq_true rfl, Nat.le_of_ble_eq_true rfl⟩, (hts (.static yX9_contains) qX5_partOf_3), trivial⟩ [] [0, 1] [0, 1] rfl rfl rfl rfl (by decide) rfl rfl hl.1 (Nat.le_of_ble_eq_true rfl) dX5_partOf_40 ⟨Nat.le_of_ble_eq_true rfl, Nat.le_of_ble_eq_true rfl⟩ (fun H locs hP hD hS => ?_)
              refine lv_if_eq (tgt := 60) hx hb dX5_partOf_43 (by decide) (fun c_6 => ?_) (fun c_6 => ?_)
              · replace hf := kt_p hf c_6
                refine lv_iinc (v := (v6_2 + 1)) (lv' := [(6, .int (v6_2 + 1)), (0, .ref a_p0), (2, .int v2_2), (3, .int i_p0_crossings), (4, .int r_2), (5, .int v5_1)]) hx hb dX5_partOf_60 hl (k := 5) rfl rfl (by decide) rfl (fun ls hl => ?_)
                refine lv_goto (tgt := 28) hx hb dX5_partOf_63 (by decide) ?_
                exact ih_2 v2_2 (v6_2 + 1) H locs ls hf hP hD hS (lv_sub hl [1, 2, 3, 4, 5, 0] rfl)
              · replace hf := kt_n hf c_6
                refine lv_iload_n hx hb dX5_partOf_46 rfl (lv_at hl 1 rfl) ?_
                refine lv_aload_n hx hb dX5_partOf_47 rfl (lv_at hl 0 rfl) ?_
                refine lv_iload hx hb dX5_partOf_48 (lv_at hl 5 rfl) ?_
                obtain ⟨r_4, hc_4, hf⟩ := bnd1_s hf
                refine kcVi (As := [.int v6_2]) (rest := [.int v2_2]) (w2 := [(a_p0, .inr (2, [.int i_p0_crossings, .int i_p0_circles, .ref a_p0_arcs])), (a_p0_arcs, .inl (cyI, 32, .inl f_p0_arcs))]) S hK hP hD hS hA hN (mX2_otherEnd l D cyI cyZ H.size a_p0 a_p0_arcs v6_2 i_p0_crossings i_p0_circles f_p0_arcs r_4 hc_4) (cwV 1 hts gX5_partOf_X2_otherEnd rfl rfl rfl (by decide +kernel) ⟨Nat.le_of_ble_eq_true rfl, Nat.le_of_ble_eq_true rfl⟩) 2 0 rfl rfl [0, 1] [] [0, 1] rfl rfl rfl rfl (by decide) rfl rfl hl.1 (Nat.le_of_ble_eq_true rfl) dX5_partOf_50 ⟨Nat.le_of_ble_eq_true rfl, Nat.le_of_ble_eq_true rfl⟩ (fun H locs hP hD hS => ?_)
                refine lv_iconst (v := 2) hx hb dX5_partOf_53 (by decide) ?_
                refine k_ishr hx hb dX5_partOf_54 ?_
                obtain ⟨r_5, hc_5, hf⟩ := bnd1_s hf
                refine kcNi (As := [.int (ishr r_4 2)]) (rest := [.int v2_2]) (w2 := [(a_p0, .inr (2, [.int i_p0_crossings, .int i_p0_circles, .ref a_p0_arcs])), (a_p0_arcs, .inl (cyI, 32, .inl f_p0_arcs))]) S hK hP hD hS hA hN (mX9_bit l D cyI cyZ H.size (ishr r_4 2) r_5 hc_5) ⟨va_cnB 1 hts gX5_partOf_X9_bit_n25 rfl rfl rfl hN.2.2.2.1 (hts (.initialized RX9) qX5_partOf_0) (by decide +kernel) ⟨Nat.le_of_ble_eq_true rfl, Nat.le_of_ble_eq_true rfl⟩, (hts (.static yX9_bit) qX5_partOf_1), trivial⟩ [] [0, 1] [0, 1] rfl rfl rfl rfl (by decide) rfl rfl hl.1 (Nat.le_of_ble_eq_true rfl) dX5_partOf_55 ⟨Nat.le_of_ble_eq_true rfl, Nat.le_of_ble_eq_true rfl⟩ (fun H locs hP hD hS => ?_)
                refine lv_ior hx hb dX5_partOf_58 ?_
                refine lv_istore_n (lv' := [(2, .int (v2_2 ||| r_5)), (0, .ref a_p0), (3, .int i_p0_crossings), (4, .int r_2), (5, .int v5_1), (6, .int v6_2)]) hx hb dX5_partOf_59 rfl hl (by decide) rfl (fun ls hl => ?_)
                refine lv_iinc (v := (v6_2 + 1)) (lv' := [(6, .int (v6_2 + 1)), (2, .int (v2_2 ||| r_5)), (0, .ref a_p0), (3, .int i_p0_crossings), (4, .int r_2), (5, .int v5_1)]) hx hb dX5_partOf_60 hl (k := 5) rfl rfl (by decide) rfl (fun ls hl => ?_)
                refine lv_goto (tgt := 28) hx hb dX5_partOf_63 (by decide) ?_
                exact ih_2 (v2_2 ||| r_5) (v6_2 + 1) H locs ls hf hP hD hS (lv_sub hl [2, 1, 3, 4, 5, 0] rfl)
        exact hL_2 400 v2_1 0 H locs ls hf hP hD hS (lv_sub hl [1, 2, 3, 4, 5, 0] rfl)
  exact hL_1 400 r_1 1 H locs ls hf hP hD hS (lv_sub hl [4, 3, 2, 1, 0] rfl)
def kX5_crossingParts_L1 (i_p0_crossings : Int32) (f_p0_arcs : Nat → Int32) (K_1 : Int32 → Int32 → Int32 → Option (Int32)) (v1_1 : Int32) (v2_1 : Int32) (v4_1 : Int32) : Option (Int32) :=
  if i_p0_crossings ≤ v4_1 then some v2_1 else bnd1 (kX9_contains v1_1 v4_1) (fun r_1 => if r_1 = 0 then bnd1 (kX5_partOf v4_1 i_p0_crossings f_p0_arcs) (fun r_2 => K_1 (v1_1 ||| r_2) (v2_1 + 1) (v4_1 + 1)) else K_1 v1_1 v2_1 (v4_1 + 1))
def kX5_crossingParts (i_p0_crossings : Int32) (f_p0_arcs : Nat → Int32) : Option (Int32) :=
  it3 (kX5_crossingParts_L1 i_p0_crossings f_p0_arcs) 400 0 0 0
def rmX5_crossingParts : Room := { frames := 3, cells := 0, slots := 0, locals := 71 }
theorem qX5_crossingParts_0 : (.fieldLink RX5 9 "KnotDiagram$Diagram" "crossings" "I" : Cond) ∈ wsX5_crossingParts := by decide +kernel
theorem qX5_crossingParts_1 : (.initialized RX9 : Cond) ∈ wsX5_crossingParts := by decide +kernel
theorem qX5_crossingParts_2 : (.static yX9_contains : Cond) ∈ wsX5_crossingParts := by decide +kernel
theorem qX5_crossingParts_X2 : ∀ w ∈ wsX20, w ∈ wsX5_crossingParts := by decide +kernel
set_option maxHeartbeats 4000000 in
set_option maxRecDepth 100000 in
theorem mX5_crossingParts (l : Launch) (D : va_G) (cyI cyZ : ClassId) (sz : Nat) (a_p0 a_p0_arcs : Nat) (i_p0_crossings : Int32) (i_p0_circles : Int32) (f_p0_arcs : Nat → Int32) (r : Int32) (hf : kX5_crossingParts i_p0_crossings f_p0_arcs = some r) : Met l yX5_crossingParts wsX5_crossingParts rmX5_crossingParts (kPre D cyI cyZ [.ref a_p0] [(a_p0, .inr (2, [.int i_p0_crossings, .int i_p0_circles, .ref a_p0_arcs])), (a_p0_arcs, .inl (cyI, 32, .inl f_p0_arcs))] sz) (kQi D cyI cyZ (va_A [(a_p0, .inr (2, [.int i_p0_crossings, .int i_p0_circles, .ref a_p0_arcs])), (a_p0_arcs, .inl (cyI, 32, .inl f_p0_arcs))] sz) [(a_p0, .inr (2, [.int i_p0_crossings, .int i_p0_circles, .ref a_p0_arcs])), (a_p0_arcs, .inl (cyI, 32, .inl f_p0_arcs))] r) 0 0 (va_A [(a_p0, .inr (2, [.int i_p0_crossings, .int i_p0_circles, .ref a_p0_arcs])), (a_p0_arcs, .inl (cyI, 32, .inl f_p0_arcs))] sz) := by
  refine Met.ofW (cc := cX5_crossingParts) (maxL := 5) (ret := (some .int)) (by decide) rfl ?_
  intro p e s m args below meth c s₁ B hml hv
  obtain ⟨rfl, hsz, hP, hK, hD0, hN⟩ := hv
  have hx := B.exec
  have hb := B.bytes
  have hr := B.returns
  have hts := atoms_spec (ws := wsX5_crossingParts) B.pre
  have hown : s.vm.findClass RX5 = some m.cls := findClass_of_methodNamed B.named
  have hlocks := B.notSynchronized
  subst hsz
  have hD := hD0.self (sz := s.heap.size)
  generalize hAe : va_A [(a_p0, .inr (2, [.int i_p0_crossings, .int i_p0_circles, .ref a_p0_arcs])), (a_p0_arcs, .inl (cyI, 32, .inl f_p0_arcs))] s.heap.size = A at hD ⊢
  have hA : ∀ q : Nat, s.heap.size ≤ q → A q := fun q h => by rw [← hAe]; exact Or.inr h
  clear hAe hD0
  have hS : va_S A s.heap s.heap [] := va_S.rf
  have S : CallFix p m c cX5_crossingParts 5 s (([.ref a_p0] : List Value).toArray) wsX5_crossingParts RX5 := ⟨hx, hb, hml, hown, hts⟩
  have hl := lv_entry ([.ref a_p0]) (n := 5) (Nat.le_of_ble_eq_true rfl)
  rw [lg_entry_eq]
  generalize (lg_sl ([.ref a_p0]) ++ List.replicate (5 - (lg_sl ([.ref a_p0])).length) Slot.unset).toArray = ls at hl ⊢
  replace hl : lv_has ls 5 [(0, .ref a_p0)] := hl
  generalize ([] : List Loc) = locs at hS ⊢
  delta kX5_crossingParts at hf
  obtain ⟨H, hH⟩ : ∃ H, H = s.heap := ⟨_, rfl⟩
  have hS : va_S A s.heap H locs := by rw [hH]; exact hS
  have hP : va_P D vwCl [(a_p0, .inr (2, [.int i_p0_crossings, .int i_p0_circles, .ref a_p0_arcs])), (a_p0_arcs, .inl (cyI, 32, .inl f_p0_arcs))] H := by rw [hH]; exact hP
  suffices hgo : W p l e (headSpec wsX5_crossingParts rmX5_crossingParts).room s m (([.ref a_p0] : List Value).toArray) below meth c H locs 0 0 (MQ below (kQi D cyI cyZ A [(a_p0, .inr (2, [.int i_p0_crossings, .int i_p0_circles, .ref a_p0_arcs])), (a_p0_arcs, .inl (cyI, 32, .inl f_p0_arcs))] r) (([.ref a_p0] : List Value).toArray) s 0 0 A) (F0 m 0 ls []) by rw [hH] at hgo; exact hgo
  clear hH
  refine lv_iconst (v := 0) hx hb dX5_crossingParts_0 (by decide) ?_
  refine lv_istore_n (lv' := [(1, .int 0), (0, .ref a_p0)]) hx hb dX5_crossingParts_1 rfl hl (by decide) rfl (fun ls hl => ?_)
  refine lv_iconst (v := 0) hx hb dX5_crossingParts_2 (by decide) ?_
  refine lv_istore_n (lv' := [(2, .int 0), (1, .int 0), (0, .ref a_p0)]) hx hb dX5_crossingParts_3 rfl hl (by decide) rfl (fun ls hl => ?_)
  refine lv_aload_n hx hb dX5_crossingParts_4 rfl (lv_at hl 2 rfl) ?_
  refine va_get (D := D) (ci := 2) (v := .int i_p0_crossings) (C := RX2) (T := TX2) (N := 3) hx hb hts qX5_crossingParts_X2 hown hK hP 0 rfl rfl 0 (Nat.le_of_ble_eq_true rfl) (hts (.fieldLink RX5 9 "KnotDiagram$Diagram" "crossings" "I") qX5_crossingParts_0) (fun _ h9 => h9) rfl dX5_crossingParts_5 ?_
  refine lv_istore_n (lv' := [(3, .int i_p0_crossings), (2, .int 0), (1, .int 0), (0, .ref a_p0)]) hx hb dX5_crossingParts_8 rfl hl (by decide) rfl (fun ls hl => ?_)
  refine lv_iconst (v := 0) hx hb dX5_crossingParts_9 (by decide) ?_
  refine lv_istore (lv' := [(4, .int 0), (3, .int i_p0_crossings), (2, .int 0), (1, .int 0), (0, .ref a_p0)]) hx hb dX5_crossingParts_10 hl (by decide) rfl (fun ls hl => ?_)
  have hL_1 : ∀ (n : Nat) (v1_1 : Int32) (v2_1 : Int32) (v4_1 : Int32) (H : Heap) (locs : List Loc) (ls : Array Slot), it3 (kX5_crossingParts_L1 i_p0_crossings f_p0_arcs) n v1_1 v2_1 v4_1 = some r → va_P D vwCl [(a_p0, .inr (2, [.int i_p0_crossings, .int i_p0_circles, .ref a_p0_arcs])), (a_p0_arcs, .inl (cyI, 32, .inl f_p0_arcs))] H → va_D A [(a_p0, .inr (2, [.int i_p0_crossings, .int i_p0_circles, .ref a_p0_arcs])), (a_p0_arcs, .inl (cyI, 32, .inl f_p0_arcs))] → va_S A s.heap H locs → lv_has ls 5 [(0, .ref a_p0), (1, .int v1_1), (2, .int v2_1), (3, .int i_p0_crossings), (4, .int v4_1)] → W p l e (headSpec wsX5_crossingParts rmX5_crossingParts).room s m (([.ref a_p0] : List Value).toArray) below meth c H locs 0 0 (MQ below (kQi D cyI cyZ A [(a_p0, .inr (2, [.int i_p0_crossings, .int i_p0_circles, .ref a_p0_arcs])), (a_p0_arcs, .inl (cyI, 32, .inl f_p0_arcs))] r) (([.ref a_p0] : List Value).toArray) s 0 0 A) (F0 m 12 ls []) := by
    intro n_1
    induction n_1 with
    | zero =>
      intro _ _ _ _ _ _ hf
      exact (it3_z hf).elim
    | succ n_1 ih_1 =>
      intro v1_1 v2_1 v4_1 H locs ls hf hP hD hS hl
      replace hf := it3_s hf
      rw [kX5_crossingParts_L1] at hf
      refine lv_iload hx hb dX5_crossingParts_12 (lv_at hl 4 rfl) ?_
      refine lv_iload_n hx hb dX5_crossingParts_14 rfl (lv_at hl 3 rfl) ?_
      refine lv_icmp_ge (tgt := 45) hx hb dX5_crossingParts_15 (by decide) (fun c_4 => ?_) (fun c_4 => ?_)
      · replace hf := kt_p hf c_4
        refine lv_iload_n hx hb dX5_crossingParts_45 rfl (lv_at hl 2 rfl) ?_
        obtain rfl := some1_s hf
        exact kRi hx hb hr hlocks hP hK hD hS rfl dX5_crossingParts_46
      · replace hf := kt_n hf c_4
        refine lv_iload_n hx hb dX5_crossingParts_18 rfl (lv_at hl 1 rfl) ?_
        refine lv_iload hx hb dX5_crossingParts_19 (lv_at hl 4 rfl) ?_
        obtain ⟨r_1, hc_1, hf⟩ := bnd1_s hf
        refine kcNi (As := [.int v1_1, .int v4_1]) (rest := []) (w2 := [(a_p0, .inr (2, [.int i_p0_crossings, .int i_p0_circles, .ref a_p0_arcs])), (a_p0_arcs, .inl (cyI, 32, .inl f_p0_arcs))]) S hK hP hD hS hA hN (mX9_contains l D cyI cyZ H.size v1_1 v4_1 r_1 hc_1) ⟨va_cnB 2 hts gX5_crossingParts_X9_contains_n15 rfl rfl rfl hN.2.2.1 (hts (.initialized RX9) qX5_crossingParts_1) (by decide +kernel) ⟨Nat.le_of_ble_eq_true rfl, Nat.le_of_ble_eq_true rfl⟩, (hts (.static yX9_contains) qX5_crossingParts_2), trivial⟩ [] [0, 1] [0, 1] rfl rfl rfl rfl (by decide) rfl rfl hl.1 (Nat.le_of_ble_eq_true rfl) dX5_crossingParts_21 ⟨Nat.le_of_ble_eq_true rfl, Nat.le_of_ble_eq_true rfl⟩ (fun H locs hP hD hS => ?_)
        refine lv_if_ne (tgt := 39) hx hb dX5_crossingParts_24 (by decide) (fun c_3 => ?_) (fun c_3 => ?_)
        · replace hf := kt_n hf c_3
          refine lv_iinc (v := (v4_1 + 1)) (lv' := [(4, .int (v4_1 + 1)), (0, .ref a_p0), (1, .int v1_1), (2, .int v2_1), (3, .int i_p0_crossings)]) hx hb dX5_crossingParts_39 hl (k := 4) rfl rfl (by decide) rfl (fun ls hl => ?_)
          refine lv_goto (tgt := 12) hx hb dX5_crossingParts_42 (by decide) ?_
          exact ih_1 v1_1 v2_1 (v4_1 + 1) H locs ls hf hP hD hS (lv_sub hl [1, 2, 3, 4, 0] rfl)
        · replace hf := kt_p hf c_3
          refine lv_iload_n hx hb dX5_crossingParts_27 rfl (lv_at hl 1 rfl) ?_
          refine lv_aload_n hx hb dX5_crossingParts_28 rfl (lv_at hl 0 rfl) ?_
          refine lv_iload hx hb dX5_crossingParts_29 (lv_at hl 4 rfl) ?_
          obtain ⟨r_2, hc_2, hf⟩ := bnd1_s hf
          refine kcSi (As := [.ref a_p0, .int v4_1]) (rest := [.int v1_1]) (w2 := [(a_p0, .inr (2, [.int i_p0_crossings, .int i_p0_circles, .ref a_p0_arcs])), (a_p0_arcs, .inl (cyI, 32, .inl f_p0_arcs))]) S hK hP hD hS hA hN (mX5_partOf l D cyI cyZ H.size a_p0 a_p0_arcs v4_1 i_p0_crossings i_p0_circles f_p0_arcs r_2 hc_2) (va_cwS 2 hts gX5_crossingParts_X5_partOf rfl rfl rfl (by decide +kernel) ⟨Nat.le_of_ble_eq_true rfl, Nat.le_of_ble_eq_true rfl⟩) [0, 1] [] [0, 1] rfl rfl rfl rfl (by decide) rfl rfl hl.1 (Nat.le_of_ble_eq_true rfl) dX5_crossingParts_31 ⟨Nat.le_of_ble_eq_true rfl, Nat.le_of_ble_eq_true rfl⟩ (fun H locs hP hD hS => ?_)
          refine lv_ior hx hb dX5_crossingParts_34 ?_
          refine lv_istore_n (lv' := [(1, .int (v1_1 ||| r_2)), (0, .ref a_p0), (2, .int v2_1), (3, .int i_p0_crossings), (4, .int v4_1)]) hx hb dX5_crossingParts_35 rfl hl (by decide) rfl (fun ls hl => ?_)
          refine lv_iinc (v := (v2_1 + 1)) (lv' := [(2, .int (v2_1 + 1)), (1, .int (v1_1 ||| r_2)), (0, .ref a_p0), (3, .int i_p0_crossings), (4, .int v4_1)]) hx hb dX5_crossingParts_36 hl (k := 2) rfl rfl (by decide) rfl (fun ls hl => ?_)
          refine lv_iinc (v := (v4_1 + 1)) (lv' := [(4, .int (v4_1 + 1)), (2, .int (v2_1 + 1)), (1, .int (v1_1 ||| r_2)), (0, .ref a_p0), (3, .int i_p0_crossings)]) hx hb dX5_crossingParts_39 hl (k := 4) rfl rfl (by decide) rfl (fun ls hl => ?_)
          refine lv_goto (tgt := 12) hx hb dX5_crossingParts_42 (by decide) ?_
          exact ih_1 (v1_1 ||| r_2) (v2_1 + 1) (v4_1 + 1) H locs ls hf hP hD hS (lv_sub hl [3, 2, 1, 4, 0] rfl)
  exact hL_1 400 0 0 0 H locs ls hf hP hD hS (lv_sub hl [4, 3, 2, 1, 0] rfl)
def kX5_cycleOf_L1 (i_p0_crossings : Int32) (f_p0_arcs : Nat → Int32) (K_1 : Int32 → Int32 → Int32 → Option (Int32)) (v2_1 : Int32) (v3_1 : Int32) (v4_1 : Int32) : Option (Int32) :=
  if 32 ≤ v4_1 then some v2_1 else bnd1 (kX9_contains v2_1 v3_1) (fun r_1 => if r_1 = 0 then bnd1 (kX9_bit v3_1) (fun r_2 => bnd1 (kX2_otherEnd v3_1 i_p0_crossings f_p0_arcs) (fun r_3 => K_1 (v2_1 ||| r_2) ((r_3 &&& (-4)) ||| ((r_3 + 1) &&& 3)) (v4_1 + 1))) else some v2_1)
def kX5_cycleOf (v1 : Int32) (i_p0_crossings : Int32) (f_p0_arcs : Nat → Int32) : Option (Int32) :=
  it3 (kX5_cycleOf_L1 i_p0_crossings f_p0_arcs) 400 0 v1 0
def rmX5_cycleOf : Room := { frames := 2, cells := 0, slots := 0, locals := 45 }
theorem qX5_cycleOf_0 : (.initialized RX9 : Cond) ∈ wsX5_cycleOf := by decide +kernel
theorem qX5_cycleOf_1 : (.static yX9_contains : Cond) ∈ wsX5_cycleOf := by decide +kernel
theorem qX5_cycleOf_2 : (.static yX9_bit : Cond) ∈ wsX5_cycleOf := by decide +kernel
set_option maxHeartbeats 4000000 in
set_option maxRecDepth 100000 in
theorem mX5_cycleOf (l : Launch) (D : va_G) (cyI cyZ : ClassId) (sz : Nat) (a_p0 a_p0_arcs : Nat) (v1 : Int32) (i_p0_crossings : Int32) (i_p0_circles : Int32) (f_p0_arcs : Nat → Int32) (r : Int32) (hf : kX5_cycleOf v1 i_p0_crossings f_p0_arcs = some r) : Met l yX5_cycleOf wsX5_cycleOf rmX5_cycleOf (kPre D cyI cyZ [.ref a_p0, .int v1] [(a_p0, .inr (2, [.int i_p0_crossings, .int i_p0_circles, .ref a_p0_arcs])), (a_p0_arcs, .inl (cyI, 32, .inl f_p0_arcs))] sz) (kQi D cyI cyZ (va_A [(a_p0, .inr (2, [.int i_p0_crossings, .int i_p0_circles, .ref a_p0_arcs])), (a_p0_arcs, .inl (cyI, 32, .inl f_p0_arcs))] sz) [(a_p0, .inr (2, [.int i_p0_crossings, .int i_p0_circles, .ref a_p0_arcs])), (a_p0_arcs, .inl (cyI, 32, .inl f_p0_arcs))] r) 0 0 (va_A [(a_p0, .inr (2, [.int i_p0_crossings, .int i_p0_circles, .ref a_p0_arcs])), (a_p0_arcs, .inl (cyI, 32, .inl f_p0_arcs))] sz) := by
  refine Met.ofW (cc := cX5_cycleOf) (maxL := 6) (ret := (some .int)) (by decide) rfl ?_
  intro p e s m args below meth c s₁ B hml hv
  obtain ⟨rfl, hsz, hP, hK, hD0, hN⟩ := hv
  have hx := B.exec
  have hb := B.bytes
  have hr := B.returns
  have hts := atoms_spec (ws := wsX5_cycleOf) B.pre
  have hown : s.vm.findClass RX5 = some m.cls := findClass_of_methodNamed B.named
  have hlocks := B.notSynchronized
  subst hsz
  have hD := hD0.self (sz := s.heap.size)
  generalize hAe : va_A [(a_p0, .inr (2, [.int i_p0_crossings, .int i_p0_circles, .ref a_p0_arcs])), (a_p0_arcs, .inl (cyI, 32, .inl f_p0_arcs))] s.heap.size = A at hD ⊢
  have hA : ∀ q : Nat, s.heap.size ≤ q → A q := fun q h => by rw [← hAe]; exact Or.inr h
  clear hAe hD0
  have hS : va_S A s.heap s.heap [] := va_S.rf
  have S : CallFix p m c cX5_cycleOf 6 s (([.ref a_p0, .int v1] : List Value).toArray) wsX5_cycleOf RX5 := ⟨hx, hb, hml, hown, hts⟩
  have hl := lv_entry ([.ref a_p0, .int v1]) (n := 6) (Nat.le_of_ble_eq_true rfl)
  rw [lg_entry_eq]
  generalize (lg_sl ([.ref a_p0, .int v1]) ++ List.replicate (6 - (lg_sl ([.ref a_p0, .int v1])).length) Slot.unset).toArray = ls at hl ⊢
  replace hl : lv_has ls 6 [(0, .ref a_p0), (1, .int v1)] := hl
  generalize ([] : List Loc) = locs at hS ⊢
  delta kX5_cycleOf at hf
  obtain ⟨H, hH⟩ : ∃ H, H = s.heap := ⟨_, rfl⟩
  have hS : va_S A s.heap H locs := by rw [hH]; exact hS
  have hP : va_P D vwCl [(a_p0, .inr (2, [.int i_p0_crossings, .int i_p0_circles, .ref a_p0_arcs])), (a_p0_arcs, .inl (cyI, 32, .inl f_p0_arcs))] H := by rw [hH]; exact hP
  suffices hgo : W p l e (headSpec wsX5_cycleOf rmX5_cycleOf).room s m (([.ref a_p0, .int v1] : List Value).toArray) below meth c H locs 0 0 (MQ below (kQi D cyI cyZ A [(a_p0, .inr (2, [.int i_p0_crossings, .int i_p0_circles, .ref a_p0_arcs])), (a_p0_arcs, .inl (cyI, 32, .inl f_p0_arcs))] r) (([.ref a_p0, .int v1] : List Value).toArray) s 0 0 A) (F0 m 0 ls []) by rw [hH] at hgo; exact hgo
  clear hH
  refine lv_iconst (v := 0) hx hb dX5_cycleOf_0 (by decide) ?_
  refine lv_istore_n (lv' := [(2, .int 0), (0, .ref a_p0), (1, .int v1)]) hx hb dX5_cycleOf_1 rfl hl (by decide) rfl (fun ls hl => ?_)
  refine lv_iload_n hx hb dX5_cycleOf_2 rfl (lv_at hl 2 rfl) ?_
  refine lv_istore_n (lv' := [(3, .int v1), (2, .int 0), (0, .ref a_p0), (1, .int v1)]) hx hb dX5_cycleOf_3 rfl hl (by decide) rfl (fun ls hl => ?_)
  refine lv_iconst (v := 0) hx hb dX5_cycleOf_4 (by decide) ?_
  refine lv_istore (lv' := [(4, .int 0), (3, .int v1), (2, .int 0), (0, .ref a_p0), (1, .int v1)]) hx hb dX5_cycleOf_5 hl (by decide) rfl (fun ls hl => ?_)
  have hL_1 : ∀ (n : Nat) (v2_1 : Int32) (v3_1 : Int32) (v4_1 : Int32) (H : Heap) (locs : List Loc) (ls : Array Slot), it3 (kX5_cycleOf_L1 i_p0_crossings f_p0_arcs) n v2_1 v3_1 v4_1 = some r → va_P D vwCl [(a_p0, .inr (2, [.int i_p0_crossings, .int i_p0_circles, .ref a_p0_arcs])), (a_p0_arcs, .inl (cyI, 32, .inl f_p0_arcs))] H → va_D A [(a_p0, .inr (2, [.int i_p0_crossings, .int i_p0_circles, .ref a_p0_arcs])), (a_p0_arcs, .inl (cyI, 32, .inl f_p0_arcs))] → va_S A s.heap H locs → lv_has ls 6 [(0, .ref a_p0), (2, .int v2_1), (3, .int v3_1), (4, .int v4_1)] → W p l e (headSpec wsX5_cycleOf rmX5_cycleOf).room s m (([.ref a_p0, .int v1] : List Value).toArray) below meth c H locs 0 0 (MQ below (kQi D cyI cyZ A [(a_p0, .inr (2, [.int i_p0_crossings, .int i_p0_circles, .ref a_p0_arcs])), (a_p0_arcs, .inl (cyI, 32, .inl f_p0_arcs))] r) (([.ref a_p0, .int v1] : List Value).toArray) s 0 0 A) (F0 m 7 ls []) := by
    intro n_1
    induction n_1 with
    | zero =>
      intro _ _ _ _ _ _ hf
      exact (it3_z hf).elim
    | succ n_1 ih_1 =>
      intro v2_1 v3_1 v4_1 H locs ls hf hP hD hS hl
      replace hf := it3_s hf
      rw [kX5_cycleOf_L1] at hf
      refine lv_iload hx hb dX5_cycleOf_7 (lv_at hl 3 rfl) ?_
      refine lv_bipush (v := 32) hx hb dX5_cycleOf_9 (by decide) ?_
      refine lv_icmp_ge (tgt := 55) hx hb dX5_cycleOf_11 (by decide) (fun c_5 => ?_) (fun c_5 => ?_)
      · replace hf := kt_p hf c_5
        refine lv_iload_n hx hb dX5_cycleOf_55 rfl (lv_at hl 1 rfl) ?_
        obtain rfl := some1_s hf
        exact kRi hx hb hr hlocks hP hK hD hS rfl dX5_cycleOf_56
      · replace hf := kt_n hf c_5
        refine lv_iload_n hx hb dX5_cycleOf_14 rfl (lv_at hl 1 rfl) ?_
        refine lv_iload_n hx hb dX5_cycleOf_15 rfl (lv_at hl 2 rfl) ?_
        obtain ⟨r_1, hc_1, hf⟩ := bnd1_s hf
        refine kcNi (As := [.int v2_1, .int v3_1]) (rest := []) (w2 := [(a_p0, .inr (2, [.int i_p0_crossings, .int i_p0_circles, .ref a_p0_arcs])), (a_p0_arcs, .inl (cyI, 32, .inl f_p0_arcs))]) S hK hP hD hS hA hN (mX9_contains l D cyI cyZ H.size v2_1 v3_1 r_1 hc_1) ⟨va_cnB 2 hts gX5_cycleOf_X9_contains_n15 rfl rfl rfl hN.2.2.1 (hts (.initialized RX9) qX5_cycleOf_0) (by decide +kernel) ⟨Nat.le_of_ble_eq_true rfl, Nat.le_of_ble_eq_true rfl⟩, (hts (.static yX9_contains) qX5_cycleOf_1), trivial⟩ [] [0, 1] [0, 1] rfl rfl rfl rfl (by decide) rfl rfl hl.1 (Nat.le_of_ble_eq_true rfl) dX5_cycleOf_16 ⟨Nat.le_of_ble_eq_true rfl, Nat.le_of_ble_eq_true rfl⟩ (fun H locs hP hD hS => ?_)
        refine lv_if_ne (tgt := 55) hx hb dX5_cycleOf_19 (by decide) (fun c_4 => ?_) (fun c_4 => ?_)
        · replace hf := kt_n hf c_4
          refine lv_iload_n hx hb dX5_cycleOf_55 rfl (lv_at hl 1 rfl) ?_
          obtain rfl := some1_s hf
          exact kRi hx hb hr hlocks hP hK hD hS rfl dX5_cycleOf_56
        · replace hf := kt_p hf c_4
          refine lv_iload_n hx hb dX5_cycleOf_22 rfl (lv_at hl 1 rfl) ?_
          refine lv_iload_n hx hb dX5_cycleOf_23 rfl (lv_at hl 2 rfl) ?_
          obtain ⟨r_2, hc_2, hf⟩ := bnd1_s hf
          refine kcNi (As := [.int v3_1]) (rest := [.int v2_1]) (w2 := [(a_p0, .inr (2, [.int i_p0_crossings, .int i_p0_circles, .ref a_p0_arcs])), (a_p0_arcs, .inl (cyI, 32, .inl f_p0_arcs))]) S hK hP hD hS hA hN (mX9_bit l D cyI cyZ H.size v3_1 r_2 hc_2) ⟨va_cnB 1 hts gX5_cycleOf_X9_bit_n25 rfl rfl rfl hN.2.2.2.1 (hts (.initialized RX9) qX5_cycleOf_0) (by decide +kernel) ⟨Nat.le_of_ble_eq_true rfl, Nat.le_of_ble_eq_true rfl⟩, (hts (.static yX9_bit) qX5_cycleOf_2), trivial⟩ [] [0, 1] [0, 1] rfl rfl rfl rfl (by decide) rfl rfl hl.1 (Nat.le_of_ble_eq_true rfl) dX5_cycleOf_24 ⟨Nat.le_of_ble_eq_true rfl, Nat.le_of_ble_eq_true rfl⟩ (fun H locs hP hD hS => ?_)
          refine lv_ior hx hb dX5_cycleOf_27 ?_
          refine lv_istore_n (lv' := [(2, .int (v2_1 ||| r_2)), (0, .ref a_p0), (3, .int v3_1), (4, .int v4_1)]) hx hb dX5_cycleOf_28 rfl hl (by decide) rfl (fun ls hl => ?_)
          refine lv_aload_n hx hb dX5_cycleOf_29 rfl (lv_at hl 1 rfl) ?_
          refine lv_iload_n hx hb dX5_cycleOf_30 rfl (lv_at hl 2 rfl) ?_
          obtain ⟨r_3, hc_3, hf⟩ := bnd1_s hf
          refine kcVi (As := [.int v3_1]) (rest := []) (w2 := [(a_p0, .inr (2, [.int i_p0_crossings, .int i_p0_circles, .ref a_p0_arcs])), (a_p0_arcs, .inl (cyI, 32, .inl f_p0_arcs))]) S hK hP hD hS hA hN (mX2_otherEnd l D cyI cyZ H.size a_p0 a_p0_arcs v3_1 i_p0_crossings i_p0_circles f_p0_arcs r_3 hc_3) (cwV 1 hts gX5_cycleOf_X2_otherEnd rfl rfl rfl (by decide +kernel) ⟨Nat.le_of_ble_eq_true rfl, Nat.le_of_ble_eq_true rfl⟩) 2 0 rfl rfl [0, 1] [] [0, 1] rfl rfl rfl rfl (by decide) rfl rfl hl.1 (Nat.le_of_ble_eq_true rfl) dX5_cycleOf_31 ⟨Nat.le_of_ble_eq_true rfl, Nat.le_of_ble_eq_true rfl⟩ (fun H locs hP hD hS => ?_)
          refine lv_istore (lv' := [(5, .int r_3), (2, .int (v2_1 ||| r_2)), (0, .ref a_p0), (3, .int v3_1), (4, .int v4_1)]) hx hb dX5_cycleOf_34 hl (by decide) rfl (fun ls hl => ?_)
          refine lv_iload hx hb dX5_cycleOf_36 (lv_at hl 0 rfl) ?_
          refine lv_bipush (v := (-4)) hx hb dX5_cycleOf_38 (by decide) ?_
          refine lv_iand hx hb dX5_cycleOf_40 ?_
          refine lv_iload hx hb dX5_cycleOf_41 (lv_at hl 0 rfl) ?_
          refine lv_iconst (v := 1) hx hb dX5_cycleOf_43 (by decide) ?_
          refine lv_iadd hx hb dX5_cycleOf_44 ?_
          refine lv_iconst (v := 3) hx hb dX5_cycleOf_45 (by decide) ?_
          refine lv_iand hx hb dX5_cycleOf_46 ?_
          refine lv_ior hx hb dX5_cycleOf_47 ?_
          refine lv_istore_n (lv' := [(3, .int ((r_3 &&& (-4)) ||| ((r_3 + 1) &&& 3))), (5, .int r_3), (2, .int (v2_1 ||| r_2)), (0, .ref a_p0), (4, .int v4_1)]) hx hb dX5_cycleOf_48 rfl hl (by decide) rfl (fun ls hl => ?_)
          refine lv_iinc (v := (v4_1 + 1)) (lv' := [(4, .int (v4_1 + 1)), (3, .int ((r_3 &&& (-4)) ||| ((r_3 + 1) &&& 3))), (5, .int r_3), (2, .int (v2_1 ||| r_2)), (0, .ref a_p0)]) hx hb dX5_cycleOf_49 hl (k := 4) rfl rfl (by decide) rfl (fun ls hl => ?_)
          refine lv_goto (tgt := 7) hx hb dX5_cycleOf_52 (by decide) ?_
          exact ih_1 (v2_1 ||| r_2) ((r_3 &&& (-4)) ||| ((r_3 + 1) &&& 3)) (v4_1 + 1) H locs ls hf hP hD hS (lv_sub hl [4, 3, 1, 0] rfl)
  exact hL_1 400 0 v1 0 H locs ls hf hP hD hS (lv_sub hl [3, 2, 1, 0] rfl)
def kX5_endCycles_L1 (r_1 : Int32) (i_p0_crossings : Int32) (f_p0_arcs : Nat → Int32) (K_1 : Int32 → Int32 → Int32 → Option (Int32)) (v1_1 : Int32) (v2_1 : Int32) (v4_1 : Int32) : Option (Int32) :=
  if r_1 ≤ v4_1 then some v2_1 else bnd1 (kX9_contains v1_1 v4_1) (fun r_2 => if r_2 = 0 then bnd1 (kX5_cycleOf v4_1 i_p0_crossings f_p0_arcs) (fun r_3 => K_1 (v1_1 ||| r_3) (v2_1 + 1) (v4_1 + 1)) else K_1 v1_1 v2_1 (v4_1 + 1))
def kX5_endCycles (i_p0_crossings : Int32) (f_p0_arcs : Nat → Int32) : Option (Int32) :=
  bnd1 (kX2_endCount i_p0_crossings) (fun r_1 => it3 (kX5_endCycles_L1 r_1 i_p0_crossings f_p0_arcs) 400 0 0 0)
def rmX5_endCycles : Room := { frames := 3, cells := 0, slots := 0, locals := 70 }
theorem qX5_endCycles_0 : (.initialized RX9 : Cond) ∈ wsX5_endCycles := by decide +kernel
theorem qX5_endCycles_1 : (.static yX9_contains : Cond) ∈ wsX5_endCycles := by decide +kernel
set_option maxHeartbeats 4000000 in
set_option maxRecDepth 100000 in
theorem mX5_endCycles (l : Launch) (D : va_G) (cyI cyZ : ClassId) (sz : Nat) (a_p0 a_p0_arcs : Nat) (i_p0_crossings : Int32) (i_p0_circles : Int32) (f_p0_arcs : Nat → Int32) (r : Int32) (hf : kX5_endCycles i_p0_crossings f_p0_arcs = some r) : Met l yX5_endCycles wsX5_endCycles rmX5_endCycles (kPre D cyI cyZ [.ref a_p0] [(a_p0, .inr (2, [.int i_p0_crossings, .int i_p0_circles, .ref a_p0_arcs])), (a_p0_arcs, .inl (cyI, 32, .inl f_p0_arcs))] sz) (kQi D cyI cyZ (va_A [(a_p0, .inr (2, [.int i_p0_crossings, .int i_p0_circles, .ref a_p0_arcs])), (a_p0_arcs, .inl (cyI, 32, .inl f_p0_arcs))] sz) [(a_p0, .inr (2, [.int i_p0_crossings, .int i_p0_circles, .ref a_p0_arcs])), (a_p0_arcs, .inl (cyI, 32, .inl f_p0_arcs))] r) 0 0 (va_A [(a_p0, .inr (2, [.int i_p0_crossings, .int i_p0_circles, .ref a_p0_arcs])), (a_p0_arcs, .inl (cyI, 32, .inl f_p0_arcs))] sz) := by
  refine Met.ofW (cc := cX5_endCycles) (maxL := 5) (ret := (some .int)) (by decide) rfl ?_
  intro p e s m args below meth c s₁ B hml hv
  obtain ⟨rfl, hsz, hP, hK, hD0, hN⟩ := hv
  have hx := B.exec
  have hb := B.bytes
  have hr := B.returns
  have hts := atoms_spec (ws := wsX5_endCycles) B.pre
  have hown : s.vm.findClass RX5 = some m.cls := findClass_of_methodNamed B.named
  have hlocks := B.notSynchronized
  subst hsz
  have hD := hD0.self (sz := s.heap.size)
  generalize hAe : va_A [(a_p0, .inr (2, [.int i_p0_crossings, .int i_p0_circles, .ref a_p0_arcs])), (a_p0_arcs, .inl (cyI, 32, .inl f_p0_arcs))] s.heap.size = A at hD ⊢
  have hA : ∀ q : Nat, s.heap.size ≤ q → A q := fun q h => by rw [← hAe]; exact Or.inr h
  clear hAe hD0
  have hS : va_S A s.heap s.heap [] := va_S.rf
  have S : CallFix p m c cX5_endCycles 5 s (([.ref a_p0] : List Value).toArray) wsX5_endCycles RX5 := ⟨hx, hb, hml, hown, hts⟩
  have hl := lv_entry ([.ref a_p0]) (n := 5) (Nat.le_of_ble_eq_true rfl)
  rw [lg_entry_eq]
  generalize (lg_sl ([.ref a_p0]) ++ List.replicate (5 - (lg_sl ([.ref a_p0])).length) Slot.unset).toArray = ls at hl ⊢
  replace hl : lv_has ls 5 [(0, .ref a_p0)] := hl
  generalize ([] : List Loc) = locs at hS ⊢
  delta kX5_endCycles at hf
  obtain ⟨H, hH⟩ : ∃ H, H = s.heap := ⟨_, rfl⟩
  have hS : va_S A s.heap H locs := by rw [hH]; exact hS
  have hP : va_P D vwCl [(a_p0, .inr (2, [.int i_p0_crossings, .int i_p0_circles, .ref a_p0_arcs])), (a_p0_arcs, .inl (cyI, 32, .inl f_p0_arcs))] H := by rw [hH]; exact hP
  suffices hgo : W p l e (headSpec wsX5_endCycles rmX5_endCycles).room s m (([.ref a_p0] : List Value).toArray) below meth c H locs 0 0 (MQ below (kQi D cyI cyZ A [(a_p0, .inr (2, [.int i_p0_crossings, .int i_p0_circles, .ref a_p0_arcs])), (a_p0_arcs, .inl (cyI, 32, .inl f_p0_arcs))] r) (([.ref a_p0] : List Value).toArray) s 0 0 A) (F0 m 0 ls []) by rw [hH] at hgo; exact hgo
  clear hH
  refine lv_iconst (v := 0) hx hb dX5_endCycles_0 (by decide) ?_
  refine lv_istore_n (lv' := [(1, .int 0), (0, .ref a_p0)]) hx hb dX5_endCycles_1 rfl hl (by decide) rfl (fun ls hl => ?_)
  refine lv_iconst (v := 0) hx hb dX5_endCycles_2 (by decide) ?_
  refine lv_istore_n (lv' := [(2, .int 0), (1, .int 0), (0, .ref a_p0)]) hx hb dX5_endCycles_3 rfl hl (by decide) rfl (fun ls hl => ?_)
  refine lv_aload_n hx hb dX5_endCycles_4 rfl (lv_at hl 2 rfl) ?_
  obtain ⟨r_1, hc_1, hf⟩ := bnd1_s hf
  refine kcVi (As := []) (rest := []) (w2 := [(a_p0, .inr (2, [.int i_p0_crossings, .int i_p0_circles, .ref a_p0_arcs])), (a_p0_arcs, .inl (cyI, 32, .inl f_p0_arcs))]) S hK hP hD hS hA hN (mX2_endCount l D cyI cyZ H.size a_p0 a_p0_arcs i_p0_crossings i_p0_circles r_1 hc_1) (cwV 0 hts gX5_endCycles_X2_endCount rfl rfl rfl (by decide +kernel) ⟨Nat.le_of_ble_eq_true rfl, Nat.le_of_ble_eq_true rfl⟩) 2 0 rfl rfl [0] [1] [1, 0] rfl rfl rfl rfl (by decide) rfl rfl hl.1 (Nat.le_of_ble_eq_true rfl) dX5_endCycles_5 ⟨Nat.le_of_ble_eq_true rfl, Nat.le_of_ble_eq_true rfl⟩ (fun H locs hP hD hS => ?_)
  refine lv_istore_n (lv' := [(3, .int r_1), (2, .int 0), (1, .int 0), (0, .ref a_p0)]) hx hb dX5_endCycles_8 rfl hl (by decide) rfl (fun ls hl => ?_)
  refine lv_iconst (v := 0) hx hb dX5_endCycles_9 (by decide) ?_
  refine lv_istore (lv' := [(4, .int 0), (3, .int r_1), (2, .int 0), (1, .int 0), (0, .ref a_p0)]) hx hb dX5_endCycles_10 hl (by decide) rfl (fun ls hl => ?_)
  have hL_1 : ∀ (n : Nat) (v1_1 : Int32) (v2_1 : Int32) (v4_1 : Int32) (H : Heap) (locs : List Loc) (ls : Array Slot), it3 (kX5_endCycles_L1 r_1 i_p0_crossings f_p0_arcs) n v1_1 v2_1 v4_1 = some r → va_P D vwCl [(a_p0, .inr (2, [.int i_p0_crossings, .int i_p0_circles, .ref a_p0_arcs])), (a_p0_arcs, .inl (cyI, 32, .inl f_p0_arcs))] H → va_D A [(a_p0, .inr (2, [.int i_p0_crossings, .int i_p0_circles, .ref a_p0_arcs])), (a_p0_arcs, .inl (cyI, 32, .inl f_p0_arcs))] → va_S A s.heap H locs → lv_has ls 5 [(0, .ref a_p0), (1, .int v1_1), (2, .int v2_1), (3, .int r_1), (4, .int v4_1)] → W p l e (headSpec wsX5_endCycles rmX5_endCycles).room s m (([.ref a_p0] : List Value).toArray) below meth c H locs 0 0 (MQ below (kQi D cyI cyZ A [(a_p0, .inr (2, [.int i_p0_crossings, .int i_p0_circles, .ref a_p0_arcs])), (a_p0_arcs, .inl (cyI, 32, .inl f_p0_arcs))] r) (([.ref a_p0] : List Value).toArray) s 0 0 A) (F0 m 12 ls []) := by
    intro n_1
    induction n_1 with
    | zero =>
      intro _ _ _ _ _ _ hf
      exact (it3_z hf).elim
    | succ n_1 ih_1 =>
      intro v1_1 v2_1 v4_1 H locs ls hf hP hD hS hl
      replace hf := it3_s hf
      rw [kX5_endCycles_L1] at hf
      refine lv_iload hx hb dX5_endCycles_12 (lv_at hl 4 rfl) ?_
      refine lv_iload_n hx hb dX5_endCycles_14 rfl (lv_at hl 3 rfl) ?_
      refine lv_icmp_ge (tgt := 45) hx hb dX5_endCycles_15 (by decide) (fun c_5 => ?_) (fun c_5 => ?_)
      · replace hf := kt_p hf c_5
        refine lv_iload_n hx hb dX5_endCycles_45 rfl (lv_at hl 2 rfl) ?_
        obtain rfl := some1_s hf
        exact kRi hx hb hr hlocks hP hK hD hS rfl dX5_endCycles_46
      · replace hf := kt_n hf c_5
        refine lv_iload_n hx hb dX5_endCycles_18 rfl (lv_at hl 1 rfl) ?_
        refine lv_iload hx hb dX5_endCycles_19 (lv_at hl 4 rfl) ?_
        obtain ⟨r_2, hc_2, hf⟩ := bnd1_s hf
        refine kcNi (As := [.int v1_1, .int v4_1]) (rest := []) (w2 := [(a_p0, .inr (2, [.int i_p0_crossings, .int i_p0_circles, .ref a_p0_arcs])), (a_p0_arcs, .inl (cyI, 32, .inl f_p0_arcs))]) S hK hP hD hS hA hN (mX9_contains l D cyI cyZ H.size v1_1 v4_1 r_2 hc_2) ⟨va_cnB 2 hts gX5_endCycles_X9_contains_n15 rfl rfl rfl hN.2.2.1 (hts (.initialized RX9) qX5_endCycles_0) (by decide +kernel) ⟨Nat.le_of_ble_eq_true rfl, Nat.le_of_ble_eq_true rfl⟩, (hts (.static yX9_contains) qX5_endCycles_1), trivial⟩ [] [0, 1] [0, 1] rfl rfl rfl rfl (by decide) rfl rfl hl.1 (Nat.le_of_ble_eq_true rfl) dX5_endCycles_21 ⟨Nat.le_of_ble_eq_true rfl, Nat.le_of_ble_eq_true rfl⟩ (fun H locs hP hD hS => ?_)
        refine lv_if_ne (tgt := 39) hx hb dX5_endCycles_24 (by decide) (fun c_4 => ?_) (fun c_4 => ?_)
        · replace hf := kt_n hf c_4
          refine lv_iinc (v := (v4_1 + 1)) (lv' := [(4, .int (v4_1 + 1)), (0, .ref a_p0), (1, .int v1_1), (2, .int v2_1), (3, .int r_1)]) hx hb dX5_endCycles_39 hl (k := 4) rfl rfl (by decide) rfl (fun ls hl => ?_)
          refine lv_goto (tgt := 12) hx hb dX5_endCycles_42 (by decide) ?_
          exact ih_1 v1_1 v2_1 (v4_1 + 1) H locs ls hf hP hD hS (lv_sub hl [1, 2, 3, 4, 0] rfl)
        · replace hf := kt_p hf c_4
          refine lv_iload_n hx hb dX5_endCycles_27 rfl (lv_at hl 1 rfl) ?_
          refine lv_aload_n hx hb dX5_endCycles_28 rfl (lv_at hl 0 rfl) ?_
          refine lv_iload hx hb dX5_endCycles_29 (lv_at hl 4 rfl) ?_
          obtain ⟨r_3, hc_3, hf⟩ := bnd1_s hf
          refine kcSi (As := [.ref a_p0, .int v4_1]) (rest := [.int v1_1]) (w2 := [(a_p0, .inr (2, [.int i_p0_crossings, .int i_p0_circles, .ref a_p0_arcs])), (a_p0_arcs, .inl (cyI, 32, .inl f_p0_arcs))]) S hK hP hD hS hA hN (mX5_cycleOf l D cyI cyZ H.size a_p0 a_p0_arcs v4_1 i_p0_crossings i_p0_circles f_p0_arcs r_3 hc_3) (va_cwS 2 hts gX5_endCycles_X5_cycleOf rfl rfl rfl (by decide +kernel) ⟨Nat.le_of_ble_eq_true rfl, Nat.le_of_ble_eq_true rfl⟩) [0, 1] [] [0, 1] rfl rfl rfl rfl (by decide) rfl rfl hl.1 (Nat.le_of_ble_eq_true rfl) dX5_endCycles_31 ⟨Nat.le_of_ble_eq_true rfl, Nat.le_of_ble_eq_true rfl⟩ (fun H locs hP hD hS => ?_)
          refine lv_ior hx hb dX5_endCycles_34 ?_
          refine lv_istore_n (lv' := [(1, .int (v1_1 ||| r_3)), (0, .ref a_p0), (2, .int v2_1), (3, .int r_1), (4, .int v4_1)]) hx hb dX5_endCycles_35 rfl hl (by decide) rfl (fun ls hl => ?_)
          refine lv_iinc (v := (v2_1 + 1)) (lv' := [(2, .int (v2_1 + 1)), (1, .int (v1_1 ||| r_3)), (0, .ref a_p0), (3, .int r_1), (4, .int v4_1)]) hx hb dX5_endCycles_36 hl (k := 2) rfl rfl (by decide) rfl (fun ls hl => ?_)
          refine lv_iinc (v := (v4_1 + 1)) (lv' := [(4, .int (v4_1 + 1)), (2, .int (v2_1 + 1)), (1, .int (v1_1 ||| r_3)), (0, .ref a_p0), (3, .int r_1)]) hx hb dX5_endCycles_39 hl (k := 4) rfl rfl (by decide) rfl (fun ls hl => ?_)
          refine lv_goto (tgt := 12) hx hb dX5_endCycles_42 (by decide) ?_
          exact ih_1 (v1_1 ||| r_3) (v2_1 + 1) (v4_1 + 1) H locs ls hf hP hD hS (lv_sub hl [3, 2, 1, 4, 0] rfl)
  exact hL_1 400 0 0 0 H locs ls hf hP hD hS (lv_sub hl [4, 3, 2, 1, 0] rfl)
def kX5_alternates_L1 (r_1 : Int32) (i_p0_crossings : Int32) (f_p0_arcs : Nat → Int32) (K_1 : Int32 → Option (Int32)) (v2_1 : Int32) : Option (Int32) :=
  if r_1 ≤ v2_1 then some 1 else bnd1 (kX2_otherEnd v2_1 i_p0_crossings f_p0_arcs) (fun r_2 => if (v2_1 &&& 1) = (r_2 &&& 1) then some 0 else K_1 (v2_1 + 1))
def kX5_alternates (i_p0_crossings : Int32) (f_p0_arcs : Nat → Int32) : Option (Int32) :=
  bnd1 (kX2_endCount i_p0_crossings) (fun r_1 => it1 (kX5_alternates_L1 r_1 i_p0_crossings f_p0_arcs) 400 0)
def rmX5_alternates : Room := { frames := 2, cells := 0, slots := 0, locals := 45 }
set_option maxHeartbeats 4000000 in
set_option maxRecDepth 100000 in
theorem mX5_alternates (l : Launch) (D : va_G) (cyI cyZ : ClassId) (sz : Nat) (a_p0 a_p0_arcs : Nat) (i_p0_crossings : Int32) (i_p0_circles : Int32) (f_p0_arcs : Nat → Int32) (r : Int32) (hf : kX5_alternates i_p0_crossings f_p0_arcs = some r) : Met l yX5_alternates wsX5_alternates rmX5_alternates (kPre D cyI cyZ [.ref a_p0] [(a_p0, .inr (2, [.int i_p0_crossings, .int i_p0_circles, .ref a_p0_arcs])), (a_p0_arcs, .inl (cyI, 32, .inl f_p0_arcs))] sz) (kQi D cyI cyZ (va_A [(a_p0, .inr (2, [.int i_p0_crossings, .int i_p0_circles, .ref a_p0_arcs])), (a_p0_arcs, .inl (cyI, 32, .inl f_p0_arcs))] sz) [(a_p0, .inr (2, [.int i_p0_crossings, .int i_p0_circles, .ref a_p0_arcs])), (a_p0_arcs, .inl (cyI, 32, .inl f_p0_arcs))] r) 0 0 (va_A [(a_p0, .inr (2, [.int i_p0_crossings, .int i_p0_circles, .ref a_p0_arcs])), (a_p0_arcs, .inl (cyI, 32, .inl f_p0_arcs))] sz) := by
  refine Met.ofW (cc := cX5_alternates) (maxL := 3) (ret := (some .boolean)) (by decide) rfl ?_
  intro p e s m args below meth c s₁ B hml hv
  obtain ⟨rfl, hsz, hP, hK, hD0, hN⟩ := hv
  have hx := B.exec
  have hb := B.bytes
  have hr := B.returns
  have hts := atoms_spec (ws := wsX5_alternates) B.pre
  have hown : s.vm.findClass RX5 = some m.cls := findClass_of_methodNamed B.named
  have hlocks := B.notSynchronized
  subst hsz
  have hD := hD0.self (sz := s.heap.size)
  generalize hAe : va_A [(a_p0, .inr (2, [.int i_p0_crossings, .int i_p0_circles, .ref a_p0_arcs])), (a_p0_arcs, .inl (cyI, 32, .inl f_p0_arcs))] s.heap.size = A at hD ⊢
  have hA : ∀ q : Nat, s.heap.size ≤ q → A q := fun q h => by rw [← hAe]; exact Or.inr h
  clear hAe hD0
  have hS : va_S A s.heap s.heap [] := va_S.rf
  have S : CallFix p m c cX5_alternates 3 s (([.ref a_p0] : List Value).toArray) wsX5_alternates RX5 := ⟨hx, hb, hml, hown, hts⟩
  have hl := lv_entry ([.ref a_p0]) (n := 3) (Nat.le_of_ble_eq_true rfl)
  rw [lg_entry_eq]
  generalize (lg_sl ([.ref a_p0]) ++ List.replicate (3 - (lg_sl ([.ref a_p0])).length) Slot.unset).toArray = ls at hl ⊢
  replace hl : lv_has ls 3 [(0, .ref a_p0)] := hl
  generalize ([] : List Loc) = locs at hS ⊢
  delta kX5_alternates at hf
  obtain ⟨H, hH⟩ : ∃ H, H = s.heap := ⟨_, rfl⟩
  have hS : va_S A s.heap H locs := by rw [hH]; exact hS
  have hP : va_P D vwCl [(a_p0, .inr (2, [.int i_p0_crossings, .int i_p0_circles, .ref a_p0_arcs])), (a_p0_arcs, .inl (cyI, 32, .inl f_p0_arcs))] H := by rw [hH]; exact hP
  suffices hgo : W p l e (headSpec wsX5_alternates rmX5_alternates).room s m (([.ref a_p0] : List Value).toArray) below meth c H locs 0 0 (MQ below (kQi D cyI cyZ A [(a_p0, .inr (2, [.int i_p0_crossings, .int i_p0_circles, .ref a_p0_arcs])), (a_p0_arcs, .inl (cyI, 32, .inl f_p0_arcs))] r) (([.ref a_p0] : List Value).toArray) s 0 0 A) (F0 m 0 ls []) by rw [hH] at hgo; exact hgo
  clear hH
  refine lv_aload_n hx hb dX5_alternates_0 rfl (lv_at hl 0 rfl) ?_
  obtain ⟨r_1, hc_1, hf⟩ := bnd1_s hf
  refine kcVi (As := []) (rest := []) (w2 := [(a_p0, .inr (2, [.int i_p0_crossings, .int i_p0_circles, .ref a_p0_arcs])), (a_p0_arcs, .inl (cyI, 32, .inl f_p0_arcs))]) S hK hP hD hS hA hN (mX2_endCount l D cyI cyZ H.size a_p0 a_p0_arcs i_p0_crossings i_p0_circles r_1 hc_1) (cwV 0 hts gX5_alternates_X2_endCount rfl rfl rfl (by decide +kernel) ⟨Nat.le_of_ble_eq_true rfl, Nat.le_of_ble_eq_true rfl⟩) 2 0 rfl rfl [0] [1] [1, 0] rfl rfl rfl rfl (by decide) rfl rfl hl.1 (Nat.le_of_ble_eq_true rfl) dX5_alternates_1 ⟨Nat.le_of_ble_eq_true rfl, Nat.le_of_ble_eq_true rfl⟩ (fun H locs hP hD hS => ?_)
  refine lv_istore_n (lv' := [(1, .int r_1), (0, .ref a_p0)]) hx hb dX5_alternates_4 rfl hl (by decide) rfl (fun ls hl => ?_)
  refine lv_iconst (v := 0) hx hb dX5_alternates_5 (by decide) ?_
  refine lv_istore_n (lv' := [(2, .int 0), (1, .int r_1), (0, .ref a_p0)]) hx hb dX5_alternates_6 rfl hl (by decide) rfl (fun ls hl => ?_)
  have hL_1 : ∀ (n : Nat) (v2_1 : Int32) (H : Heap) (locs : List Loc) (ls : Array Slot), it1 (kX5_alternates_L1 r_1 i_p0_crossings f_p0_arcs) n v2_1 = some r → va_P D vwCl [(a_p0, .inr (2, [.int i_p0_crossings, .int i_p0_circles, .ref a_p0_arcs])), (a_p0_arcs, .inl (cyI, 32, .inl f_p0_arcs))] H → va_D A [(a_p0, .inr (2, [.int i_p0_crossings, .int i_p0_circles, .ref a_p0_arcs])), (a_p0_arcs, .inl (cyI, 32, .inl f_p0_arcs))] → va_S A s.heap H locs → lv_has ls 3 [(0, .ref a_p0), (1, .int r_1), (2, .int v2_1)] → W p l e (headSpec wsX5_alternates rmX5_alternates).room s m (([.ref a_p0] : List Value).toArray) below meth c H locs 0 0 (MQ below (kQi D cyI cyZ A [(a_p0, .inr (2, [.int i_p0_crossings, .int i_p0_circles, .ref a_p0_arcs])), (a_p0_arcs, .inl (cyI, 32, .inl f_p0_arcs))] r) (([.ref a_p0] : List Value).toArray) s 0 0 A) (F0 m 7 ls []) := by
    intro n_1
    induction n_1 with
    | zero =>
      intro _ _ _ _ hf
      exact (it1_z hf).elim
    | succ n_1 ih_1 =>
      intro v2_1 H locs ls hf hP hD hS hl
      replace hf := it1_s hf
      rw [kX5_alternates_L1] at hf
      refine lv_iload_n hx hb dX5_alternates_7 rfl (lv_at hl 2 rfl) ?_
      refine lv_iload_n hx hb dX5_alternates_8 rfl (lv_at hl 1 rfl) ?_
      refine lv_icmp_ge (tgt := 33) hx hb dX5_alternates_9 (by decide) (fun c_4 => ?_) (fun c_4 => ?_)
      · replace hf := kt_p hf c_4
        refine lv_iconst (v := 1) hx hb dX5_alternates_33 (by decide) ?_
        obtain rfl := some1_s hf
        exact kRz hx hb hr hlocks hP hK hD hS zn1 rfl dX5_alternates_34
      · replace hf := kt_n hf c_4
        refine lv_iload_n hx hb dX5_alternates_12 rfl (lv_at hl 2 rfl) ?_
        refine lv_iconst (v := 1) hx hb dX5_alternates_13 (by decide) ?_
        refine lv_iand hx hb dX5_alternates_14 ?_
        refine lv_aload_n hx hb dX5_alternates_15 rfl (lv_at hl 0 rfl) ?_
        refine lv_iload_n hx hb dX5_alternates_16 rfl (lv_at hl 2 rfl) ?_
        obtain ⟨r_2, hc_2, hf⟩ := bnd1_s hf
        refine kcVi (As := [.int v2_1]) (rest := [.int (v2_1 &&& 1)]) (w2 := [(a_p0, .inr (2, [.int i_p0_crossings, .int i_p0_circles, .ref a_p0_arcs])), (a_p0_arcs, .inl (cyI, 32, .inl f_p0_arcs))]) S hK hP hD hS hA hN (mX2_otherEnd l D cyI cyZ H.size a_p0 a_p0_arcs v2_1 i_p0_crossings i_p0_circles f_p0_arcs r_2 hc_2) (cwV 1 hts gX5_alternates_X2_otherEnd rfl rfl rfl (by decide +kernel) ⟨Nat.le_of_ble_eq_true rfl, Nat.le_of_ble_eq_true rfl⟩) 2 0 rfl rfl [0, 1] [] [0, 1] rfl rfl rfl rfl (by decide) rfl rfl hl.1 (Nat.le_of_ble_eq_true rfl) dX5_alternates_17 ⟨Nat.le_of_ble_eq_true rfl, Nat.le_of_ble_eq_true rfl⟩ (fun H locs hP hD hS => ?_)
        refine lv_iconst (v := 1) hx hb dX5_alternates_20 (by decide) ?_
        refine lv_iand hx hb dX5_alternates_21 ?_
        refine lv_icmp_ne (tgt := 27) hx hb dX5_alternates_22 (by decide) (fun c_3 => ?_) (fun c_3 => ?_)
        · replace hf := kt_n hf c_3
          refine lv_iinc (v := (v2_1 + 1)) (lv' := [(2, .int (v2_1 + 1)), (0, .ref a_p0), (1, .int r_1)]) hx hb dX5_alternates_27 hl (k := 2) rfl rfl (by decide) rfl (fun ls hl => ?_)
          refine lv_goto (tgt := 7) hx hb dX5_alternates_30 (by decide) ?_
          exact ih_1 (v2_1 + 1) H locs ls hf hP hD hS (lv_sub hl [1, 2, 0] rfl)
        · replace hf := kt_p hf c_3
          refine lv_iconst (v := 0) hx hb dX5_alternates_25 (by decide) ?_
          obtain rfl := some1_s hf
          exact kRz hx hb hr hlocks hP hK hD hS zn0 rfl dX5_alternates_26
  exact hL_1 400 0 H locs ls hf hP hD hS (lv_sub hl [2, 1, 0] rfl)
def kX6_holds_J1   : Option (Int32) :=
  some 0
def kX6_holds (v1 : Int32) (f_filled : Nat → Int32) : Option (Int32) :=
  if v1 < 0 then kX6_holds_J1 else if 10 ≤ v1 then kX6_holds_J1 else ck v1 10 (if (f_filled v1.toNatClampNeg) = 0 then kX6_holds_J1 else some 1)
def rmX6_holds : Room := { frames := 0, cells := 0, slots := 0, locals := 0 }
theorem qX6_holds_0 : (.fieldLink RX6 15 "KnotDiagram$Shelf" "filled" "[Z" : Cond) ∈ wsX6_holds := by decide +kernel
theorem qX6_holds_X6 : ∀ w ∈ wsX60, w ∈ wsX6_holds := by decide +kernel
set_option maxHeartbeats 4000000 in
set_option maxRecDepth 100000 in
theorem mX6_holds (l : Launch) (D : va_G) (cyI cyZ : ClassId) (sz : Nat) (a_this a_cells a_filled : Nat) (v1 : Int32) (f_filled : Nat → Int32) (r : Int32) (hf : kX6_holds v1 f_filled = some r) : Met l yX6_holds wsX6_holds rmX6_holds (kPre D cyI cyZ [.ref a_this, .int v1] [(a_this, .inr (4, [.ref a_cells, .ref a_filled])), (a_filled, .inl (cyZ, 10, .inl f_filled))] sz) (kQi D cyI cyZ (va_A [(a_this, .inr (4, [.ref a_cells, .ref a_filled])), (a_filled, .inl (cyZ, 10, .inl f_filled))] sz) [(a_this, .inr (4, [.ref a_cells, .ref a_filled])), (a_filled, .inl (cyZ, 10, .inl f_filled))] r) 0 0 (va_A [(a_this, .inr (4, [.ref a_cells, .ref a_filled])), (a_filled, .inl (cyZ, 10, .inl f_filled))] sz) := by
  refine Met.ofW (cc := cX6_holds) (maxL := 2) (ret := (some .boolean)) (by decide) rfl ?_
  intro p e s m args below meth c s₁ B hml hv
  obtain ⟨rfl, hsz, hP, hK, hD0, hN⟩ := hv
  have hx := B.exec
  have hb := B.bytes
  have hr := B.returns
  have hts := atoms_spec (ws := wsX6_holds) B.pre
  have hown : s.vm.findClass RX6 = some m.cls := findClass_of_methodNamed B.named
  have hlocks := B.notSynchronized
  subst hsz
  have hD := hD0.self (sz := s.heap.size)
  generalize hAe : va_A [(a_this, .inr (4, [.ref a_cells, .ref a_filled])), (a_filled, .inl (cyZ, 10, .inl f_filled))] s.heap.size = A at hD ⊢
  have hA : ∀ q : Nat, s.heap.size ≤ q → A q := fun q h => by rw [← hAe]; exact Or.inr h
  clear hAe hD0
  have hS : va_S A s.heap s.heap [] := va_S.rf
  have S : CallFix p m c cX6_holds 2 s (([.ref a_this, .int v1] : List Value).toArray) wsX6_holds RX6 := ⟨hx, hb, hml, hown, hts⟩
  have hl := lv_entry ([.ref a_this, .int v1]) (n := 2) (Nat.le_of_ble_eq_true rfl)
  rw [lg_entry_eq]
  generalize (lg_sl ([.ref a_this, .int v1]) ++ List.replicate (2 - (lg_sl ([.ref a_this, .int v1])).length) Slot.unset).toArray = ls at hl ⊢
  replace hl : lv_has ls 2 [(0, .ref a_this), (1, .int v1)] := hl
  generalize ([] : List Loc) = locs at hS ⊢
  delta kX6_holds at hf
  obtain ⟨H, hH⟩ : ∃ H, H = s.heap := ⟨_, rfl⟩
  have hS : va_S A s.heap H locs := by rw [hH]; exact hS
  have hP : va_P D vwCl [(a_this, .inr (4, [.ref a_cells, .ref a_filled])), (a_filled, .inl (cyZ, 10, .inl f_filled))] H := by rw [hH]; exact hP
  suffices hgo : W p l e (headSpec wsX6_holds rmX6_holds).room s m (([.ref a_this, .int v1] : List Value).toArray) below meth c H locs 0 0 (MQ below (kQi D cyI cyZ A [(a_this, .inr (4, [.ref a_cells, .ref a_filled])), (a_filled, .inl (cyZ, 10, .inl f_filled))] r) (([.ref a_this, .int v1] : List Value).toArray) s 0 0 A) (F0 m 0 ls []) by rw [hH] at hgo; exact hgo
  clear hH
  refine lv_iload_n hx hb dX6_holds_0 rfl (lv_at hl 1 rfl) ?_
  have hJ_1 : ∀  (H : Heap) (locs : List Loc) (ls : Array Slot), kX6_holds_J1  = some r → va_P D vwCl [(a_this, .inr (4, [.ref a_cells, .ref a_filled])), (a_filled, .inl (cyZ, 10, .inl f_filled))] H → va_D A [(a_this, .inr (4, [.ref a_cells, .ref a_filled])), (a_filled, .inl (cyZ, 10, .inl f_filled))] → va_S A s.heap H locs → lv_has ls 2 [] → W p l e (headSpec wsX6_holds rmX6_holds).room s m (([.ref a_this, .int v1] : List Value).toArray) below meth c H locs 0 0 (MQ below (kQi D cyI cyZ A [(a_this, .inr (4, [.ref a_cells, .ref a_filled])), (a_filled, .inl (cyZ, 10, .inl f_filled))] r) (([.ref a_this, .int v1] : List Value).toArray) s 0 0 A) (F0 m 23 ls []) := by
    intro  H locs ls hf hP hD hS hl
    delta kX6_holds_J1 at hf
    refine lv_iconst (v := 0) hx hb dX6_holds_23 (by decide) ?_
    obtain rfl := some1_s hf
    exact kRz hx hb hr hlocks hP hK hD hS zn0 rfl dX6_holds_24
  refine lv_if_lt (tgt := 23) hx hb dX6_holds_1 (by decide) (fun c_4 => ?_) (fun c_4 => ?_)
  · replace hf := kt_p hf c_4
    exact hJ_1 H locs ls hf hP hD hS (lv_sub hl [] rfl)
  · replace hf := kt_n hf c_4
    refine lv_iload_n hx hb dX6_holds_4 rfl (lv_at hl 1 rfl) ?_
    refine lv_bipush (v := 10) hx hb dX6_holds_5 (by decide) ?_
    refine lv_icmp_ge (tgt := 23) hx hb dX6_holds_7 (by decide) (fun c_3 => ?_) (fun c_3 => ?_)
    · replace hf := kt_p hf c_3
      exact hJ_1 H locs ls hf hP hD hS (lv_sub hl [] rfl)
    · replace hf := kt_n hf c_3
      refine lv_aload_n hx hb dX6_holds_10 rfl (lv_at hl 0 rfl) ?_
      refine va_get (D := D) (ci := 4) (v := .ref a_filled) (C := RX6) (T := TX6) (N := 2) hx hb hts qX6_holds_X6 hown hK hP 0 rfl rfl 1 (Nat.le_of_ble_eq_true rfl) (hts (.fieldLink RX6 15 "KnotDiagram$Shelf" "filled" "[Z") qX6_holds_0) (fun _ h9 => h9) rfl dX6_holds_11 ?_
      refine lv_iload_n hx hb dX6_holds_14 rfl (lv_at hl 1 rfl) ?_
      obtain ⟨hi_1, hf⟩ := ck_s hf
      refine va_zald hx hb hK hP 1 1 rfl rfl hi_1 dX6_holds_15 ?_
      refine lv_if_eq (tgt := 23) hx hb dX6_holds_16 (by decide) (fun c_2 => ?_) (fun c_2 => ?_)
      · replace hf := kt_p hf c_2
        exact hJ_1 H locs ls hf hP hD hS (lv_sub hl [] rfl)
      · replace hf := kt_n hf c_2
        refine lv_iconst (v := 1) hx hb dX6_holds_19 (by decide) ?_
        refine lv_goto (tgt := 24) hx hb dX6_holds_20 (by decide) ?_
        obtain rfl := some1_s hf
        exact kRz hx hb hr hlocks hP hK hD hS zn1 rfl dX6_holds_24
def kX6_keep_L1 (v1 : Int32) (i_p2_crossings : Int32) (i_p2_circles : Int32) (f_filled : Nat → Int32) (f_p2_arcs : Nat → Int32) (K_1 : Int32 → (Nat → Int32) → Option ((Nat → Int32) × (Nat → Int32))) (v4_1 : Int32) (f_cells_1 : Nat → Int32) : Option ((Nat → Int32) × (Nat → Int32)) :=
  if 32 ≤ v4_1 then ck ((v1 * 34) + 32) 340 (ck (((v1 * 34) + 32) + 1) 340 (ck v1 10 (some ((upd (upd f_cells_1 ((v1 * 34) + 32).toNatClampNeg i_p2_crossings) (((v1 * 34) + 32) + 1).toNatClampNeg i_p2_circles), (upd f_filled v1.toNatClampNeg (1 &&& 1)))))) else bnd1 (kX2_arc v4_1 f_p2_arcs) (fun r_4 => ck ((v1 * 34) + v4_1) 340 (K_1 (v4_1 + 1) (upd f_cells_1 ((v1 * 34) + v4_1).toNatClampNeg r_4)))
def kX6_keep (v1 : Int32) (f_cells : Nat → Int32) (f_filled : Nat → Int32) (i_p2_crossings : Int32) (i_p2_circles : Int32) (f_p2_arcs : Nat → Int32) : Option ((Nat → Int32) × (Nat → Int32)) :=
  if v1 < 0 then some (f_cells, f_filled) else if v1 < 10 then it2 (kX6_keep_L1 v1 i_p2_crossings i_p2_circles f_filled f_p2_arcs) 400 0 f_cells else some (f_cells, f_filled)
def rmX6_keep : Room := { frames := 1, cells := 0, slots := 0, locals := 21 }
theorem qX6_keep_0 : (.fieldLink RX6 11 "KnotDiagram$Shelf" "cells" "[I" : Cond) ∈ wsX6_keep := by decide +kernel
theorem qX6_keep_1 : (.fieldLink RX6 25 "KnotDiagram$Diagram" "crossings" "I" : Cond) ∈ wsX6_keep := by decide +kernel
theorem qX6_keep_2 : (.fieldLink RX6 29 "KnotDiagram$Diagram" "circles" "I" : Cond) ∈ wsX6_keep := by decide +kernel
theorem qX6_keep_3 : (.fieldLink RX6 15 "KnotDiagram$Shelf" "filled" "[Z" : Cond) ∈ wsX6_keep := by decide +kernel
theorem qX6_keep_X6 : ∀ w ∈ wsX60, w ∈ wsX6_keep := by decide +kernel
theorem qX6_keep_X2 : ∀ w ∈ wsX20, w ∈ wsX6_keep := by decide +kernel
set_option maxHeartbeats 4000000 in
set_option maxRecDepth 100000 in
theorem mX6_keep (l : Launch) (D : va_G) (cyI cyZ : ClassId) (sz : Nat) (a_this a_p2 a_cells a_filled a_p2_arcs : Nat) (v1 : Int32) (f_cells : Nat → Int32) (f_filled : Nat → Int32) (i_p2_crossings : Int32) (i_p2_circles : Int32) (f_p2_arcs : Nat → Int32) (o_cells : Nat → Int32) (o_filled : Nat → Int32) (hf : kX6_keep v1 f_cells f_filled i_p2_crossings i_p2_circles f_p2_arcs = some (o_cells, o_filled)) : Met l yX6_keep wsX6_keep rmX6_keep (kPre D cyI cyZ [.ref a_this, .int v1, .ref a_p2] [(a_this, .inr (4, [.ref a_cells, .ref a_filled])), (a_cells, .inl (cyI, 340, .inl f_cells)), (a_filled, .inl (cyZ, 10, .inl f_filled)), (a_p2, .inr (2, [.int i_p2_crossings, .int i_p2_circles, .ref a_p2_arcs])), (a_p2_arcs, .inl (cyI, 32, .inl f_p2_arcs))] sz) (kQv D cyI cyZ (va_A [(a_this, .inr (4, [.ref a_cells, .ref a_filled])), (a_cells, .inl (cyI, 340, .inl f_cells)), (a_filled, .inl (cyZ, 10, .inl f_filled)), (a_p2, .inr (2, [.int i_p2_crossings, .int i_p2_circles, .ref a_p2_arcs])), (a_p2_arcs, .inl (cyI, 32, .inl f_p2_arcs))] sz) [(a_this, .inr (4, [.ref a_cells, .ref a_filled])), (a_cells, .inl (cyI, 340, .inl o_cells)), (a_filled, .inl (cyZ, 10, .inl o_filled)), (a_p2, .inr (2, [.int i_p2_crossings, .int i_p2_circles, .ref a_p2_arcs])), (a_p2_arcs, .inl (cyI, 32, .inl f_p2_arcs))]) 0 0 (va_A [(a_this, .inr (4, [.ref a_cells, .ref a_filled])), (a_cells, .inl (cyI, 340, .inl f_cells)), (a_filled, .inl (cyZ, 10, .inl f_filled)), (a_p2, .inr (2, [.int i_p2_crossings, .int i_p2_circles, .ref a_p2_arcs])), (a_p2_arcs, .inl (cyI, 32, .inl f_p2_arcs))] sz) := by
  refine Met.ofW (cc := cX6_keep) (maxL := 5) (ret := none) (by decide) rfl ?_
  intro p e s m args below meth c s₁ B hml hv
  obtain ⟨rfl, hsz, hP, hK, hD0, hN⟩ := hv
  have hx := B.exec
  have hb := B.bytes
  have hr := B.returns
  have hts := atoms_spec (ws := wsX6_keep) B.pre
  have hown : s.vm.findClass RX6 = some m.cls := findClass_of_methodNamed B.named
  have hlocks := B.notSynchronized
  subst hsz
  have hD := hD0.self (sz := s.heap.size)
  generalize hAe : va_A [(a_this, .inr (4, [.ref a_cells, .ref a_filled])), (a_cells, .inl (cyI, 340, .inl f_cells)), (a_filled, .inl (cyZ, 10, .inl f_filled)), (a_p2, .inr (2, [.int i_p2_crossings, .int i_p2_circles, .ref a_p2_arcs])), (a_p2_arcs, .inl (cyI, 32, .inl f_p2_arcs))] s.heap.size = A at hD ⊢
  have hA : ∀ q : Nat, s.heap.size ≤ q → A q := fun q h => by rw [← hAe]; exact Or.inr h
  clear hAe hD0
  have hS : va_S A s.heap s.heap [] := va_S.rf
  have S : CallFix p m c cX6_keep 5 s (([.ref a_this, .int v1, .ref a_p2] : List Value).toArray) wsX6_keep RX6 := ⟨hx, hb, hml, hown, hts⟩
  have hl := lv_entry ([.ref a_this, .int v1, .ref a_p2]) (n := 5) (Nat.le_of_ble_eq_true rfl)
  rw [lg_entry_eq]
  generalize (lg_sl ([.ref a_this, .int v1, .ref a_p2]) ++ List.replicate (5 - (lg_sl ([.ref a_this, .int v1, .ref a_p2])).length) Slot.unset).toArray = ls at hl ⊢
  replace hl : lv_has ls 5 [(0, .ref a_this), (1, .int v1), (2, .ref a_p2)] := hl
  generalize ([] : List Loc) = locs at hS ⊢
  delta kX6_keep at hf
  obtain ⟨H, hH⟩ : ∃ H, H = s.heap := ⟨_, rfl⟩
  have hS : va_S A s.heap H locs := by rw [hH]; exact hS
  have hP : va_P D vwCl [(a_this, .inr (4, [.ref a_cells, .ref a_filled])), (a_cells, .inl (cyI, 340, .inl f_cells)), (a_filled, .inl (cyZ, 10, .inl f_filled)), (a_p2, .inr (2, [.int i_p2_crossings, .int i_p2_circles, .ref a_p2_arcs])), (a_p2_arcs, .inl (cyI, 32, .inl f_p2_arcs))] H := by rw [hH]; exact hP
  suffices hgo : W p l e (headSpec wsX6_keep rmX6_keep).room s m (([.ref a_this, .int v1, .ref a_p2] : List Value).toArray) below meth c H locs 0 0 (MQ below (kQv D cyI cyZ A [(a_this, .inr (4, [.ref a_cells, .ref a_filled])), (a_cells, .inl (cyI, 340, .inl o_cells)), (a_filled, .inl (cyZ, 10, .inl o_filled)), (a_p2, .inr (2, [.int i_p2_crossings, .int i_p2_circles, .ref a_p2_arcs])), (a_p2_arcs, .inl (cyI, 32, .inl f_p2_arcs))]) (([.ref a_this, .int v1, .ref a_p2] : List Value).toArray) s 0 0 A) (F0 m 0 ls []) by rw [hH] at hgo; exact hgo
  clear hH
  refine lv_iload_n hx hb dX6_keep_0 rfl (lv_at hl 1 rfl) ?_
  refine lv_if_lt (tgt := 10) hx hb dX6_keep_1 (by decide) (fun c_8 => ?_) (fun c_8 => ?_)
  · replace hf := kt_p hf c_8
    obtain ⟨rfl, rfl⟩ := some2_s hf
    exact kRv hx hb hr hlocks hP hK hD hS dX6_keep_10
  · replace hf := kt_n hf c_8
    refine lv_iload_n hx hb dX6_keep_4 rfl (lv_at hl 1 rfl) ?_
    refine lv_bipush (v := 10) hx hb dX6_keep_5 (by decide) ?_
    refine lv_icmp_lt (tgt := 11) hx hb dX6_keep_7 (by decide) (fun c_7 => ?_) (fun c_7 => ?_)
    · replace hf := kt_p hf c_7
      refine lv_iload_n hx hb dX6_keep_11 rfl (lv_at hl 1 rfl) ?_
      refine lv_bipush (v := 34) hx hb dX6_keep_12 (by decide) ?_
      refine lv_imul hx hb dX6_keep_14 ?_
      refine lv_istore_n (lv' := [(3, .int (v1 * 34)), (0, .ref a_this), (1, .int v1), (2, .ref a_p2)]) hx hb dX6_keep_15 rfl hl (by decide) rfl (fun ls hl => ?_)
      refine lv_iconst (v := 0) hx hb dX6_keep_16 (by decide) ?_
      refine lv_istore (lv' := [(4, .int 0), (3, .int (v1 * 34)), (0, .ref a_this), (1, .int v1), (2, .ref a_p2)]) hx hb dX6_keep_17 hl (by decide) rfl (fun ls hl => ?_)
      have hL_1 : ∀ (n : Nat) (v4_1 : Int32) (f_cells_1 : Nat → Int32) (H : Heap) (locs : List Loc) (ls : Array Slot), it2 (kX6_keep_L1 v1 i_p2_crossings i_p2_circles f_filled f_p2_arcs) n v4_1 f_cells_1 = some (o_cells, o_filled) → va_P D vwCl [(a_this, .inr (4, [.ref a_cells, .ref a_filled])), (a_cells, .inl (cyI, 340, .inl f_cells_1)), (a_filled, .inl (cyZ, 10, .inl f_filled)), (a_p2, .inr (2, [.int i_p2_crossings, .int i_p2_circles, .ref a_p2_arcs])), (a_p2_arcs, .inl (cyI, 32, .inl f_p2_arcs))] H → va_D A [(a_this, .inr (4, [.ref a_cells, .ref a_filled])), (a_cells, .inl (cyI, 340, .inl f_cells_1)), (a_filled, .inl (cyZ, 10, .inl f_filled)), (a_p2, .inr (2, [.int i_p2_crossings, .int i_p2_circles, .ref a_p2_arcs])), (a_p2_arcs, .inl (cyI, 32, .inl f_p2_arcs))] → va_S A s.heap H locs → lv_has ls 5 [(0, .ref a_this), (1, .int v1), (2, .ref a_p2), (3, .int (v1 * 34)), (4, .int v4_1)] → W p l e (headSpec wsX6_keep rmX6_keep).room s m (([.ref a_this, .int v1, .ref a_p2] : List Value).toArray) below meth c H locs 0 0 (MQ below (kQv D cyI cyZ A [(a_this, .inr (4, [.ref a_cells, .ref a_filled])), (a_cells, .inl (cyI, 340, .inl o_cells)), (a_filled, .inl (cyZ, 10, .inl o_filled)), (a_p2, .inr (2, [.int i_p2_crossings, .int i_p2_circles, .ref a_p2_arcs])), (a_p2_arcs, .inl (cyI, 32, .inl f_p2_arcs))]) (([.ref a_this, .int v1, .ref a_p2] : List Value).toArray) s 0 0 A) (F0 m 19 ls []) := by
        intro n_1
        induction n_1 with
        | zero =>
          intro _ _ _ _ _ hf
          exact (it2_z hf).elim
        | succ n_1 ih_1 =>
          intro v4_1 f_cells_1 H locs ls hf hP hD hS hl
          replace hf := it2_s hf
          rw [kX6_keep_L1] at hf
          refine lv_iload hx hb dX6_keep_19 (lv_at hl 4 rfl) ?_
          refine lv_bipush (v := 32) hx hb dX6_keep_21 (by decide) ?_
          refine lv_icmp_ge (tgt := 47) hx hb dX6_keep_23 (by decide) (fun c_6 => ?_) (fun c_6 => ?_)
          · replace hf := kt_p hf c_6
            refine lv_aload_n hx hb dX6_keep_47 rfl (lv_at hl 0 rfl) ?_
            refine va_get (D := D) (ci := 4) (v := .ref a_cells) (C := RX6) (T := TX6) (N := 2) hx hb hts qX6_keep_X6 hown hK hP 0 rfl rfl 0 (Nat.le_of_ble_eq_true rfl) (hts (.fieldLink RX6 11 "KnotDiagram$Shelf" "cells" "[I") qX6_keep_0) (fun _ h9 => h9) rfl dX6_keep_48 ?_
            refine lv_iload_n hx hb dX6_keep_51 rfl (lv_at hl 3 rfl) ?_
            refine lv_bipush (v := 32) hx hb dX6_keep_52 (by decide) ?_
            refine lv_iadd hx hb dX6_keep_54 ?_
            refine lv_aload_n hx hb dX6_keep_55 rfl (lv_at hl 2 rfl) ?_
            refine va_get (D := D) (ci := 2) (v := .int i_p2_crossings) (C := RX2) (T := TX2) (N := 3) hx hb hts qX6_keep_X2 hown hK hP 3 rfl rfl 0 (Nat.le_of_ble_eq_true rfl) (hts (.fieldLink RX6 25 "KnotDiagram$Diagram" "crossings" "I") qX6_keep_1) (fun _ h9 => h9) rfl dX6_keep_56 ?_
            obtain ⟨hi_1, hf⟩ := ck_s hf
            refine va_iast hx hb hK hP hD hS 1 0 rfl rfl hi_1 dX6_keep_59 (fun H locs hP hD hS => ?_)
            replace hP : va_P D vwCl [(a_this, .inr (4, [.ref a_cells, .ref a_filled])), (a_cells, .inl (cyI, 340, .inl (upd f_cells_1 ((v1 * 34) + 32).toNatClampNeg i_p2_crossings))), (a_filled, .inl (cyZ, 10, .inl f_filled)), (a_p2, .inr (2, [.int i_p2_crossings, .int i_p2_circles, .ref a_p2_arcs])), (a_p2_arcs, .inl (cyI, 32, .inl f_p2_arcs))] H := hP
            replace hD : va_D A [(a_this, .inr (4, [.ref a_cells, .ref a_filled])), (a_cells, .inl (cyI, 340, .inl (upd f_cells_1 ((v1 * 34) + 32).toNatClampNeg i_p2_crossings))), (a_filled, .inl (cyZ, 10, .inl f_filled)), (a_p2, .inr (2, [.int i_p2_crossings, .int i_p2_circles, .ref a_p2_arcs])), (a_p2_arcs, .inl (cyI, 32, .inl f_p2_arcs))] := hD
            refine lv_aload_n hx hb dX6_keep_60 rfl (lv_at hl 0 rfl) ?_
            refine va_get (D := D) (ci := 4) (v := .ref a_cells) (C := RX6) (T := TX6) (N := 2) hx hb hts qX6_keep_X6 hown hK hP 0 rfl rfl 0 (Nat.le_of_ble_eq_true rfl) (hts (.fieldLink RX6 11 "KnotDiagram$Shelf" "cells" "[I") qX6_keep_0) (fun _ h9 => h9) rfl dX6_keep_61 ?_
            refine lv_iload_n hx hb dX6_keep_64 rfl (lv_at hl 3 rfl) ?_
            refine lv_bipush (v := 32) hx hb dX6_keep_65 (by decide) ?_
            refine lv_iadd hx hb dX6_keep_67 ?_
            refine lv_iconst (v := 1) hx hb dX6_keep_68 (by decide) ?_
            refine lv_iadd hx hb dX6_keep_69 ?_
            refine lv_aload_n hx hb dX6_keep_70 rfl (lv_at hl 2 rfl) ?_
            refine va_get (D := D) (ci := 2) (v := .int i_p2_circles) (C := RX2) (T := TX2) (N := 3) hx hb hts qX6_keep_X2 hown hK hP 3 rfl rfl 1 (Nat.le_of_ble_eq_true rfl) (hts (.fieldLink RX6 29 "KnotDiagram$Diagram" "circles" "I") qX6_keep_2) (fun _ h9 => h9) rfl dX6_keep_71 ?_
            obtain ⟨hi_2, hf⟩ := ck_s hf
            refine va_iast hx hb hK hP hD hS 1 0 rfl rfl hi_2 dX6_keep_74 (fun H locs hP hD hS => ?_)
            replace hP : va_P D vwCl [(a_this, .inr (4, [.ref a_cells, .ref a_filled])), (a_cells, .inl (cyI, 340, .inl (upd (upd f_cells_1 ((v1 * 34) + 32).toNatClampNeg i_p2_crossings) (((v1 * 34) + 32) + 1).toNatClampNeg i_p2_circles))), (a_filled, .inl (cyZ, 10, .inl f_filled)), (a_p2, .inr (2, [.int i_p2_crossings, .int i_p2_circles, .ref a_p2_arcs])), (a_p2_arcs, .inl (cyI, 32, .inl f_p2_arcs))] H := hP
            replace hD : va_D A [(a_this, .inr (4, [.ref a_cells, .ref a_filled])), (a_cells, .inl (cyI, 340, .inl (upd (upd f_cells_1 ((v1 * 34) + 32).toNatClampNeg i_p2_crossings) (((v1 * 34) + 32) + 1).toNatClampNeg i_p2_circles))), (a_filled, .inl (cyZ, 10, .inl f_filled)), (a_p2, .inr (2, [.int i_p2_crossings, .int i_p2_circles, .ref a_p2_arcs])), (a_p2_arcs, .inl (cyI, 32, .inl f_p2_arcs))] := hD
            refine lv_aload_n hx hb dX6_keep_75 rfl (lv_at hl 0 rfl) ?_
            refine va_get (D := D) (ci := 4) (v := .ref a_filled) (C := RX6) (T := TX6) (N := 2) hx hb hts qX6_keep_X6 hown hK hP 0 rfl rfl 1 (Nat.le_of_ble_eq_true rfl) (hts (.fieldLink RX6 15 "KnotDiagram$Shelf" "filled" "[Z") qX6_keep_3) (fun _ h9 => h9) rfl dX6_keep_76 ?_
            refine lv_iload_n hx hb dX6_keep_79 rfl (lv_at hl 1 rfl) ?_
            refine lv_iconst (v := 1) hx hb dX6_keep_80 (by decide) ?_
            obtain ⟨hi_3, hf⟩ := ck_s hf
            refine va_zast hx hb hK hP hD hS 2 1 rfl rfl hi_3 dX6_keep_81 (fun H locs hP hD hS => ?_)
            replace hP : va_P D vwCl [(a_this, .inr (4, [.ref a_cells, .ref a_filled])), (a_cells, .inl (cyI, 340, .inl (upd (upd f_cells_1 ((v1 * 34) + 32).toNatClampNeg i_p2_crossings) (((v1 * 34) + 32) + 1).toNatClampNeg i_p2_circles))), (a_filled, .inl (cyZ, 10, .inl (upd f_filled v1.toNatClampNeg (1 &&& 1)))), (a_p2, .inr (2, [.int i_p2_crossings, .int i_p2_circles, .ref a_p2_arcs])), (a_p2_arcs, .inl (cyI, 32, .inl f_p2_arcs))] H := hP
            replace hD : va_D A [(a_this, .inr (4, [.ref a_cells, .ref a_filled])), (a_cells, .inl (cyI, 340, .inl (upd (upd f_cells_1 ((v1 * 34) + 32).toNatClampNeg i_p2_crossings) (((v1 * 34) + 32) + 1).toNatClampNeg i_p2_circles))), (a_filled, .inl (cyZ, 10, .inl (upd f_filled v1.toNatClampNeg (1 &&& 1)))), (a_p2, .inr (2, [.int i_p2_crossings, .int i_p2_circles, .ref a_p2_arcs])), (a_p2_arcs, .inl (cyI, 32, .inl f_p2_arcs))] := hD
            obtain ⟨rfl, rfl⟩ := some2_s hf
            exact kRv hx hb hr hlocks hP hK hD hS dX6_keep_82
          · replace hf := kt_n hf c_6
            refine lv_aload_n hx hb dX6_keep_26 rfl (lv_at hl 0 rfl) ?_
            refine va_get (D := D) (ci := 4) (v := .ref a_cells) (C := RX6) (T := TX6) (N := 2) hx hb hts qX6_keep_X6 hown hK hP 0 rfl rfl 0 (Nat.le_of_ble_eq_true rfl) (hts (.fieldLink RX6 11 "KnotDiagram$Shelf" "cells" "[I") qX6_keep_0) (fun _ h9 => h9) rfl dX6_keep_27 ?_
            refine lv_iload_n hx hb dX6_keep_30 rfl (lv_at hl 3 rfl) ?_
            refine lv_iload hx hb dX6_keep_31 (lv_at hl 4 rfl) ?_
            refine lv_iadd hx hb dX6_keep_33 ?_
            refine lv_aload_n hx hb dX6_keep_34 rfl (lv_at hl 2 rfl) ?_
            refine lv_iload hx hb dX6_keep_35 (lv_at hl 4 rfl) ?_
            obtain ⟨r_4, hc_4, hf⟩ := bnd1_s hf
            refine kcVi (As := [.int v4_1]) (rest := [.int ((v1 * 34) + v4_1), .ref a_cells]) (w2 := [(a_this, .inr (4, [.ref a_cells, .ref a_filled])), (a_cells, .inl (cyI, 340, .inl f_cells_1)), (a_filled, .inl (cyZ, 10, .inl f_filled)), (a_p2, .inr (2, [.int i_p2_crossings, .int i_p2_circles, .ref a_p2_arcs])), (a_p2_arcs, .inl (cyI, 32, .inl f_p2_arcs))]) S hK hP hD hS hA hN (mX2_arc l D cyI cyZ H.size a_p2 a_p2_arcs v4_1 i_p2_crossings i_p2_circles f_p2_arcs r_4 hc_4) (cwV 1 hts gX6_keep_X2_arc rfl rfl rfl (by decide +kernel) ⟨Nat.le_of_ble_eq_true rfl, Nat.le_of_ble_eq_true rfl⟩) 2 3 rfl rfl [3, 4] [0, 1, 2] [0, 1, 2, 3, 4] rfl rfl rfl rfl (by decide) rfl rfl hl.1 (Nat.le_of_ble_eq_true rfl) dX6_keep_37 ⟨Nat.le_of_ble_eq_true rfl, Nat.le_of_ble_eq_true rfl⟩ (fun H locs hP hD hS => ?_)
            obtain ⟨hi_5, hf⟩ := ck_s hf
            refine va_iast hx hb hK hP hD hS 1 0 rfl rfl hi_5 dX6_keep_40 (fun H locs hP hD hS => ?_)
            replace hP : va_P D vwCl [(a_this, .inr (4, [.ref a_cells, .ref a_filled])), (a_cells, .inl (cyI, 340, .inl (upd f_cells_1 ((v1 * 34) + v4_1).toNatClampNeg r_4))), (a_filled, .inl (cyZ, 10, .inl f_filled)), (a_p2, .inr (2, [.int i_p2_crossings, .int i_p2_circles, .ref a_p2_arcs])), (a_p2_arcs, .inl (cyI, 32, .inl f_p2_arcs))] H := hP
            replace hD : va_D A [(a_this, .inr (4, [.ref a_cells, .ref a_filled])), (a_cells, .inl (cyI, 340, .inl (upd f_cells_1 ((v1 * 34) + v4_1).toNatClampNeg r_4))), (a_filled, .inl (cyZ, 10, .inl f_filled)), (a_p2, .inr (2, [.int i_p2_crossings, .int i_p2_circles, .ref a_p2_arcs])), (a_p2_arcs, .inl (cyI, 32, .inl f_p2_arcs))] := hD
            refine lv_iinc (v := (v4_1 + 1)) (lv' := [(4, .int (v4_1 + 1)), (0, .ref a_this), (1, .int v1), (2, .ref a_p2), (3, .int (v1 * 34))]) hx hb dX6_keep_41 hl (k := 4) rfl rfl (by decide) rfl (fun ls hl => ?_)
            refine lv_goto (tgt := 19) hx hb dX6_keep_44 (by decide) ?_
            exact ih_1 (v4_1 + 1) (upd f_cells_1 ((v1 * 34) + v4_1).toNatClampNeg r_4) H locs ls hf hP hD hS (lv_sub hl [1, 2, 3, 4, 0] rfl)
      exact hL_1 400 0 f_cells H locs ls hf hP hD hS (lv_sub hl [2, 3, 4, 1, 0] rfl)
    · replace hf := kt_n hf c_7
      obtain ⟨rfl, rfl⟩ := some2_s hf
      exact kRv hx hb hr hlocks hP hK hD hS dX6_keep_10
def kX6_fetch_L1 (v1 : Int32) (f_cells : Nat → Int32) (K_1 : Int32 → (Nat → Int32) → Option (Int32 × Int32 × (Nat → Int32))) (v4_1 : Int32) (f_p2_arcs_1 : Nat → Int32) : Option (Int32 × Int32 × (Nat → Int32)) :=
  if 32 ≤ v4_1 then ck ((v1 * 34) + 32) 340 (ck (((v1 * 34) + 32) + 1) 340 (some ((f_cells ((v1 * 34) + 32).toNatClampNeg), (f_cells (((v1 * 34) + 32) + 1).toNatClampNeg), f_p2_arcs_1))) else ck ((v1 * 34) + v4_1) 340 (bnd1 (kX2_setArc v4_1 (f_cells ((v1 * 34) + v4_1).toNatClampNeg) f_p2_arcs_1) (fun o_arcs_5 => K_1 (v4_1 + 1) o_arcs_5))
def kX6_fetch (v1 : Int32) (f_cells : Nat → Int32) (f_filled : Nat → Int32) (i_p2_crossings : Int32) (i_p2_circles : Int32) (f_p2_arcs : Nat → Int32) : Option (Int32 × Int32 × (Nat → Int32)) :=
  bnd1 (kX6_holds v1 f_filled) (fun r_1 => if r_1 = 0 then some (i_p2_crossings, i_p2_circles, f_p2_arcs) else it2 (kX6_fetch_L1 v1 f_cells) 400 0 f_p2_arcs)
def rmX6_fetch : Room := { frames := 1, cells := 0, slots := 0, locals := 22 }
theorem qX6_fetch_0 : (.fieldLink RX6 11 "KnotDiagram$Shelf" "cells" "[I" : Cond) ∈ wsX6_fetch := by decide +kernel
theorem qX6_fetch_1 : (.fieldLink RX6 25 "KnotDiagram$Diagram" "crossings" "I" : Cond) ∈ wsX6_fetch := by decide +kernel
theorem qX6_fetch_2 : (.fieldLink RX6 29 "KnotDiagram$Diagram" "circles" "I" : Cond) ∈ wsX6_fetch := by decide +kernel
theorem qX6_fetch_X6 : ∀ w ∈ wsX60, w ∈ wsX6_fetch := by decide +kernel
theorem qX6_fetch_X2 : ∀ w ∈ wsX20, w ∈ wsX6_fetch := by decide +kernel
set_option maxHeartbeats 4000000 in
set_option maxRecDepth 100000 in
theorem mX6_fetch (l : Launch) (D : va_G) (cyI cyZ : ClassId) (sz : Nat) (a_this a_p2 a_cells a_filled a_p2_arcs : Nat) (v1 : Int32) (f_cells : Nat → Int32) (f_filled : Nat → Int32) (i_p2_crossings : Int32) (i_p2_circles : Int32) (f_p2_arcs : Nat → Int32) (o_p2_crossings : Int32) (o_p2_circles : Int32) (o_p2_arcs : Nat → Int32) (hf : kX6_fetch v1 f_cells f_filled i_p2_crossings i_p2_circles f_p2_arcs = some (o_p2_crossings, o_p2_circles, o_p2_arcs)) : Met l yX6_fetch wsX6_fetch rmX6_fetch (kPre D cyI cyZ [.ref a_this, .int v1, .ref a_p2] [(a_this, .inr (4, [.ref a_cells, .ref a_filled])), (a_cells, .inl (cyI, 340, .inl f_cells)), (a_filled, .inl (cyZ, 10, .inl f_filled)), (a_p2, .inr (2, [.int i_p2_crossings, .int i_p2_circles, .ref a_p2_arcs])), (a_p2_arcs, .inl (cyI, 32, .inl f_p2_arcs))] sz) (kQv D cyI cyZ (va_A [(a_this, .inr (4, [.ref a_cells, .ref a_filled])), (a_cells, .inl (cyI, 340, .inl f_cells)), (a_filled, .inl (cyZ, 10, .inl f_filled)), (a_p2, .inr (2, [.int i_p2_crossings, .int i_p2_circles, .ref a_p2_arcs])), (a_p2_arcs, .inl (cyI, 32, .inl f_p2_arcs))] sz) [(a_this, .inr (4, [.ref a_cells, .ref a_filled])), (a_cells, .inl (cyI, 340, .inl f_cells)), (a_filled, .inl (cyZ, 10, .inl f_filled)), (a_p2, .inr (2, [.int o_p2_crossings, .int o_p2_circles, .ref a_p2_arcs])), (a_p2_arcs, .inl (cyI, 32, .inl o_p2_arcs))]) 0 0 (va_A [(a_this, .inr (4, [.ref a_cells, .ref a_filled])), (a_cells, .inl (cyI, 340, .inl f_cells)), (a_filled, .inl (cyZ, 10, .inl f_filled)), (a_p2, .inr (2, [.int i_p2_crossings, .int i_p2_circles, .ref a_p2_arcs])), (a_p2_arcs, .inl (cyI, 32, .inl f_p2_arcs))] sz) := by
  refine Met.ofW (cc := cX6_fetch) (maxL := 5) (ret := none) (by decide) rfl ?_
  intro p e s m args below meth c s₁ B hml hv
  obtain ⟨rfl, hsz, hP, hK, hD0, hN⟩ := hv
  have hx := B.exec
  have hb := B.bytes
  have hr := B.returns
  have hts := atoms_spec (ws := wsX6_fetch) B.pre
  have hown : s.vm.findClass RX6 = some m.cls := findClass_of_methodNamed B.named
  have hlocks := B.notSynchronized
  subst hsz
  have hD := hD0.self (sz := s.heap.size)
  generalize hAe : va_A [(a_this, .inr (4, [.ref a_cells, .ref a_filled])), (a_cells, .inl (cyI, 340, .inl f_cells)), (a_filled, .inl (cyZ, 10, .inl f_filled)), (a_p2, .inr (2, [.int i_p2_crossings, .int i_p2_circles, .ref a_p2_arcs])), (a_p2_arcs, .inl (cyI, 32, .inl f_p2_arcs))] s.heap.size = A at hD ⊢
  have hA : ∀ q : Nat, s.heap.size ≤ q → A q := fun q h => by rw [← hAe]; exact Or.inr h
  clear hAe hD0
  have hS : va_S A s.heap s.heap [] := va_S.rf
  have S : CallFix p m c cX6_fetch 5 s (([.ref a_this, .int v1, .ref a_p2] : List Value).toArray) wsX6_fetch RX6 := ⟨hx, hb, hml, hown, hts⟩
  have hl := lv_entry ([.ref a_this, .int v1, .ref a_p2]) (n := 5) (Nat.le_of_ble_eq_true rfl)
  rw [lg_entry_eq]
  generalize (lg_sl ([.ref a_this, .int v1, .ref a_p2]) ++ List.replicate (5 - (lg_sl ([.ref a_this, .int v1, .ref a_p2])).length) Slot.unset).toArray = ls at hl ⊢
  replace hl : lv_has ls 5 [(0, .ref a_this), (1, .int v1), (2, .ref a_p2)] := hl
  generalize ([] : List Loc) = locs at hS ⊢
  delta kX6_fetch at hf
  obtain ⟨H, hH⟩ : ∃ H, H = s.heap := ⟨_, rfl⟩
  have hS : va_S A s.heap H locs := by rw [hH]; exact hS
  have hP : va_P D vwCl [(a_this, .inr (4, [.ref a_cells, .ref a_filled])), (a_cells, .inl (cyI, 340, .inl f_cells)), (a_filled, .inl (cyZ, 10, .inl f_filled)), (a_p2, .inr (2, [.int i_p2_crossings, .int i_p2_circles, .ref a_p2_arcs])), (a_p2_arcs, .inl (cyI, 32, .inl f_p2_arcs))] H := by rw [hH]; exact hP
  suffices hgo : W p l e (headSpec wsX6_fetch rmX6_fetch).room s m (([.ref a_this, .int v1, .ref a_p2] : List Value).toArray) below meth c H locs 0 0 (MQ below (kQv D cyI cyZ A [(a_this, .inr (4, [.ref a_cells, .ref a_filled])), (a_cells, .inl (cyI, 340, .inl f_cells)), (a_filled, .inl (cyZ, 10, .inl f_filled)), (a_p2, .inr (2, [.int o_p2_crossings, .int o_p2_circles, .ref a_p2_arcs])), (a_p2_arcs, .inl (cyI, 32, .inl o_p2_arcs))]) (([.ref a_this, .int v1, .ref a_p2] : List Value).toArray) s 0 0 A) (F0 m 0 ls []) by rw [hH] at hgo; exact hgo
  clear hH
  refine lv_aload_n hx hb dX6_fetch_0 rfl (lv_at hl 0 rfl) ?_
  refine lv_iload_n hx hb dX6_fetch_1 rfl (lv_at hl 1 rfl) ?_
  obtain ⟨r_1, hc_1, hf⟩ := bnd1_s hf
  refine kcVi (As := [.int v1]) (rest := []) (w2 := [(a_this, .inr (4, [.ref a_cells, .ref a_filled])), (a_cells, .inl (cyI, 340, .inl f_cells)), (a_filled, .inl (cyZ, 10, .inl f_filled)), (a_p2, .inr (2, [.int i_p2_crossings, .int i_p2_circles, .ref a_p2_arcs])), (a_p2_arcs, .inl (cyI, 32, .inl f_p2_arcs))]) S hK hP hD hS hA hN (mX6_holds l D cyI cyZ H.size a_this a_cells a_filled v1 f_filled r_1 hc_1) (cwV 1 hts gX6_fetch_X6_holds rfl rfl rfl (by decide +kernel) ⟨Nat.le_of_ble_eq_true rfl, Nat.le_of_ble_eq_true rfl⟩) 4 0 rfl rfl [0, 2] [1, 3, 4] [3, 0, 4, 1, 2] rfl rfl rfl rfl (by decide) rfl rfl hl.1 (Nat.le_of_ble_eq_true rfl) dX6_fetch_2 ⟨Nat.le_of_ble_eq_true rfl, Nat.le_of_ble_eq_true rfl⟩ (fun H locs hP hD hS => ?_)
  refine lv_if_ne (tgt := 9) hx hb dX6_fetch_5 (by decide) (fun c_7 => ?_) (fun c_7 => ?_)
  · replace hf := kt_n hf c_7
    refine lv_iload_n hx hb dX6_fetch_9 rfl (lv_at hl 1 rfl) ?_
    refine lv_bipush (v := 34) hx hb dX6_fetch_10 (by decide) ?_
    refine lv_imul hx hb dX6_fetch_12 ?_
    refine lv_istore_n (lv' := [(3, .int (v1 * 34)), (0, .ref a_this), (1, .int v1), (2, .ref a_p2)]) hx hb dX6_fetch_13 rfl hl (by decide) rfl (fun ls hl => ?_)
    refine lv_iconst (v := 0) hx hb dX6_fetch_14 (by decide) ?_
    refine lv_istore (lv' := [(4, .int 0), (3, .int (v1 * 34)), (0, .ref a_this), (1, .int v1), (2, .ref a_p2)]) hx hb dX6_fetch_15 hl (by decide) rfl (fun ls hl => ?_)
    have hL_1 : ∀ (n : Nat) (v4_1 : Int32) (f_p2_arcs_1 : Nat → Int32) (H : Heap) (locs : List Loc) (ls : Array Slot), it2 (kX6_fetch_L1 v1 f_cells) n v4_1 f_p2_arcs_1 = some (o_p2_crossings, o_p2_circles, o_p2_arcs) → va_P D vwCl [(a_this, .inr (4, [.ref a_cells, .ref a_filled])), (a_cells, .inl (cyI, 340, .inl f_cells)), (a_filled, .inl (cyZ, 10, .inl f_filled)), (a_p2, .inr (2, [.int i_p2_crossings, .int i_p2_circles, .ref a_p2_arcs])), (a_p2_arcs, .inl (cyI, 32, .inl f_p2_arcs_1))] H → va_D A [(a_this, .inr (4, [.ref a_cells, .ref a_filled])), (a_cells, .inl (cyI, 340, .inl f_cells)), (a_filled, .inl (cyZ, 10, .inl f_filled)), (a_p2, .inr (2, [.int i_p2_crossings, .int i_p2_circles, .ref a_p2_arcs])), (a_p2_arcs, .inl (cyI, 32, .inl f_p2_arcs_1))] → va_S A s.heap H locs → lv_has ls 5 [(0, .ref a_this), (2, .ref a_p2), (3, .int (v1 * 34)), (4, .int v4_1)] → W p l e (headSpec wsX6_fetch rmX6_fetch).room s m (([.ref a_this, .int v1, .ref a_p2] : List Value).toArray) below meth c H locs 0 0 (MQ below (kQv D cyI cyZ A [(a_this, .inr (4, [.ref a_cells, .ref a_filled])), (a_cells, .inl (cyI, 340, .inl f_cells)), (a_filled, .inl (cyZ, 10, .inl f_filled)), (a_p2, .inr (2, [.int o_p2_crossings, .int o_p2_circles, .ref a_p2_arcs])), (a_p2_arcs, .inl (cyI, 32, .inl o_p2_arcs))]) (([.ref a_this, .int v1, .ref a_p2] : List Value).toArray) s 0 0 A) (F0 m 17 ls []) := by
      intro n_1
      induction n_1 with
      | zero =>
        intro _ _ _ _ _ hf
        exact (it2_z hf).elim
      | succ n_1 ih_1 =>
        intro v4_1 f_p2_arcs_1 H locs ls hf hP hD hS hl
        replace hf := it2_s hf
        rw [kX6_fetch_L1] at hf
        refine lv_iload hx hb dX6_fetch_17 (lv_at hl 3 rfl) ?_
        refine lv_bipush (v := 32) hx hb dX6_fetch_19 (by decide) ?_
        refine lv_icmp_ge (tgt := 45) hx hb dX6_fetch_21 (by decide) (fun c_6 => ?_) (fun c_6 => ?_)
        · replace hf := kt_p hf c_6
          refine lv_aload_n hx hb dX6_fetch_45 rfl (lv_at hl 1 rfl) ?_
          refine lv_aload_n hx hb dX6_fetch_46 rfl (lv_at hl 0 rfl) ?_
          refine va_get (D := D) (ci := 4) (v := .ref a_cells) (C := RX6) (T := TX6) (N := 2) hx hb hts qX6_fetch_X6 hown hK hP 0 rfl rfl 0 (Nat.le_of_ble_eq_true rfl) (hts (.fieldLink RX6 11 "KnotDiagram$Shelf" "cells" "[I") qX6_fetch_0) (fun _ h9 => h9) rfl dX6_fetch_47 ?_
          refine lv_iload_n hx hb dX6_fetch_50 rfl (lv_at hl 2 rfl) ?_
          refine lv_bipush (v := 32) hx hb dX6_fetch_51 (by decide) ?_
          refine lv_iadd hx hb dX6_fetch_53 ?_
          obtain ⟨hi_2, hf⟩ := ck_s hf
          refine va_iald hx hb hK hP 1 0 rfl rfl hi_2 dX6_fetch_54 ?_
          refine va_put (D := D) (ci := 2) (v := .int (f_cells ((v1 * 34) + 32).toNatClampNeg)) (ty := .int) (C := RX2) (T := TX2) (N := 3) hx hb hts qX6_fetch_X2 tyX2 tyX2_ok nmX2 hown hK hP hD hS 3 rfl rfl 0 (Nat.le_of_ble_eq_true rfl) (hts (.fieldLink RX6 25 "KnotDiagram$Diagram" "crossings" "I") qX6_fetch_1) (fun _ h9 => h9) rfl (by decide +kernel) rfl rfl (Nat.le_of_ble_eq_true rfl) dX6_fetch_55 (fun H locs hP hD hS => ?_)
          replace hP : va_P D vwCl [(a_this, .inr (4, [.ref a_cells, .ref a_filled])), (a_cells, .inl (cyI, 340, .inl f_cells)), (a_filled, .inl (cyZ, 10, .inl f_filled)), (a_p2, .inr (2, [.int (f_cells ((v1 * 34) + 32).toNatClampNeg), .int i_p2_circles, .ref a_p2_arcs])), (a_p2_arcs, .inl (cyI, 32, .inl f_p2_arcs_1))] H := hP
          replace hD : va_D A [(a_this, .inr (4, [.ref a_cells, .ref a_filled])), (a_cells, .inl (cyI, 340, .inl f_cells)), (a_filled, .inl (cyZ, 10, .inl f_filled)), (a_p2, .inr (2, [.int (f_cells ((v1 * 34) + 32).toNatClampNeg), .int i_p2_circles, .ref a_p2_arcs])), (a_p2_arcs, .inl (cyI, 32, .inl f_p2_arcs_1))] := hD
          refine lv_aload_n hx hb dX6_fetch_58 rfl (lv_at hl 1 rfl) ?_
          refine lv_aload_n hx hb dX6_fetch_59 rfl (lv_at hl 0 rfl) ?_
          refine va_get (D := D) (ci := 4) (v := .ref a_cells) (C := RX6) (T := TX6) (N := 2) hx hb hts qX6_fetch_X6 hown hK hP 0 rfl rfl 0 (Nat.le_of_ble_eq_true rfl) (hts (.fieldLink RX6 11 "KnotDiagram$Shelf" "cells" "[I") qX6_fetch_0) (fun _ h9 => h9) rfl dX6_fetch_60 ?_
          refine lv_iload_n hx hb dX6_fetch_63 rfl (lv_at hl 2 rfl) ?_
          refine lv_bipush (v := 32) hx hb dX6_fetch_64 (by decide) ?_
          refine lv_iadd hx hb dX6_fetch_66 ?_
          refine lv_iconst (v := 1) hx hb dX6_fetch_67 (by decide) ?_
          refine lv_iadd hx hb dX6_fetch_68 ?_
          obtain ⟨hi_3, hf⟩ := ck_s hf
          refine va_iald hx hb hK hP 1 0 rfl rfl hi_3 dX6_fetch_69 ?_
          refine va_put (D := D) (ci := 2) (v := .int (f_cells (((v1 * 34) + 32) + 1).toNatClampNeg)) (ty := .int) (C := RX2) (T := TX2) (N := 3) hx hb hts qX6_fetch_X2 tyX2 tyX2_ok nmX2 hown hK hP hD hS 3 rfl rfl 1 (Nat.le_of_ble_eq_true rfl) (hts (.fieldLink RX6 29 "KnotDiagram$Diagram" "circles" "I") qX6_fetch_2) (fun _ h9 => h9) rfl (by decide +kernel) rfl rfl (Nat.le_of_ble_eq_true rfl) dX6_fetch_70 (fun H locs hP hD hS => ?_)
          replace hP : va_P D vwCl [(a_this, .inr (4, [.ref a_cells, .ref a_filled])), (a_cells, .inl (cyI, 340, .inl f_cells)), (a_filled, .inl (cyZ, 10, .inl f_filled)), (a_p2, .inr (2, [.int (f_cells ((v1 * 34) + 32).toNatClampNeg), .int (f_cells (((v1 * 34) + 32) + 1).toNatClampNeg), .ref a_p2_arcs])), (a_p2_arcs, .inl (cyI, 32, .inl f_p2_arcs_1))] H := hP
          replace hD : va_D A [(a_this, .inr (4, [.ref a_cells, .ref a_filled])), (a_cells, .inl (cyI, 340, .inl f_cells)), (a_filled, .inl (cyZ, 10, .inl f_filled)), (a_p2, .inr (2, [.int (f_cells ((v1 * 34) + 32).toNatClampNeg), .int (f_cells (((v1 * 34) + 32) + 1).toNatClampNeg), .ref a_p2_arcs])), (a_p2_arcs, .inl (cyI, 32, .inl f_p2_arcs_1))] := hD
          obtain ⟨rfl, rfl, rfl⟩ := some3_s hf
          exact kRv hx hb hr hlocks hP hK hD hS dX6_fetch_73
        · replace hf := kt_n hf c_6
          refine lv_aload_n hx hb dX6_fetch_24 rfl (lv_at hl 1 rfl) ?_
          refine lv_iload hx hb dX6_fetch_25 (lv_at hl 3 rfl) ?_
          refine lv_aload_n hx hb dX6_fetch_27 rfl (lv_at hl 0 rfl) ?_
          refine va_get (D := D) (ci := 4) (v := .ref a_cells) (C := RX6) (T := TX6) (N := 2) hx hb hts qX6_fetch_X6 hown hK hP 0 rfl rfl 0 (Nat.le_of_ble_eq_true rfl) (hts (.fieldLink RX6 11 "KnotDiagram$Shelf" "cells" "[I") qX6_fetch_0) (fun _ h9 => h9) rfl dX6_fetch_28 ?_
          refine lv_iload_n hx hb dX6_fetch_31 rfl (lv_at hl 2 rfl) ?_
          refine lv_iload hx hb dX6_fetch_32 (lv_at hl 3 rfl) ?_
          refine lv_iadd hx hb dX6_fetch_34 ?_
          obtain ⟨hi_4, hf⟩ := ck_s hf
          refine va_iald hx hb hK hP 1 0 rfl rfl hi_4 dX6_fetch_35 ?_
          obtain ⟨o_arcs_5, hc_5, hf⟩ := bnd1_s hf
          refine kcVv (As := [.int v4_1, .int (f_cells ((v1 * 34) + v4_1).toNatClampNeg)]) (rest := []) (w2 := [(a_this, .inr (4, [.ref a_cells, .ref a_filled])), (a_cells, .inl (cyI, 340, .inl f_cells)), (a_filled, .inl (cyZ, 10, .inl f_filled)), (a_p2, .inr (2, [.int i_p2_crossings, .int i_p2_circles, .ref a_p2_arcs])), (a_p2_arcs, .inl (cyI, 32, .inl o_arcs_5))]) S hK hP hD hS hA hN (mX2_setArc l D cyI cyZ H.size a_p2 a_p2_arcs v4_1 (f_cells ((v1 * 34) + v4_1).toNatClampNeg) i_p2_crossings i_p2_circles f_p2_arcs_1 o_arcs_5 hc_5) (cwV 2 hts gX6_fetch_X2_setArc rfl rfl rfl (by decide +kernel) ⟨Nat.le_of_ble_eq_true rfl, Nat.le_of_ble_eq_true rfl⟩) 2 3 rfl rfl [3, 4] [0, 1, 2] [0, 1, 2, 3, 4] rfl rfl rfl rfl (by decide) rfl rfl hl.1 (Nat.le_of_ble_eq_true rfl) dX6_fetch_36 ⟨Nat.le_of_ble_eq_true rfl, Nat.le_of_ble_eq_true rfl⟩ (fun H locs hP hD hS => ?_)
          refine lv_iinc (v := (v4_1 + 1)) (lv' := [(4, .int (v4_1 + 1)), (0, .ref a_this), (2, .ref a_p2), (3, .int (v1 * 34))]) hx hb dX6_fetch_39 hl (k := 3) rfl rfl (by decide) rfl (fun ls hl => ?_)
          refine lv_goto (tgt := 17) hx hb dX6_fetch_42 (by decide) ?_
          exact ih_1 (v4_1 + 1) o_arcs_5 H locs ls hf hP hD hS (lv_sub hl [1, 2, 3, 0] rfl)
    exact hL_1 400 0 f_p2_arcs H locs ls hf hP hD hS (lv_sub hl [2, 4, 1, 0] rfl)
  · replace hf := kt_p hf c_7
    obtain ⟨rfl, rfl, rfl⟩ := some3_s hf
    exact kRv hx hb hr hlocks hP hK hD hS dX6_fetch_8
def kX7_enterFrom_L1 (i_p0_crossings : Int32) (f_p0_arcs : Nat → Int32) (K_1 : Int32 → Int32 → Int32 → Option (Int32)) (v3_1 : Int32) (v4_1 : Int32) (v5_1 : Int32) : Option (Int32) :=
  if 16 ≤ v5_1 then some v3_1 else bnd1 (kX9_contains v3_1 v4_1) (fun r_1 => if r_1 = 0 then bnd1 (kX9_bit v4_1) (fun r_2 => bnd1 (kX2_otherEnd (v4_1 ^^^ 2) i_p0_crossings f_p0_arcs) (fun r_3 => K_1 (v3_1 ||| r_2) r_3 (v5_1 + 1))) else some v3_1)
def kX7_enterFrom (v1 : Int32) (v2 : Int32) (i_p0_crossings : Int32) (f_p0_arcs : Nat → Int32) : Option (Int32) :=
  it3 (kX7_enterFrom_L1 i_p0_crossings f_p0_arcs) 400 v2 v1 0
def rmX7_enterFrom : Room := { frames := 2, cells := 0, slots := 0, locals := 45 }
theorem qX7_enterFrom_0 : (.initialized RX9 : Cond) ∈ wsX7_enterFrom := by decide +kernel
theorem qX7_enterFrom_1 : (.static yX9_contains : Cond) ∈ wsX7_enterFrom := by decide +kernel
theorem qX7_enterFrom_2 : (.static yX9_bit : Cond) ∈ wsX7_enterFrom := by decide +kernel
set_option maxHeartbeats 4000000 in
set_option maxRecDepth 100000 in
theorem mX7_enterFrom (l : Launch) (D : va_G) (cyI cyZ : ClassId) (sz : Nat) (a_p0 a_p0_arcs : Nat) (v1 : Int32) (v2 : Int32) (i_p0_crossings : Int32) (i_p0_circles : Int32) (f_p0_arcs : Nat → Int32) (r : Int32) (hf : kX7_enterFrom v1 v2 i_p0_crossings f_p0_arcs = some r) : Met l yX7_enterFrom wsX7_enterFrom rmX7_enterFrom (kPre D cyI cyZ [.ref a_p0, .int v1, .int v2] [(a_p0, .inr (2, [.int i_p0_crossings, .int i_p0_circles, .ref a_p0_arcs])), (a_p0_arcs, .inl (cyI, 32, .inl f_p0_arcs))] sz) (kQi D cyI cyZ (va_A [(a_p0, .inr (2, [.int i_p0_crossings, .int i_p0_circles, .ref a_p0_arcs])), (a_p0_arcs, .inl (cyI, 32, .inl f_p0_arcs))] sz) [(a_p0, .inr (2, [.int i_p0_crossings, .int i_p0_circles, .ref a_p0_arcs])), (a_p0_arcs, .inl (cyI, 32, .inl f_p0_arcs))] r) 0 0 (va_A [(a_p0, .inr (2, [.int i_p0_crossings, .int i_p0_circles, .ref a_p0_arcs])), (a_p0_arcs, .inl (cyI, 32, .inl f_p0_arcs))] sz) := by
  refine Met.ofW (cc := cX7_enterFrom) (maxL := 6) (ret := (some .int)) (by decide) rfl ?_
  intro p e s m args below meth c s₁ B hml hv
  obtain ⟨rfl, hsz, hP, hK, hD0, hN⟩ := hv
  have hx := B.exec
  have hb := B.bytes
  have hr := B.returns
  have hts := atoms_spec (ws := wsX7_enterFrom) B.pre
  have hown : s.vm.findClass RX7 = some m.cls := findClass_of_methodNamed B.named
  have hlocks := B.notSynchronized
  subst hsz
  have hD := hD0.self (sz := s.heap.size)
  generalize hAe : va_A [(a_p0, .inr (2, [.int i_p0_crossings, .int i_p0_circles, .ref a_p0_arcs])), (a_p0_arcs, .inl (cyI, 32, .inl f_p0_arcs))] s.heap.size = A at hD ⊢
  have hA : ∀ q : Nat, s.heap.size ≤ q → A q := fun q h => by rw [← hAe]; exact Or.inr h
  clear hAe hD0
  have hS : va_S A s.heap s.heap [] := va_S.rf
  have S : CallFix p m c cX7_enterFrom 6 s (([.ref a_p0, .int v1, .int v2] : List Value).toArray) wsX7_enterFrom RX7 := ⟨hx, hb, hml, hown, hts⟩
  have hl := lv_entry ([.ref a_p0, .int v1, .int v2]) (n := 6) (Nat.le_of_ble_eq_true rfl)
  rw [lg_entry_eq]
  generalize (lg_sl ([.ref a_p0, .int v1, .int v2]) ++ List.replicate (6 - (lg_sl ([.ref a_p0, .int v1, .int v2])).length) Slot.unset).toArray = ls at hl ⊢
  replace hl : lv_has ls 6 [(0, .ref a_p0), (1, .int v1), (2, .int v2)] := hl
  generalize ([] : List Loc) = locs at hS ⊢
  delta kX7_enterFrom at hf
  obtain ⟨H, hH⟩ : ∃ H, H = s.heap := ⟨_, rfl⟩
  have hS : va_S A s.heap H locs := by rw [hH]; exact hS
  have hP : va_P D vwCl [(a_p0, .inr (2, [.int i_p0_crossings, .int i_p0_circles, .ref a_p0_arcs])), (a_p0_arcs, .inl (cyI, 32, .inl f_p0_arcs))] H := by rw [hH]; exact hP
  suffices hgo : W p l e (headSpec wsX7_enterFrom rmX7_enterFrom).room s m (([.ref a_p0, .int v1, .int v2] : List Value).toArray) below meth c H locs 0 0 (MQ below (kQi D cyI cyZ A [(a_p0, .inr (2, [.int i_p0_crossings, .int i_p0_circles, .ref a_p0_arcs])), (a_p0_arcs, .inl (cyI, 32, .inl f_p0_arcs))] r) (([.ref a_p0, .int v1, .int v2] : List Value).toArray) s 0 0 A) (F0 m 0 ls []) by rw [hH] at hgo; exact hgo
  clear hH
  refine lv_iload_n hx hb dX7_enterFrom_0 rfl (lv_at hl 2 rfl) ?_
  refine lv_istore_n (lv' := [(3, .int v2), (0, .ref a_p0), (1, .int v1), (2, .int v2)]) hx hb dX7_enterFrom_1 rfl hl (by decide) rfl (fun ls hl => ?_)
  refine lv_iload_n hx hb dX7_enterFrom_2 rfl (lv_at hl 2 rfl) ?_
  refine lv_istore (lv' := [(4, .int v1), (3, .int v2), (0, .ref a_p0), (1, .int v1), (2, .int v2)]) hx hb dX7_enterFrom_3 hl (by decide) rfl (fun ls hl => ?_)
  refine lv_iconst (v := 0) hx hb dX7_enterFrom_5 (by decide) ?_
  refine lv_istore (lv' := [(5, .int 0), (4, .int v1), (3, .int v2), (0, .ref a_p0), (1, .int v1), (2, .int v2)]) hx hb dX7_enterFrom_6 hl (by decide) rfl (fun ls hl => ?_)
  have hL_1 : ∀ (n : Nat) (v3_1 : Int32) (v4_1 : Int32) (v5_1 : Int32) (H : Heap) (locs : List Loc) (ls : Array Slot), it3 (kX7_enterFrom_L1 i_p0_crossings f_p0_arcs) n v3_1 v4_1 v5_1 = some r → va_P D vwCl [(a_p0, .inr (2, [.int i_p0_crossings, .int i_p0_circles, .ref a_p0_arcs])), (a_p0_arcs, .inl (cyI, 32, .inl f_p0_arcs))] H → va_D A [(a_p0, .inr (2, [.int i_p0_crossings, .int i_p0_circles, .ref a_p0_arcs])), (a_p0_arcs, .inl (cyI, 32, .inl f_p0_arcs))] → va_S A s.heap H locs → lv_has ls 6 [(0, .ref a_p0), (3, .int v3_1), (4, .int v4_1), (5, .int v5_1)] → W p l e (headSpec wsX7_enterFrom rmX7_enterFrom).room s m (([.ref a_p0, .int v1, .int v2] : List Value).toArray) below meth c H locs 0 0 (MQ below (kQi D cyI cyZ A [(a_p0, .inr (2, [.int i_p0_crossings, .int i_p0_circles, .ref a_p0_arcs])), (a_p0_arcs, .inl (cyI, 32, .inl f_p0_arcs))] r) (([.ref a_p0, .int v1, .int v2] : List Value).toArray) s 0 0 A) (F0 m 8 ls []) := by
    intro n_1
    induction n_1 with
    | zero =>
      intro _ _ _ _ _ _ hf
      exact (it3_z hf).elim
    | succ n_1 ih_1 =>
      intro v3_1 v4_1 v5_1 H locs ls hf hP hD hS hl
      replace hf := it3_s hf
      rw [kX7_enterFrom_L1] at hf
      refine lv_iload hx hb dX7_enterFrom_8 (lv_at hl 3 rfl) ?_
      refine lv_bipush (v := 16) hx hb dX7_enterFrom_10 (by decide) ?_
      refine lv_icmp_ge (tgt := 48) hx hb dX7_enterFrom_12 (by decide) (fun c_5 => ?_) (fun c_5 => ?_)
      · replace hf := kt_p hf c_5
        refine lv_iload_n hx hb dX7_enterFrom_48 rfl (lv_at hl 1 rfl) ?_
        obtain rfl := some1_s hf
        exact kRi hx hb hr hlocks hP hK hD hS rfl dX7_enterFrom_49
      · replace hf := kt_n hf c_5
        refine lv_iload_n hx hb dX7_enterFrom_15 rfl (lv_at hl 1 rfl) ?_
        refine lv_iload hx hb dX7_enterFrom_16 (lv_at hl 2 rfl) ?_
        obtain ⟨r_1, hc_1, hf⟩ := bnd1_s hf
        refine kcNi (As := [.int v3_1, .int v4_1]) (rest := []) (w2 := [(a_p0, .inr (2, [.int i_p0_crossings, .int i_p0_circles, .ref a_p0_arcs])), (a_p0_arcs, .inl (cyI, 32, .inl f_p0_arcs))]) S hK hP hD hS hA hN (mX9_contains l D cyI cyZ H.size v3_1 v4_1 r_1 hc_1) ⟨va_cnB 2 hts gX7_enterFrom_X9_contains_n15 rfl rfl rfl hN.1 (hts (.initialized RX9) qX7_enterFrom_0) (by decide +kernel) ⟨Nat.le_of_ble_eq_true rfl, Nat.le_of_ble_eq_true rfl⟩, (hts (.static yX9_contains) qX7_enterFrom_1), trivial⟩ [] [0, 1] [0, 1] rfl rfl rfl rfl (by decide) rfl rfl hl.1 (Nat.le_of_ble_eq_true rfl) dX7_enterFrom_18 ⟨Nat.le_of_ble_eq_true rfl, Nat.le_of_ble_eq_true rfl⟩ (fun H locs hP hD hS => ?_)
        refine lv_if_ne (tgt := 48) hx hb dX7_enterFrom_21 (by decide) (fun c_4 => ?_) (fun c_4 => ?_)
        · replace hf := kt_n hf c_4
          refine lv_iload_n hx hb dX7_enterFrom_48 rfl (lv_at hl 1 rfl) ?_
          obtain rfl := some1_s hf
          exact kRi hx hb hr hlocks hP hK hD hS rfl dX7_enterFrom_49
        · replace hf := kt_p hf c_4
          refine lv_iload_n hx hb dX7_enterFrom_24 rfl (lv_at hl 1 rfl) ?_
          refine lv_iload hx hb dX7_enterFrom_25 (lv_at hl 2 rfl) ?_
          obtain ⟨r_2, hc_2, hf⟩ := bnd1_s hf
          refine kcNi (As := [.int v4_1]) (rest := [.int v3_1]) (w2 := [(a_p0, .inr (2, [.int i_p0_crossings, .int i_p0_circles, .ref a_p0_arcs])), (a_p0_arcs, .inl (cyI, 32, .inl f_p0_arcs))]) S hK hP hD hS hA hN (mX9_bit l D cyI cyZ H.size v4_1 r_2 hc_2) ⟨va_cnB 1 hts gX7_enterFrom_X9_bit_n32 rfl rfl rfl hN.2.1 (hts (.initialized RX9) qX7_enterFrom_0) (by decide +kernel) ⟨Nat.le_of_ble_eq_true rfl, Nat.le_of_ble_eq_true rfl⟩, (hts (.static yX9_bit) qX7_enterFrom_2), trivial⟩ [] [0, 1] [0, 1] rfl rfl rfl rfl (by decide) rfl rfl hl.1 (Nat.le_of_ble_eq_true rfl) dX7_enterFrom_27 ⟨Nat.le_of_ble_eq_true rfl, Nat.le_of_ble_eq_true rfl⟩ (fun H locs hP hD hS => ?_)
          refine lv_ior hx hb dX7_enterFrom_30 ?_
          refine lv_istore_n (lv' := [(3, .int (v3_1 ||| r_2)), (0, .ref a_p0), (4, .int v4_1), (5, .int v5_1)]) hx hb dX7_enterFrom_31 rfl hl (by decide) rfl (fun ls hl => ?_)
          refine lv_aload_n hx hb dX7_enterFrom_32 rfl (lv_at hl 1 rfl) ?_
          refine lv_iload hx hb dX7_enterFrom_33 (lv_at hl 2 rfl) ?_
          refine lv_iconst (v := 2) hx hb dX7_enterFrom_35 (by decide) ?_
          refine lv_ixor hx hb dX7_enterFrom_36 ?_
          obtain ⟨r_3, hc_3, hf⟩ := bnd1_s hf
          refine kcVi (As := [.int (v4_1 ^^^ 2)]) (rest := []) (w2 := [(a_p0, .inr (2, [.int i_p0_crossings, .int i_p0_circles, .ref a_p0_arcs])), (a_p0_arcs, .inl (cyI, 32, .inl f_p0_arcs))]) S hK hP hD hS hA hN (mX2_otherEnd l D cyI cyZ H.size a_p0 a_p0_arcs (v4_1 ^^^ 2) i_p0_crossings i_p0_circles f_p0_arcs r_3 hc_3) (cwV 1 hts gX7_enterFrom_X2_otherEnd rfl rfl rfl (by decide +kernel) ⟨Nat.le_of_ble_eq_true rfl, Nat.le_of_ble_eq_true rfl⟩) 2 0 rfl rfl [0, 1] [] [0, 1] rfl rfl rfl rfl (by decide) rfl rfl hl.1 (Nat.le_of_ble_eq_true rfl) dX7_enterFrom_37 ⟨Nat.le_of_ble_eq_true rfl, Nat.le_of_ble_eq_true rfl⟩ (fun H locs hP hD hS => ?_)
          refine lv_istore (lv' := [(4, .int r_3), (3, .int (v3_1 ||| r_2)), (0, .ref a_p0), (5, .int v5_1)]) hx hb dX7_enterFrom_40 hl (by decide) rfl (fun ls hl => ?_)
          refine lv_iinc (v := (v5_1 + 1)) (lv' := [(5, .int (v5_1 + 1)), (4, .int r_3), (3, .int (v3_1 ||| r_2)), (0, .ref a_p0)]) hx hb dX7_enterFrom_42 hl (k := 3) rfl rfl (by decide) rfl (fun ls hl => ?_)
          refine lv_goto (tgt := 8) hx hb dX7_enterFrom_45 (by decide) ?_
          exact ih_1 (v3_1 ||| r_2) r_3 (v5_1 + 1) H locs ls hf hP hD hS (lv_sub hl [3, 2, 1, 0] rfl)
  exact hL_1 400 v2 v1 0 H locs ls hf hP hD hS (lv_sub hl [3, 2, 1, 0] rfl)
