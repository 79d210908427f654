def kX7_count_L1 (r_1 : Int32) (i_p0_crossings : Int32) (f_p0_arcs : Nat → Int32) (K_1 : Int32 → Int32 → Int32 → Option (Int32)) (v1_1 : Int32) (v2_1 : Int32) (v4_1 : Int32) : Option (Int32) :=
  if r_1 ≤ v4_1 then some v2_1 else bnd1 (kX9_contains v1_1 v4_1) (fun r_2 => if r_2 = 0 then bnd1 (kX9_contains v1_1 (v4_1 ^^^ 2)) (fun r_3 => if r_3 = 0 then bnd1 (kX7_enterFrom v4_1 v1_1 i_p0_crossings f_p0_arcs) (fun r_4 => K_1 r_4 (v2_1 + 1) (v4_1 + 1)) else K_1 v1_1 v2_1 (v4_1 + 1)) else K_1 v1_1 v2_1 (v4_1 + 1))
def kX7_count (i_p0_crossings : Int32) (f_p0_arcs : Nat → Int32) : Option (Int32) :=
  bnd1 (kX2_endCount i_p0_crossings) (fun r_1 => it3 (kX7_count_L1 r_1 i_p0_crossings f_p0_arcs) 400 0 0 0)
def rmX7_count : Room := { frames := 3, cells := 0, slots := 0, locals := 70 }
theorem qX7_count_0 : (.initialized RX9 : Cond) ∈ wsX7_count := by decide +kernel
theorem qX7_count_1 : (.static yX9_contains : Cond) ∈ wsX7_count := by decide +kernel
set_option maxHeartbeats 4000000 in
set_option maxRecDepth 100000 in
theorem mX7_count (l : Launch) (D : va_G) (cyI cyZ : ClassId) (sz : Nat) (a_p0 a_p0_arcs : Nat) (i_p0_crossings : Int32) (i_p0_circles : Int32) (f_p0_arcs : Nat → Int32) (r : Int32) (hf : kX7_count i_p0_crossings f_p0_arcs = some r) : Met l yX7_count wsX7_count rmX7_count (kPre D cyI cyZ [.ref a_p0] [(a_p0, .inr (2, [.int i_p0_crossings, .int i_p0_circles, .ref a_p0_arcs])), (a_p0_arcs, .inl (cyI, 32, .inl f_p0_arcs))] sz) (kQi D cyI cyZ (va_A [(a_p0, .inr (2, [.int i_p0_crossings, .int i_p0_circles, .ref a_p0_arcs])), (a_p0_arcs, .inl (cyI, 32, .inl f_p0_arcs))] sz) [(a_p0, .inr (2, [.int i_p0_crossings, .int i_p0_circles, .ref a_p0_arcs])), (a_p0_arcs, .inl (cyI, 32, .inl f_p0_arcs))] r) 0 0 (va_A [(a_p0, .inr (2, [.int i_p0_crossings, .int i_p0_circles, .ref a_p0_arcs])), (a_p0_arcs, .inl (cyI, 32, .inl f_p0_arcs))] sz) := by
  refine Met.ofW (cc := cX7_count) (maxL := 5) (ret := (some .int)) (by decide) rfl ?_
  intro p e s m args below meth c s₁ B hml hv
  obtain ⟨rfl, hsz, hP, hK, hD0, hN⟩ := hv
  have hx := B.exec
  have hb := B.bytes
  have hr := B.returns
  have hts := atoms_spec (ws := wsX7_count) B.pre
  have hown : s.vm.findClass RX7 = some m.cls := findClass_of_methodNamed B.named
  have hlocks := B.notSynchronized
  subst hsz
  have hD := hD0.self (sz := s.heap.size)
  generalize hAe : va_A [(a_p0, .inr (2, [.int i_p0_crossings, .int i_p0_circles, .ref a_p0_arcs])), (a_p0_arcs, .inl (cyI, 32, .inl f_p0_arcs))] s.heap.size = A at hD ⊢
  have hA : ∀ q : Nat, s.heap.size ≤ q → A q := fun q h => by rw [← hAe]; exact Or.inr h
  clear hAe hD0
  have hS : va_S A s.heap s.heap [] := va_S.rf
  have S : CallFix p m c cX7_count 5 s (([.ref a_p0] : List Value).toArray) wsX7_count RX7 := ⟨hx, hb, hml, hown, hts⟩
  have hl := lv_entry ([.ref a_p0]) (n := 5) (Nat.le_of_ble_eq_true rfl)
  rw [lg_entry_eq]
  generalize (lg_sl ([.ref a_p0]) ++ List.replicate (5 - (lg_sl ([.ref a_p0])).length) Slot.unset).toArray = ls at hl ⊢
  replace hl : lv_has ls 5 [(0, .ref a_p0)] := hl
  generalize ([] : List Loc) = locs at hS ⊢
  delta kX7_count at hf
  obtain ⟨H, hH⟩ : ∃ H, H = s.heap := ⟨_, rfl⟩
  have hS : va_S A s.heap H locs := by rw [hH]; exact hS
  have hP : va_P D vwCl [(a_p0, .inr (2, [.int i_p0_crossings, .int i_p0_circles, .ref a_p0_arcs])), (a_p0_arcs, .inl (cyI, 32, .inl f_p0_arcs))] H := by rw [hH]; exact hP
  suffices hgo : W p l e (headSpec wsX7_count rmX7_count).room s m (([.ref a_p0] : List Value).toArray) below meth c H locs 0 0 (MQ below (kQi D cyI cyZ A [(a_p0, .inr (2, [.int i_p0_crossings, .int i_p0_circles, .ref a_p0_arcs])), (a_p0_arcs, .inl (cyI, 32, .inl f_p0_arcs))] r) (([.ref a_p0] : List Value).toArray) s 0 0 A) (F0 m 0 ls []) by rw [hH] at hgo; exact hgo
  clear hH
  refine lv_iconst (v := 0) hx hb dX7_count_0 (by decide) ?_
  refine lv_istore_n (lv' := [(1, .int 0), (0, .ref a_p0)]) hx hb dX7_count_1 rfl hl (by decide) rfl (fun ls hl => ?_)
  refine lv_iconst (v := 0) hx hb dX7_count_2 (by decide) ?_
  refine lv_istore_n (lv' := [(2, .int 0), (1, .int 0), (0, .ref a_p0)]) hx hb dX7_count_3 rfl hl (by decide) rfl (fun ls hl => ?_)
  refine lv_aload_n hx hb dX7_count_4 rfl (lv_at hl 2 rfl) ?_
  obtain ⟨r_1, hc_1, hf⟩ := bnd1_s hf
  refine kcVi (As := []) (rest := []) (w2 := [(a_p0, .inr (2, [.int i_p0_crossings, .int i_p0_circles, .ref a_p0_arcs])), (a_p0_arcs, .inl (cyI, 32, .inl f_p0_arcs))]) S hK hP hD hS hA hN (mX2_endCount l D cyI cyZ H.size a_p0 a_p0_arcs i_p0_crossings i_p0_circles r_1 hc_1) (cwV 0 hts gX7_count_X2_endCount rfl rfl rfl (by decide +kernel) ⟨Nat.le_of_ble_eq_true rfl, Nat.le_of_ble_eq_true rfl⟩) 2 0 rfl rfl [0] [1] [1, 0] rfl rfl rfl rfl (by decide) rfl rfl hl.1 (Nat.le_of_ble_eq_true rfl) dX7_count_5 ⟨Nat.le_of_ble_eq_true rfl, Nat.le_of_ble_eq_true rfl⟩ (fun H locs hP hD hS => ?_)
  refine lv_istore_n (lv' := [(3, .int r_1), (2, .int 0), (1, .int 0), (0, .ref a_p0)]) hx hb dX7_count_8 rfl hl (by decide) rfl (fun ls hl => ?_)
  refine lv_iconst (v := 0) hx hb dX7_count_9 (by decide) ?_
  refine lv_istore (lv' := [(4, .int 0), (3, .int r_1), (2, .int 0), (1, .int 0), (0, .ref a_p0)]) hx hb dX7_count_10 hl (by decide) rfl (fun ls hl => ?_)
  have hL_1 : ∀ (n : Nat) (v1_1 : Int32) (v2_1 : Int32) (v4_1 : Int32) (H : Heap) (locs : List Loc) (ls : Array Slot), it3 (kX7_count_L1 r_1 i_p0_crossings f_p0_arcs) n v1_1 v2_1 v4_1 = some r → va_P D vwCl [(a_p0, .inr (2, [.int i_p0_crossings, .int i_p0_circles, .ref a_p0_arcs])), (a_p0_arcs, .inl (cyI, 32, .inl f_p0_arcs))] H → va_D A [(a_p0, .inr (2, [.int i_p0_crossings, .int i_p0_circles, .ref a_p0_arcs])), (a_p0_arcs, .inl (cyI, 32, .inl f_p0_arcs))] → va_S A s.heap H locs → lv_has ls 5 [(0, .ref a_p0), (1, .int v1_1), (2, .int v2_1), (3, .int r_1), (4, .int v4_1)] → W p l e (headSpec wsX7_count rmX7_count).room s m (([.ref a_p0] : List Value).toArray) below meth c H locs 0 0 (MQ below (kQi D cyI cyZ A [(a_p0, .inr (2, [.int i_p0_crossings, .int i_p0_circles, .ref a_p0_arcs])), (a_p0_arcs, .inl (cyI, 32, .inl f_p0_arcs))] r) (([.ref a_p0] : List Value).toArray) s 0 0 A) (F0 m 12 ls []) := by
    intro n_1
    induction n_1 with
    | zero =>
      intro _ _ _ _ _ _ hf
      exact (it3_z hf).elim
    | succ n_1 ih_1 =>
      intro v1_1 v2_1 v4_1 H locs ls hf hP hD hS hl
      replace hf := it3_s hf
      rw [kX7_count_L1] at hf
      refine lv_iload hx hb dX7_count_12 (lv_at hl 4 rfl) ?_
      refine lv_iload_n hx hb dX7_count_14 rfl (lv_at hl 3 rfl) ?_
      refine lv_icmp_ge (tgt := 55) hx hb dX7_count_15 (by decide) (fun c_7 => ?_) (fun c_7 => ?_)
      · replace hf := kt_p hf c_7
        refine lv_iload_n hx hb dX7_count_55 rfl (lv_at hl 2 rfl) ?_
        obtain rfl := some1_s hf
        exact kRi hx hb hr hlocks hP hK hD hS rfl dX7_count_56
      · replace hf := kt_n hf c_7
        refine lv_iload_n hx hb dX7_count_18 rfl (lv_at hl 1 rfl) ?_
        refine lv_iload hx hb dX7_count_19 (lv_at hl 4 rfl) ?_
        obtain ⟨r_2, hc_2, hf⟩ := bnd1_s hf
        refine kcNi (As := [.int v1_1, .int v4_1]) (rest := []) (w2 := [(a_p0, .inr (2, [.int i_p0_crossings, .int i_p0_circles, .ref a_p0_arcs])), (a_p0_arcs, .inl (cyI, 32, .inl f_p0_arcs))]) S hK hP hD hS hA hN (mX9_contains l D cyI cyZ H.size v1_1 v4_1 r_2 hc_2) ⟨va_cnB 2 hts gX7_count_X9_contains_n15 rfl rfl rfl hN.1 (hts (.initialized RX9) qX7_count_0) (by decide +kernel) ⟨Nat.le_of_ble_eq_true rfl, Nat.le_of_ble_eq_true rfl⟩, (hts (.static yX9_contains) qX7_count_1), trivial⟩ [] [0, 1] [0, 1] rfl rfl rfl rfl (by decide) rfl rfl hl.1 (Nat.le_of_ble_eq_true rfl) dX7_count_21 ⟨Nat.le_of_ble_eq_true rfl, Nat.le_of_ble_eq_true rfl⟩ (fun H locs hP hD hS => ?_)
        refine lv_if_ne (tgt := 49) hx hb dX7_count_24 (by decide) (fun c_6 => ?_) (fun c_6 => ?_)
        · replace hf := kt_n hf c_6
          refine lv_iinc (v := (v4_1 + 1)) (lv' := [(4, .int (v4_1 + 1)), (0, .ref a_p0), (1, .int v1_1), (2, .int v2_1), (3, .int r_1)]) hx hb dX7_count_49 hl (k := 4) rfl rfl (by decide) rfl (fun ls hl => ?_)
          refine lv_goto (tgt := 12) hx hb dX7_count_52 (by decide) ?_
          exact ih_1 v1_1 v2_1 (v4_1 + 1) H locs ls hf hP hD hS (lv_sub hl [1, 2, 3, 4, 0] rfl)
        · replace hf := kt_p hf c_6
          refine lv_iload_n hx hb dX7_count_27 rfl (lv_at hl 1 rfl) ?_
          refine lv_iload hx hb dX7_count_28 (lv_at hl 4 rfl) ?_
          refine lv_iconst (v := 2) hx hb dX7_count_30 (by decide) ?_
          refine lv_ixor hx hb dX7_count_31 ?_
          obtain ⟨r_3, hc_3, hf⟩ := bnd1_s hf
          refine kcNi (As := [.int v1_1, .int (v4_1 ^^^ 2)]) (rest := []) (w2 := [(a_p0, .inr (2, [.int i_p0_crossings, .int i_p0_circles, .ref a_p0_arcs])), (a_p0_arcs, .inl (cyI, 32, .inl f_p0_arcs))]) S hK hP hD hS hA hN (mX9_contains l D cyI cyZ H.size v1_1 (v4_1 ^^^ 2) r_3 hc_3) ⟨va_cnB 2 hts gX7_count_X9_contains_n15 rfl rfl rfl hN.1 (hts (.initialized RX9) qX7_count_0) (by decide +kernel) ⟨Nat.le_of_ble_eq_true rfl, Nat.le_of_ble_eq_true rfl⟩, (hts (.static yX9_contains) qX7_count_1), trivial⟩ [] [0, 1] [0, 1] rfl rfl rfl rfl (by decide) rfl rfl hl.1 (Nat.le_of_ble_eq_true rfl) dX7_count_32 ⟨Nat.le_of_ble_eq_true rfl, Nat.le_of_ble_eq_true rfl⟩ (fun H locs hP hD hS => ?_)
          refine lv_if_ne (tgt := 49) hx hb dX7_count_35 (by decide) (fun c_5 => ?_) (fun c_5 => ?_)
          · replace hf := kt_n hf c_5
            refine lv_iinc (v := (v4_1 + 1)) (lv' := [(4, .int (v4_1 + 1)), (0, .ref a_p0), (1, .int v1_1), (2, .int v2_1), (3, .int r_1)]) hx hb dX7_count_49 hl (k := 4) rfl rfl (by decide) rfl (fun ls hl => ?_)
            refine lv_goto (tgt := 12) hx hb dX7_count_52 (by decide) ?_
            exact ih_1 v1_1 v2_1 (v4_1 + 1) H locs ls hf hP hD hS (lv_sub hl [1, 2, 3, 4, 0] rfl)
          · replace hf := kt_p hf c_5
            refine lv_aload_n hx hb dX7_count_38 rfl (lv_at hl 0 rfl) ?_
            refine lv_iload hx hb dX7_count_39 (lv_at hl 4 rfl) ?_
            refine lv_iload_n hx hb dX7_count_41 rfl (lv_at hl 1 rfl) ?_
            obtain ⟨r_4, hc_4, hf⟩ := bnd1_s hf
            refine kcSi (As := [.ref a_p0, .int v4_1, .int v1_1]) (rest := []) (w2 := [(a_p0, .inr (2, [.int i_p0_crossings, .int i_p0_circles, .ref a_p0_arcs])), (a_p0_arcs, .inl (cyI, 32, .inl f_p0_arcs))]) S hK hP hD hS hA hN (mX7_enterFrom l D cyI cyZ H.size a_p0 a_p0_arcs v4_1 v1_1 i_p0_crossings i_p0_circles f_p0_arcs r_4 hc_4) (va_cwS 3 hts gX7_count_X7_enterFrom rfl rfl rfl (by decide +kernel) ⟨Nat.le_of_ble_eq_true rfl, Nat.le_of_ble_eq_true rfl⟩) [0, 1] [] [0, 1] rfl rfl rfl rfl (by decide) rfl rfl hl.1 (Nat.le_of_ble_eq_true rfl) dX7_count_42 ⟨Nat.le_of_ble_eq_true rfl, Nat.le_of_ble_eq_true rfl⟩ (fun H locs hP hD hS => ?_)
            refine lv_istore_n (lv' := [(1, .int r_4), (0, .ref a_p0), (2, .int v2_1), (3, .int r_1), (4, .int v4_1)]) hx hb dX7_count_45 rfl hl (by decide) rfl (fun ls hl => ?_)
            refine lv_iinc (v := (v2_1 + 1)) (lv' := [(2, .int (v2_1 + 1)), (1, .int r_4), (0, .ref a_p0), (3, .int r_1), (4, .int v4_1)]) hx hb dX7_count_46 hl (k := 2) rfl rfl (by decide) rfl (fun ls hl => ?_)
            refine lv_iinc (v := (v4_1 + 1)) (lv' := [(4, .int (v4_1 + 1)), (2, .int (v2_1 + 1)), (1, .int r_4), (0, .ref a_p0), (3, .int r_1)]) hx hb dX7_count_49 hl (k := 4) rfl rfl (by decide) rfl (fun ls hl => ?_)
            refine lv_goto (tgt := 12) hx hb dX7_count_52 (by decide) ?_
            exact ih_1 r_4 (v2_1 + 1) (v4_1 + 1) H locs ls hf hP hD hS (lv_sub hl [3, 2, 1, 4, 0] rfl)
  exact hL_1 400 0 0 0 H locs ls hf hP hD hS (lv_sub hl [4, 3, 2, 1, 0] rfl)
def kX7_enteredEnds_L1 (i_p0_crossings : Int32) (f_p0_arcs : Nat → Int32) (K_1 : Int32 → Int32 → Option (Int32)) (v1_1 : Int32) (v2_1 : Int32) : Option (Int32) :=
  if 16 < v2_1 then some v1_1 else bnd1 (kX2_firstEnd v2_1 i_p0_crossings f_p0_arcs) (fun r_1 => if 0 ≤ r_1 then bnd1 (kX2_otherEnd r_1 i_p0_crossings f_p0_arcs) (fun r_2 => bnd1 (kX9_contains v1_1 r_1) (fun r_3 => if r_3 = 0 then bnd1 (kX9_contains v1_1 r_2) (fun r_4 => if r_4 = 0 then bnd1 (kX7_enterFrom r_2 v1_1 i_p0_crossings f_p0_arcs) (fun r_5 => K_1 r_5 (v2_1 + 1)) else K_1 v1_1 (v2_1 + 1)) else K_1 v1_1 (v2_1 + 1))) else K_1 v1_1 (v2_1 + 1))
def kX7_enteredEnds (i_p0_crossings : Int32) (f_p0_arcs : Nat → Int32) : Option (Int32) :=
  it2 (kX7_enteredEnds_L1 i_p0_crossings f_p0_arcs) 400 0 1
def rmX7_enteredEnds : Room := { frames := 3, cells := 0, slots := 0, locals := 70 }
theorem qX7_enteredEnds_0 : (.initialized RX9 : Cond) ∈ wsX7_enteredEnds := by decide +kernel
theorem qX7_enteredEnds_1 : (.static yX9_contains : Cond) ∈ wsX7_enteredEnds := by decide +kernel
set_option maxHeartbeats 4000000 in
set_option maxRecDepth 100000 in
theorem mX7_enteredEnds (l : Launch) (D : va_G) (cyI cyZ : ClassId) (sz : Nat) (a_p0 a_p0_arcs : Nat) (i_p0_crossings : Int32) (i_p0_circles : Int32) (f_p0_arcs : Nat → Int32) (r : Int32) (hf : kX7_enteredEnds i_p0_crossings f_p0_arcs = some r) : Met l yX7_enteredEnds wsX7_enteredEnds rmX7_enteredEnds (kPre D cyI cyZ [.ref a_p0] [(a_p0, .inr (2, [.int i_p0_crossings, .int i_p0_circles, .ref a_p0_arcs])), (a_p0_arcs, .inl (cyI, 32, .inl f_p0_arcs))] sz) (kQi D cyI cyZ (va_A [(a_p0, .inr (2, [.int i_p0_crossings, .int i_p0_circles, .ref a_p0_arcs])), (a_p0_arcs, .inl (cyI, 32, .inl f_p0_arcs))] sz) [(a_p0, .inr (2, [.int i_p0_crossings, .int i_p0_circles, .ref a_p0_arcs])), (a_p0_arcs, .inl (cyI, 32, .inl f_p0_arcs))] r) 0 0 (va_A [(a_p0, .inr (2, [.int i_p0_crossings, .int i_p0_circles, .ref a_p0_arcs])), (a_p0_arcs, .inl (cyI, 32, .inl f_p0_arcs))] sz) := by
  refine Met.ofW (cc := cX7_enteredEnds) (maxL := 5) (ret := (some .int)) (by decide) rfl ?_
  intro p e s m args below meth c s₁ B hml hv
  obtain ⟨rfl, hsz, hP, hK, hD0, hN⟩ := hv
  have hx := B.exec
  have hb := B.bytes
  have hr := B.returns
  have hts := atoms_spec (ws := wsX7_enteredEnds) B.pre
  have hown : s.vm.findClass RX7 = some m.cls := findClass_of_methodNamed B.named
  have hlocks := B.notSynchronized
  subst hsz
  have hD := hD0.self (sz := s.heap.size)
  generalize hAe : va_A [(a_p0, .inr (2, [.int i_p0_crossings, .int i_p0_circles, .ref a_p0_arcs])), (a_p0_arcs, .inl (cyI, 32, .inl f_p0_arcs))] s.heap.size = A at hD ⊢
  have hA : ∀ q : Nat, s.heap.size ≤ q → A q := fun q h => by rw [← hAe]; exact Or.inr h
  clear hAe hD0
  have hS : va_S A s.heap s.heap [] := va_S.rf
  have S : CallFix p m c cX7_enteredEnds 5 s (([.ref a_p0] : List Value).toArray) wsX7_enteredEnds RX7 := ⟨hx, hb, hml, hown, hts⟩
  have hl := lv_entry ([.ref a_p0]) (n := 5) (Nat.le_of_ble_eq_true rfl)
  rw [lg_entry_eq]
  generalize (lg_sl ([.ref a_p0]) ++ List.replicate (5 - (lg_sl ([.ref a_p0])).length) Slot.unset).toArray = ls at hl ⊢
  replace hl : lv_has ls 5 [(0, .ref a_p0)] := hl
  generalize ([] : List Loc) = locs at hS ⊢
  delta kX7_enteredEnds at hf
  obtain ⟨H, hH⟩ : ∃ H, H = s.heap := ⟨_, rfl⟩
  have hS : va_S A s.heap H locs := by rw [hH]; exact hS
  have hP : va_P D vwCl [(a_p0, .inr (2, [.int i_p0_crossings, .int i_p0_circles, .ref a_p0_arcs])), (a_p0_arcs, .inl (cyI, 32, .inl f_p0_arcs))] H := by rw [hH]; exact hP
  suffices hgo : W p l e (headSpec wsX7_enteredEnds rmX7_enteredEnds).room s m (([.ref a_p0] : List Value).toArray) below meth c H locs 0 0 (MQ below (kQi D cyI cyZ A [(a_p0, .inr (2, [.int i_p0_crossings, .int i_p0_circles, .ref a_p0_arcs])), (a_p0_arcs, .inl (cyI, 32, .inl f_p0_arcs))] r) (([.ref a_p0] : List Value).toArray) s 0 0 A) (F0 m 0 ls []) by rw [hH] at hgo; exact hgo
  clear hH
  refine lv_iconst (v := 0) hx hb dX7_enteredEnds_0 (by decide) ?_
  refine lv_istore_n (lv' := [(1, .int 0), (0, .ref a_p0)]) hx hb dX7_enteredEnds_1 rfl hl (by decide) rfl (fun ls hl => ?_)
  refine lv_iconst (v := 1) hx hb dX7_enteredEnds_2 (by decide) ?_
  refine lv_istore_n (lv' := [(2, .int 1), (1, .int 0), (0, .ref a_p0)]) hx hb dX7_enteredEnds_3 rfl hl (by decide) rfl (fun ls hl => ?_)
  have hL_1 : ∀ (n : Nat) (v1_1 : Int32) (v2_1 : Int32) (H : Heap) (locs : List Loc) (ls : Array Slot), it2 (kX7_enteredEnds_L1 i_p0_crossings f_p0_arcs) n v1_1 v2_1 = some r → va_P D vwCl [(a_p0, .inr (2, [.int i_p0_crossings, .int i_p0_circles, .ref a_p0_arcs])), (a_p0_arcs, .inl (cyI, 32, .inl f_p0_arcs))] H → va_D A [(a_p0, .inr (2, [.int i_p0_crossings, .int i_p0_circles, .ref a_p0_arcs])), (a_p0_arcs, .inl (cyI, 32, .inl f_p0_arcs))] → va_S A s.heap H locs → lv_has ls 5 [(0, .ref a_p0), (1, .int v1_1), (2, .int v2_1)] → W p l e (headSpec wsX7_enteredEnds rmX7_enteredEnds).room s m (([.ref a_p0] : List Value).toArray) below meth c H locs 0 0 (MQ below (kQi D cyI cyZ A [(a_p0, .inr (2, [.int i_p0_crossings, .int i_p0_circles, .ref a_p0_arcs])), (a_p0_arcs, .inl (cyI, 32, .inl f_p0_arcs))] r) (([.ref a_p0] : List Value).toArray) s 0 0 A) (F0 m 4 ls []) := by
    intro n_1
    induction n_1 with
    | zero =>
      intro _ _ _ _ _ hf
      exact (it2_z hf).elim
    | succ n_1 ih_1 =>
      intro v1_1 v2_1 H locs ls hf hP hD hS hl
      replace hf := it2_s hf
      rw [kX7_enteredEnds_L1] at hf
      refine lv_iload_n hx hb dX7_enteredEnds_4 rfl (lv_at hl 2 rfl) ?_
      refine lv_bipush (v := 16) hx hb dX7_enteredEnds_5 (by decide) ?_
      refine lv_icmp_gt (tgt := 61) hx hb dX7_enteredEnds_7 (by decide) (fun c_9 => ?_) (fun c_9 => ?_)
      · replace hf := kt_p hf c_9
        refine lv_iload_n hx hb dX7_enteredEnds_61 rfl (lv_at hl 1 rfl) ?_
        obtain rfl := some1_s hf
        exact kRi hx hb hr hlocks hP hK hD hS rfl dX7_enteredEnds_62
      · replace hf := kt_n hf c_9
        refine lv_aload_n hx hb dX7_enteredEnds_10 rfl (lv_at hl 0 rfl) ?_
        refine lv_iload_n hx hb dX7_enteredEnds_11 rfl (lv_at hl 2 rfl) ?_
        obtain ⟨r_1, hc_1, hf⟩ := bnd1_s hf
        refine kcVi (As := [.int v2_1]) (rest := []) (w2 := [(a_p0, .inr (2, [.int i_p0_crossings, .int i_p0_circles, .ref a_p0_arcs])), (a_p0_arcs, .inl (cyI, 32, .inl f_p0_arcs))]) S hK hP hD hS hA hN (mX2_firstEnd l D cyI cyZ H.size a_p0 a_p0_arcs v2_1 i_p0_crossings i_p0_circles f_p0_arcs r_1 hc_1) (cwV 1 hts gX7_enteredEnds_X2_firstEnd rfl rfl rfl (by decide +kernel) ⟨Nat.le_of_ble_eq_true rfl, Nat.le_of_ble_eq_true rfl⟩) 2 0 rfl rfl [0, 1] [] [0, 1] rfl rfl rfl rfl (by decide) rfl rfl hl.1 (Nat.le_of_ble_eq_true rfl) dX7_enteredEnds_12 ⟨Nat.le_of_ble_eq_true rfl, Nat.le_of_ble_eq_true rfl⟩ (fun H locs hP hD hS => ?_)
        refine lv_istore_n (lv' := [(3, .int r_1), (0, .ref a_p0), (1, .int v1_1), (2, .int v2_1)]) hx hb dX7_enteredEnds_15 rfl hl (by decide) rfl (fun ls hl => ?_)
        refine lv_iload_n hx hb dX7_enteredEnds_16 rfl (lv_at hl 0 rfl) ?_
        refine lv_if_ge (tgt := 23) hx hb dX7_enteredEnds_17 (by decide) (fun c_8 => ?_) (fun c_8 => ?_)
        · replace hf := kt_p hf c_8
          refine lv_aload_n hx hb dX7_enteredEnds_23 rfl (lv_at hl 1 rfl) ?_
          refine lv_iload_n hx hb dX7_enteredEnds_24 rfl (lv_at hl 0 rfl) ?_
          obtain ⟨r_2, hc_2, hf⟩ := bnd1_s hf
          refine kcVi (As := [.int r_1]) (rest := []) (w2 := [(a_p0, .inr (2, [.int i_p0_crossings, .int i_p0_circles, .ref a_p0_arcs])), (a_p0_arcs, .inl (cyI, 32, .inl f_p0_arcs))]) S hK hP hD hS hA hN (mX2_otherEnd l D cyI cyZ H.size a_p0 a_p0_arcs r_1 i_p0_crossings i_p0_circles f_p0_arcs r_2 hc_2) (cwV 1 hts gX7_enteredEnds_X2_otherEnd rfl rfl rfl (by decide +kernel) ⟨Nat.le_of_ble_eq_true rfl, Nat.le_of_ble_eq_true rfl⟩) 2 0 rfl rfl [0, 1] [] [0, 1] rfl rfl rfl rfl (by decide) rfl rfl hl.1 (Nat.le_of_ble_eq_true rfl) dX7_enteredEnds_25 ⟨Nat.le_of_ble_eq_true rfl, Nat.le_of_ble_eq_true rfl⟩ (fun H locs hP hD hS => ?_)
          refine lv_istore (lv' := [(4, .int r_2), (3, .int r_1), (0, .ref a_p0), (1, .int v1_1), (2, .int v2_1)]) hx hb dX7_enteredEnds_28 hl (by decide) rfl (fun ls hl => ?_)
          refine lv_iload_n hx hb dX7_enteredEnds_30 rfl (lv_at hl 3 rfl) ?_
          refine lv_iload_n hx hb dX7_enteredEnds_31 rfl (lv_at hl 1 rfl) ?_
          obtain ⟨r_3, hc_3, hf⟩ := bnd1_s hf
          refine kcNi (As := [.int v1_1, .int r_1]) (rest := []) (w2 := [(a_p0, .inr (2, [.int i_p0_crossings, .int i_p0_circles, .ref a_p0_arcs])), (a_p0_arcs, .inl (cyI, 32, .inl f_p0_arcs))]) S hK hP hD hS hA hN (mX9_contains l D cyI cyZ H.size v1_1 r_1 r_3 hc_3) ⟨va_cnB 2 hts gX7_enteredEnds_X9_contains_n15 rfl rfl rfl hN.1 (hts (.initialized RX9) qX7_enteredEnds_0) (by decide +kernel) ⟨Nat.le_of_ble_eq_true rfl, Nat.le_of_ble_eq_true rfl⟩, (hts (.static yX9_contains) qX7_enteredEnds_1), trivial⟩ [] [0, 1] [0, 1] rfl rfl rfl rfl (by decide) rfl rfl hl.1 (Nat.le_of_ble_eq_true rfl) dX7_enteredEnds_32 ⟨Nat.le_of_ble_eq_true rfl, Nat.le_of_ble_eq_true rfl⟩ (fun H locs hP hD hS => ?_)
          refine lv_if_ne (tgt := 55) hx hb dX7_enteredEnds_35 (by decide) (fun c_7 => ?_) (fun c_7 => ?_)
          · replace hf := kt_n hf c_7
            refine lv_iinc (v := (v2_1 + 1)) (lv' := [(2, .int (v2_1 + 1)), (4, .int r_2), (3, .int r_1), (0, .ref a_p0), (1, .int v1_1)]) hx hb dX7_enteredEnds_55 hl (k := 4) rfl rfl (by decide) rfl (fun ls hl => ?_)
            refine lv_goto (tgt := 4) hx hb dX7_enteredEnds_58 (by decide) ?_
            exact ih_1 v1_1 (v2_1 + 1) H locs ls hf hP hD hS (lv_sub hl [3, 4, 0] rfl)
          · replace hf := kt_p hf c_7
            refine lv_iload_n hx hb dX7_enteredEnds_38 rfl (lv_at hl 3 rfl) ?_
            refine lv_iload hx hb dX7_enteredEnds_39 (lv_at hl 0 rfl) ?_
            obtain ⟨r_4, hc_4, hf⟩ := bnd1_s hf
            refine kcNi (As := [.int v1_1, .int r_2]) (rest := []) (w2 := [(a_p0, .inr (2, [.int i_p0_crossings, .int i_p0_circles, .ref a_p0_arcs])), (a_p0_arcs, .inl (cyI, 32, .inl f_p0_arcs))]) S hK hP hD hS hA hN (mX9_contains l D cyI cyZ H.size v1_1 r_2 r_4 hc_4) ⟨va_cnB 2 hts gX7_enteredEnds_X9_contains_n15 rfl rfl rfl hN.1 (hts (.initialized RX9) qX7_enteredEnds_0) (by decide +kernel) ⟨Nat.le_of_ble_eq_true rfl, Nat.le_of_ble_eq_true rfl⟩, (hts (.static yX9_contains) qX7_enteredEnds_1), trivial⟩ [] [0, 1] [0, 1] rfl rfl rfl rfl (by decide) rfl rfl hl.1 (Nat.le_of_ble_eq_true rfl) dX7_enteredEnds_41 ⟨Nat.le_of_ble_eq_true rfl, Nat.le_of_ble_eq_true rfl⟩ (fun H locs hP hD hS => ?_)
            refine lv_if_ne (tgt := 55) hx hb dX7_enteredEnds_44 (by decide) (fun c_6 => ?_) (fun c_6 => ?_)
            · replace hf := kt_n hf c_6
              refine lv_iinc (v := (v2_1 + 1)) (lv' := [(2, .int (v2_1 + 1)), (4, .int r_2), (3, .int r_1), (0, .ref a_p0), (1, .int v1_1)]) hx hb dX7_enteredEnds_55 hl (k := 4) rfl rfl (by decide) rfl (fun ls hl => ?_)
              refine lv_goto (tgt := 4) hx hb dX7_enteredEnds_58 (by decide) ?_
              exact ih_1 v1_1 (v2_1 + 1) H locs ls hf hP hD hS (lv_sub hl [3, 4, 0] rfl)
            · replace hf := kt_p hf c_6
              refine lv_aload_n hx hb dX7_enteredEnds_47 rfl (lv_at hl 2 rfl) ?_
              refine lv_iload hx hb dX7_enteredEnds_48 (lv_at hl 0 rfl) ?_
              refine lv_iload_n hx hb dX7_enteredEnds_50 rfl (lv_at hl 3 rfl) ?_
              obtain ⟨r_5, hc_5, hf⟩ := bnd1_s hf
              refine kcSi (As := [.ref a_p0, .int r_2, .int v1_1]) (rest := []) (w2 := [(a_p0, .inr (2, [.int i_p0_crossings, .int i_p0_circles, .ref a_p0_arcs])), (a_p0_arcs, .inl (cyI, 32, .inl f_p0_arcs))]) S hK hP hD hS hA hN (mX7_enterFrom l D cyI cyZ H.size a_p0 a_p0_arcs r_2 v1_1 i_p0_crossings i_p0_circles f_p0_arcs r_5 hc_5) (va_cwS 3 hts gX7_enteredEnds_X7_enterFrom rfl rfl rfl (by decide +kernel) ⟨Nat.le_of_ble_eq_true rfl, Nat.le_of_ble_eq_true rfl⟩) [0, 1] [] [0, 1] rfl rfl rfl rfl (by decide) rfl rfl hl.1 (Nat.le_of_ble_eq_true rfl) dX7_enteredEnds_51 ⟨Nat.le_of_ble_eq_true rfl, Nat.le_of_ble_eq_true rfl⟩ (fun H locs hP hD hS => ?_)
              refine lv_istore_n (lv' := [(1, .int r_5), (4, .int r_2), (3, .int r_1), (0, .ref a_p0), (2, .int v2_1)]) hx hb dX7_enteredEnds_54 rfl hl (by decide) rfl (fun ls hl => ?_)
              refine lv_iinc (v := (v2_1 + 1)) (lv' := [(2, .int (v2_1 + 1)), (1, .int r_5), (4, .int r_2), (3, .int r_1), (0, .ref a_p0)]) hx hb dX7_enteredEnds_55 hl (k := 4) rfl rfl (by decide) rfl (fun ls hl => ?_)
              refine lv_goto (tgt := 4) hx hb dX7_enteredEnds_58 (by decide) ?_
              exact ih_1 r_5 (v2_1 + 1) H locs ls hf hP hD hS (lv_sub hl [4, 1, 0] rfl)
        · replace hf := kt_n hf c_8
          refine lv_goto (tgt := 55) hx hb dX7_enteredEnds_20 (by decide) ?_
          refine lv_iinc (v := (v2_1 + 1)) (lv' := [(2, .int (v2_1 + 1)), (3, .int r_1), (0, .ref a_p0), (1, .int v1_1)]) hx hb dX7_enteredEnds_55 hl (k := 3) rfl rfl (by decide) rfl (fun ls hl => ?_)
          refine lv_goto (tgt := 4) hx hb dX7_enteredEnds_58 (by decide) ?_
          exact ih_1 v1_1 (v2_1 + 1) H locs ls hf hP hD hS (lv_sub hl [2, 3, 0] rfl)
  exact hL_1 400 0 1 H locs ls hf hP hD hS (lv_sub hl [2, 1, 0] rfl)
def kX7_sign (v0 : Int32) (v1 : Int32) : Option (Int32) :=
  bnd1 (kX9_contains v1 (4 * v0)) (fun r_1 => bnd1 (kX9_contains v1 ((4 * v0) + 3)) (fun r_2 => if r_1 = r_2 then some 1 else some (-1)))
def rmX7_sign : Room := { frames := 1, cells := 0, slots := 0, locals := 21 }
theorem qX7_sign_0 : (.initialized RX9 : Cond) ∈ wsX7_sign := by decide +kernel
theorem qX7_sign_1 : (.static yX9_contains : Cond) ∈ wsX7_sign := by decide +kernel
set_option maxHeartbeats 4000000 in
set_option maxRecDepth 100000 in
theorem mX7_sign (l : Launch) (D : va_G) (cyI cyZ : ClassId) (sz : Nat) (v0 : Int32) (v1 : Int32) (r : Int32) (hf : kX7_sign v0 v1 = some r) : Met l yX7_sign wsX7_sign rmX7_sign (kPre D cyI cyZ [.int v0, .int v1] [] sz) (kQi D cyI cyZ (va_A [] sz) [] r) 0 0 (va_A [] sz) := by
  refine Met.ofW (cc := cX7_sign) (maxL := 4) (ret := (some .int)) (by decide) rfl ?_
  intro p e s m args below meth c s₁ B hml hv
  obtain ⟨rfl, hsz, hP, hK, hD0, hN⟩ := hv
  have hx := B.exec
  have hb := B.bytes
  have hr := B.returns
  have hts := atoms_spec (ws := wsX7_sign) B.pre
  have hown : s.vm.findClass RX7 = some m.cls := findClass_of_methodNamed B.named
  have hlocks := B.notSynchronized
  subst hsz
  have hD := hD0.self (sz := s.heap.size)
  generalize hAe : va_A [] s.heap.size = A at hD ⊢
  have hA : ∀ q : Nat, s.heap.size ≤ q → A q := fun q h => by rw [← hAe]; exact Or.inr h
  clear hAe hD0
  have hS : va_S A s.heap s.heap [] := va_S.rf
  have S : CallFix p m c cX7_sign 4 s (([.int v0, .int v1] : List Value).toArray) wsX7_sign RX7 := ⟨hx, hb, hml, hown, hts⟩
  have hl := lv_entry ([.int v0, .int v1]) (n := 4) (Nat.le_of_ble_eq_true rfl)
  rw [lg_entry_eq]
  generalize (lg_sl ([.int v0, .int v1]) ++ List.replicate (4 - (lg_sl ([.int v0, .int v1])).length) Slot.unset).toArray = ls at hl ⊢
  replace hl : lv_has ls 4 [(0, .int v0), (1, .int v1)] := hl
  generalize ([] : List Loc) = locs at hS ⊢
  delta kX7_sign at hf
  obtain ⟨H, hH⟩ : ∃ H, H = s.heap := ⟨_, rfl⟩
  have hS : va_S A s.heap H locs := by rw [hH]; exact hS
  have hP : va_P D vwCl [] H := by rw [hH]; exact hP
  suffices hgo : W p l e (headSpec wsX7_sign rmX7_sign).room s m (([.int v0, .int v1] : List Value).toArray) below meth c H locs 0 0 (MQ below (kQi D cyI cyZ A [] r) (([.int v0, .int v1] : List Value).toArray) s 0 0 A) (F0 m 0 ls []) by rw [hH] at hgo; exact hgo
  clear hH
  refine lv_iload_n hx hb dX7_sign_0 rfl (lv_at hl 1 rfl) ?_
  refine lv_iconst (v := 4) hx hb dX7_sign_1 (by decide) ?_
  refine lv_iload_n hx hb dX7_sign_2 rfl (lv_at hl 0 rfl) ?_
  refine lv_imul hx hb dX7_sign_3 ?_
  obtain ⟨r_1, hc_1, hf⟩ := bnd1_s hf
  refine kcNi (As := [.int v1, .int (4 * v0)]) (rest := []) (w2 := []) S hK hP hD hS hA hN (mX9_contains l D cyI cyZ H.size v1 (4 * v0) r_1 hc_1) ⟨va_cnB 2 hts gX7_sign_X9_contains_n15 rfl rfl rfl hN.1 (hts (.initialized RX9) qX7_sign_0) (by decide +kernel) ⟨Nat.le_of_ble_eq_true rfl, Nat.le_of_ble_eq_true rfl⟩, (hts (.static yX9_contains) qX7_sign_1), trivial⟩ [] [] [] rfl rfl rfl rfl (by decide) rfl rfl hl.1 (Nat.le_of_ble_eq_true rfl) dX7_sign_4 ⟨Nat.le_of_ble_eq_true rfl, Nat.le_of_ble_eq_true rfl⟩ (fun H locs hP hD hS => ?_)
  refine lv_istore_n (lv' := [(2, .int r_1), (0, .int v0), (1, .int v1)]) hx hb dX7_sign_7 rfl hl (by decide) rfl (fun ls hl => ?_)
  refine lv_iload_n hx hb dX7_sign_8 rfl (lv_at hl 2 rfl) ?_
  refine lv_iconst (v := 4) hx hb dX7_sign_9 (by decide) ?_
  refine lv_iload_n hx hb dX7_sign_10 rfl (lv_at hl 1 rfl) ?_
  refine lv_imul hx hb dX7_sign_11 ?_
  refine lv_iconst (v := 3) hx hb dX7_sign_12 (by decide) ?_
  refine lv_iadd hx hb dX7_sign_13 ?_
  obtain ⟨r_2, hc_2, hf⟩ := bnd1_s hf
  refine kcNi (As := [.int v1, .int ((4 * v0) + 3)]) (rest := []) (w2 := []) S hK hP hD hS hA hN (mX9_contains l D cyI cyZ H.size v1 ((4 * v0) + 3) r_2 hc_2) ⟨va_cnB 2 hts gX7_sign_X9_contains_n15 rfl rfl rfl hN.1 (hts (.initialized RX9) qX7_sign_0) (by decide +kernel) ⟨Nat.le_of_ble_eq_true rfl, Nat.le_of_ble_eq_true rfl⟩, (hts (.static yX9_contains) qX7_sign_1), trivial⟩ [] [] [] rfl rfl rfl rfl (by decide) rfl rfl hl.1 (Nat.le_of_ble_eq_true rfl) dX7_sign_14 ⟨Nat.le_of_ble_eq_true rfl, Nat.le_of_ble_eq_true rfl⟩ (fun H locs hP hD hS => ?_)
  refine lv_istore_n (lv' := [(3, .int r_2), (2, .int r_1), (0, .int v0), (1, .int v1)]) hx hb dX7_sign_17 rfl hl (by decide) rfl (fun ls hl => ?_)
  refine lv_iload_n hx hb dX7_sign_18 rfl (lv_at hl 1 rfl) ?_
  refine lv_iload_n hx hb dX7_sign_19 rfl (lv_at hl 0 rfl) ?_
  refine lv_icmp_ne (tgt := 27) hx hb dX7_sign_20 (by decide) (fun c_3 => ?_) (fun c_3 => ?_)
  · replace hf := kt_n hf c_3
    refine lv_iconst (v := (-1)) hx hb dX7_sign_27 (by decide) ?_
    obtain rfl := some1_s hf
    exact kRi hx hb hr hlocks hP hK hD hS rfl dX7_sign_28
  · replace hf := kt_p hf c_3
    refine lv_iconst (v := 1) hx hb dX7_sign_23 (by decide) ?_
    refine lv_goto (tgt := 28) hx hb dX7_sign_24 (by decide) ?_
    obtain rfl := some1_s hf
    exact kRi hx hb hr hlocks hP hK hD hS rfl dX7_sign_28
def kX7_signSum_L1 (i_p0_crossings : Int32) (r_1 : Int32) (K_1 : Int32 → Int32 → Option (Int32)) (v2_1 : Int32) (v4_1 : Int32) : Option (Int32) :=
  if i_p0_crossings ≤ v4_1 then some v2_1 else bnd1 (kX7_sign v4_1 r_1) (fun r_2 => K_1 (v2_1 + r_2) (v4_1 + 1))
def kX7_signSum (i_p0_crossings : Int32) (f_p0_arcs : Nat → Int32) : Option (Int32) :=
  bnd1 (kX7_enteredEnds i_p0_crossings f_p0_arcs) (fun r_1 => it2 (kX7_signSum_L1 i_p0_crossings r_1) 400 0 0)
def rmX7_signSum : Room := { frames := 4, cells := 0, slots := 0, locals := 94 }
theorem qX7_signSum_0 : (.fieldLink RX7 39 "KnotDiagram$Diagram" "crossings" "I" : Cond) ∈ wsX7_signSum := by decide +kernel
theorem qX7_signSum_X2 : ∀ w ∈ wsX20, w ∈ wsX7_signSum := by decide +kernel
set_option maxHeartbeats 4000000 in
set_option maxRecDepth 100000 in
theorem mX7_signSum (l : Launch) (D : va_G) (cyI cyZ : ClassId) (sz : Nat) (a_p0 a_p0_arcs : Nat) (i_p0_crossings : Int32) (i_p0_circles : Int32) (f_p0_arcs : Nat → Int32) (r : Int32) (hf : kX7_signSum i_p0_crossings f_p0_arcs = some r) : Met l yX7_signSum wsX7_signSum rmX7_signSum (kPre D cyI cyZ [.ref a_p0] [(a_p0, .inr (2, [.int i_p0_crossings, .int i_p0_circles, .ref a_p0_arcs])), (a_p0_arcs, .inl (cyI, 32, .inl f_p0_arcs))] sz) (kQi D cyI cyZ (va_A [(a_p0, .inr (2, [.int i_p0_crossings, .int i_p0_circles, .ref a_p0_arcs])), (a_p0_arcs, .inl (cyI, 32, .inl f_p0_arcs))] sz) [(a_p0, .inr (2, [.int i_p0_crossings, .int i_p0_circles, .ref a_p0_arcs])), (a_p0_arcs, .inl (cyI, 32, .inl f_p0_arcs))] r) 0 0 (va_A [(a_p0, .inr (2, [.int i_p0_crossings, .int i_p0_circles, .ref a_p0_arcs])), (a_p0_arcs, .inl (cyI, 32, .inl f_p0_arcs))] sz) := by
  refine Met.ofW (cc := cX7_signSum) (maxL := 5) (ret := (some .int)) (by decide) rfl ?_
  intro p e s m args below meth c s₁ B hml hv
  obtain ⟨rfl, hsz, hP, hK, hD0, hN⟩ := hv
  have hx := B.exec
  have hb := B.bytes
  have hr := B.returns
  have hts := atoms_spec (ws := wsX7_signSum) B.pre
  have hown : s.vm.findClass RX7 = some m.cls := findClass_of_methodNamed B.named
  have hlocks := B.notSynchronized
  subst hsz
  have hD := hD0.self (sz := s.heap.size)
  generalize hAe : va_A [(a_p0, .inr (2, [.int i_p0_crossings, .int i_p0_circles, .ref a_p0_arcs])), (a_p0_arcs, .inl (cyI, 32, .inl f_p0_arcs))] s.heap.size = A at hD ⊢
  have hA : ∀ q : Nat, s.heap.size ≤ q → A q := fun q h => by rw [← hAe]; exact Or.inr h
  clear hAe hD0
  have hS : va_S A s.heap s.heap [] := va_S.rf
  have S : CallFix p m c cX7_signSum 5 s (([.ref a_p0] : List Value).toArray) wsX7_signSum RX7 := ⟨hx, hb, hml, hown, hts⟩
  have hl := lv_entry ([.ref a_p0]) (n := 5) (Nat.le_of_ble_eq_true rfl)
  rw [lg_entry_eq]
  generalize (lg_sl ([.ref a_p0]) ++ List.replicate (5 - (lg_sl ([.ref a_p0])).length) Slot.unset).toArray = ls at hl ⊢
  replace hl : lv_has ls 5 [(0, .ref a_p0)] := hl
  generalize ([] : List Loc) = locs at hS ⊢
  delta kX7_signSum at hf
  obtain ⟨H, hH⟩ : ∃ H, H = s.heap := ⟨_, rfl⟩
  have hS : va_S A s.heap H locs := by rw [hH]; exact hS
  have hP : va_P D vwCl [(a_p0, .inr (2, [.int i_p0_crossings, .int i_p0_circles, .ref a_p0_arcs])), (a_p0_arcs, .inl (cyI, 32, .inl f_p0_arcs))] H := by rw [hH]; exact hP
  suffices hgo : W p l e (headSpec wsX7_signSum rmX7_signSum).room s m (([.ref a_p0] : List Value).toArray) below meth c H locs 0 0 (MQ below (kQi D cyI cyZ A [(a_p0, .inr (2, [.int i_p0_crossings, .int i_p0_circles, .ref a_p0_arcs])), (a_p0_arcs, .inl (cyI, 32, .inl f_p0_arcs))] r) (([.ref a_p0] : List Value).toArray) s 0 0 A) (F0 m 0 ls []) by rw [hH] at hgo; exact hgo
  clear hH
  refine lv_aload_n hx hb dX7_signSum_0 rfl (lv_at hl 0 rfl) ?_
  obtain ⟨r_1, hc_1, hf⟩ := bnd1_s hf
  refine kcSi (As := [.ref a_p0]) (rest := []) (w2 := [(a_p0, .inr (2, [.int i_p0_crossings, .int i_p0_circles, .ref a_p0_arcs])), (a_p0_arcs, .inl (cyI, 32, .inl f_p0_arcs))]) S hK hP hD hS hA hN (mX7_enteredEnds l D cyI cyZ H.size a_p0 a_p0_arcs i_p0_crossings i_p0_circles f_p0_arcs r_1 hc_1) (va_cwS 1 hts gX7_signSum_X7_enteredEnds rfl rfl rfl (by decide +kernel) ⟨Nat.le_of_ble_eq_true rfl, Nat.le_of_ble_eq_true rfl⟩) [0, 1] [] [0, 1] rfl rfl rfl rfl (by decide) rfl rfl hl.1 (Nat.le_of_ble_eq_true rfl) dX7_signSum_1 ⟨Nat.le_of_ble_eq_true rfl, Nat.le_of_ble_eq_true rfl⟩ (fun H locs hP hD hS => ?_)
  refine lv_istore_n (lv' := [(1, .int r_1), (0, .ref a_p0)]) hx hb dX7_signSum_4 rfl hl (by decide) rfl (fun ls hl => ?_)
  refine lv_iconst (v := 0) hx hb dX7_signSum_5 (by decide) ?_
  refine lv_istore_n (lv' := [(2, .int 0), (1, .int r_1), (0, .ref a_p0)]) hx hb dX7_signSum_6 rfl hl (by decide) rfl (fun ls hl => ?_)
  refine lv_aload_n hx hb dX7_signSum_7 rfl (lv_at hl 2 rfl) ?_
  refine va_get (D := D) (ci := 2) (v := .int i_p0_crossings) (C := RX2) (T := TX2) (N := 3) hx hb hts qX7_signSum_X2 hown hK hP 0 rfl rfl 0 (Nat.le_of_ble_eq_true rfl) (hts (.fieldLink RX7 39 "KnotDiagram$Diagram" "crossings" "I") qX7_signSum_0) (fun _ h9 => h9) rfl dX7_signSum_8 ?_
  refine lv_istore_n (lv' := [(3, .int i_p0_crossings), (2, .int 0), (1, .int r_1), (0, .ref a_p0)]) hx hb dX7_signSum_11 rfl hl (by decide) rfl (fun ls hl => ?_)
  refine lv_iconst (v := 0) hx hb dX7_signSum_12 (by decide) ?_
  refine lv_istore (lv' := [(4, .int 0), (3, .int i_p0_crossings), (2, .int 0), (1, .int r_1), (0, .ref a_p0)]) hx hb dX7_signSum_13 hl (by decide) rfl (fun ls hl => ?_)
  have hL_1 : ∀ (n : Nat) (v2_1 : Int32) (v4_1 : Int32) (H : Heap) (locs : List Loc) (ls : Array Slot), it2 (kX7_signSum_L1 i_p0_crossings r_1) n v2_1 v4_1 = some r → va_P D vwCl [(a_p0, .inr (2, [.int i_p0_crossings, .int i_p0_circles, .ref a_p0_arcs])), (a_p0_arcs, .inl (cyI, 32, .inl f_p0_arcs))] H → va_D A [(a_p0, .inr (2, [.int i_p0_crossings, .int i_p0_circles, .ref a_p0_arcs])), (a_p0_arcs, .inl (cyI, 32, .inl f_p0_arcs))] → va_S A s.heap H locs → lv_has ls 5 [(1, .int r_1), (2, .int v2_1), (3, .int i_p0_crossings), (4, .int v4_1)] → W p l e (headSpec wsX7_signSum rmX7_signSum).room s m (([.ref a_p0] : List Value).toArray) below meth c H locs 0 0 (MQ below (kQi D cyI cyZ A [(a_p0, .inr (2, [.int i_p0_crossings, .int i_p0_circles, .ref a_p0_arcs])), (a_p0_arcs, .inl (cyI, 32, .inl f_p0_arcs))] r) (([.ref a_p0] : List Value).toArray) s 0 0 A) (F0 m 15 ls []) := by
    intro n_1
    induction n_1 with
    | zero =>
      intro _ _ _ _ _ hf
      exact (it2_z hf).elim
    | succ n_1 ih_1 =>
      intro v2_1 v4_1 H locs ls hf hP hD hS hl
      replace hf := it2_s hf
      rw [kX7_signSum_L1] at hf
      refine lv_iload hx hb dX7_signSum_15 (lv_at hl 3 rfl) ?_
      refine lv_iload_n hx hb dX7_signSum_17 rfl (lv_at hl 2 rfl) ?_
      refine lv_icmp_ge (tgt := 36) hx hb dX7_signSum_18 (by decide) (fun c_3 => ?_) (fun c_3 => ?_)
      · replace hf := kt_p hf c_3
        refine lv_iload_n hx hb dX7_signSum_36 rfl (lv_at hl 1 rfl) ?_
        obtain rfl := some1_s hf
        exact kRi hx hb hr hlocks hP hK hD hS rfl dX7_signSum_37
      · replace hf := kt_n hf c_3
        refine lv_iload_n hx hb dX7_signSum_21 rfl (lv_at hl 1 rfl) ?_
        refine lv_iload hx hb dX7_signSum_22 (lv_at hl 3 rfl) ?_
        refine lv_iload_n hx hb dX7_signSum_24 rfl (lv_at hl 0 rfl) ?_
        obtain ⟨r_2, hc_2, hf⟩ := bnd1_s hf
        refine kcSi (As := [.int v4_1, .int r_1]) (rest := [.int v2_1]) (w2 := [(a_p0, .inr (2, [.int i_p0_crossings, .int i_p0_circles, .ref a_p0_arcs])), (a_p0_arcs, .inl (cyI, 32, .inl f_p0_arcs))]) S hK hP hD hS hA hN (mX7_sign l D cyI cyZ H.size v4_1 r_1 r_2 hc_2) (va_cwS 2 hts gX7_signSum_X7_sign rfl rfl rfl (by decide +kernel) ⟨Nat.le_of_ble_eq_true rfl, Nat.le_of_ble_eq_true rfl⟩) [] [0, 1] [0, 1] rfl rfl rfl rfl (by decide) rfl rfl hl.1 (Nat.le_of_ble_eq_true rfl) dX7_signSum_25 ⟨Nat.le_of_ble_eq_true rfl, Nat.le_of_ble_eq_true rfl⟩ (fun H locs hP hD hS => ?_)
        refine lv_iadd hx hb dX7_signSum_28 ?_
        refine lv_istore_n (lv' := [(2, .int (v2_1 + r_2)), (1, .int r_1), (3, .int i_p0_crossings), (4, .int v4_1)]) hx hb dX7_signSum_29 rfl hl (by decide) rfl (fun ls hl => ?_)
        refine lv_iinc (v := (v4_1 + 1)) (lv' := [(4, .int (v4_1 + 1)), (2, .int (v2_1 + r_2)), (1, .int r_1), (3, .int i_p0_crossings)]) hx hb dX7_signSum_30 hl (k := 3) rfl rfl (by decide) rfl (fun ls hl => ?_)
        refine lv_goto (tgt := 15) hx hb dX7_signSum_33 (by decide) ?_
        exact ih_1 (v2_1 + r_2) (v4_1 + 1) H locs ls hf hP hD hS (lv_sub hl [2, 1, 3, 0] rfl)
  exact hL_1 400 0 0 H locs ls hf hP hD hS (lv_sub hl [3, 2, 1, 0] rfl)
def kX8_add (v1 : Int32) (i_length : Int32) (f_characters : Nat → Int32) : Option (Int32 × (Nat → Int32)) :=
  if i_length < 0 then some (i_length, f_characters) else if 160 ≤ i_length then some (i_length, f_characters) else ck i_length 160 (some ((i_length + 1), (upd f_characters i_length.toNatClampNeg v1)))
def rmX8_add : Room := { frames := 0, cells := 0, slots := 0, locals := 0 }
theorem qX8_add_0 : (.fieldLink RX8 15 "KnotDiagram$Text" "length" "I" : Cond) ∈ wsX8_add := by decide +kernel
theorem qX8_add_1 : (.fieldLink RX8 9 "KnotDiagram$Text" "characters" "[I" : Cond) ∈ wsX8_add := by decide +kernel
theorem qX8_add_X8 : ∀ w ∈ wsX80, w ∈ wsX8_add := by decide +kernel
set_option maxHeartbeats 4000000 in
set_option maxRecDepth 100000 in
theorem mX8_add (l : Launch) (D : va_G) (cyI cyZ : ClassId) (sz : Nat) (a_this a_characters : Nat) (v1 : Int32) (i_length : Int32) (f_characters : Nat → Int32) (o_length : Int32) (o_characters : Nat → Int32) (hf : kX8_add v1 i_length f_characters = some (o_length, o_characters)) : Met l yX8_add wsX8_add rmX8_add (kPre D cyI cyZ [.ref a_this, .int v1] [(a_this, .inr (5, [.ref a_characters, .int i_length])), (a_characters, .inl (cyI, 160, .inl f_characters))] sz) (kQv D cyI cyZ (va_A [(a_this, .inr (5, [.ref a_characters, .int i_length])), (a_characters, .inl (cyI, 160, .inl f_characters))] sz) [(a_this, .inr (5, [.ref a_characters, .int o_length])), (a_characters, .inl (cyI, 160, .inl o_characters))]) 0 0 (va_A [(a_this, .inr (5, [.ref a_characters, .int i_length])), (a_characters, .inl (cyI, 160, .inl f_characters))] sz) := by
  refine Met.ofW (cc := cX8_add) (maxL := 2) (ret := none) (by decide) rfl ?_
  intro p e s m args below meth c s₁ B hml hv
  obtain ⟨rfl, hsz, hP, hK, hD0, hN⟩ := hv
  have hx := B.exec
  have hb := B.bytes
  have hr := B.returns
  have hts := atoms_spec (ws := wsX8_add) B.pre
  have hown : s.vm.findClass RX8 = some m.cls := findClass_of_methodNamed B.named
  have hlocks := B.notSynchronized
  subst hsz
  have hD := hD0.self (sz := s.heap.size)
  generalize hAe : va_A [(a_this, .inr (5, [.ref a_characters, .int i_length])), (a_characters, .inl (cyI, 160, .inl f_characters))] s.heap.size = A at hD ⊢
  have hA : ∀ q : Nat, s.heap.size ≤ q → A q := fun q h => by rw [← hAe]; exact Or.inr h
  clear hAe hD0
  have hS : va_S A s.heap s.heap [] := va_S.rf
  have S : CallFix p m c cX8_add 2 s (([.ref a_this, .int v1] : List Value).toArray) wsX8_add RX8 := ⟨hx, hb, hml, hown, hts⟩
  have hl := lv_entry ([.ref a_this, .int v1]) (n := 2) (Nat.le_of_ble_eq_true rfl)
  rw [lg_entry_eq]
  generalize (lg_sl ([.ref a_this, .int v1]) ++ List.replicate (2 - (lg_sl ([.ref a_this, .int v1])).length) Slot.unset).toArray = ls at hl ⊢
  replace hl : lv_has ls 2 [(0, .ref a_this), (1, .int v1)] := hl
  generalize ([] : List Loc) = locs at hS ⊢
  delta kX8_add at hf
  obtain ⟨H, hH⟩ : ∃ H, H = s.heap := ⟨_, rfl⟩
  have hS : va_S A s.heap H locs := by rw [hH]; exact hS
  have hP : va_P D vwCl [(a_this, .inr (5, [.ref a_characters, .int i_length])), (a_characters, .inl (cyI, 160, .inl f_characters))] H := by rw [hH]; exact hP
  suffices hgo : W p l e (headSpec wsX8_add rmX8_add).room s m (([.ref a_this, .int v1] : List Value).toArray) below meth c H locs 0 0 (MQ below (kQv D cyI cyZ A [(a_this, .inr (5, [.ref a_characters, .int o_length])), (a_characters, .inl (cyI, 160, .inl o_characters))]) (([.ref a_this, .int v1] : List Value).toArray) s 0 0 A) (F0 m 0 ls []) by rw [hH] at hgo; exact hgo
  clear hH
  refine lv_aload_n hx hb dX8_add_0 rfl (lv_at hl 0 rfl) ?_
  refine va_get (D := D) (ci := 5) (v := .int i_length) (C := RX8) (T := TX8) (N := 2) hx hb hts qX8_add_X8 hown hK hP 0 rfl rfl 1 (Nat.le_of_ble_eq_true rfl) (hts (.fieldLink RX8 15 "KnotDiagram$Text" "length" "I") qX8_add_0) (fun _ h9 => h9) rfl dX8_add_1 ?_
  refine lv_if_lt (tgt := 37) hx hb dX8_add_4 (by decide) (fun c_3 => ?_) (fun c_3 => ?_)
  · replace hf := kt_p hf c_3
    obtain ⟨rfl, rfl⟩ := some2_s hf
    exact kRv hx hb hr hlocks hP hK hD hS dX8_add_37
  · replace hf := kt_n hf c_3
    refine lv_aload_n hx hb dX8_add_7 rfl (lv_at hl 0 rfl) ?_
    refine va_get (D := D) (ci := 5) (v := .int i_length) (C := RX8) (T := TX8) (N := 2) hx hb hts qX8_add_X8 hown hK hP 0 rfl rfl 1 (Nat.le_of_ble_eq_true rfl) (hts (.fieldLink RX8 15 "KnotDiagram$Text" "length" "I") qX8_add_0) (fun _ h9 => h9) rfl dX8_add_8 ?_
    refine lv_sipush (v := 160) hx hb dX8_add_11 (by decide) ?_
    refine lv_icmp_ge (tgt := 37) hx hb dX8_add_14 (by decide) (fun c_2 => ?_) (fun c_2 => ?_)
    · replace hf := kt_p hf c_2
      obtain ⟨rfl, rfl⟩ := some2_s hf
      exact kRv hx hb hr hlocks hP hK hD hS dX8_add_37
    · replace hf := kt_n hf c_2
      refine lv_aload_n hx hb dX8_add_17 rfl (lv_at hl 0 rfl) ?_
      refine va_get (D := D) (ci := 5) (v := .ref a_characters) (C := RX8) (T := TX8) (N := 2) hx hb hts qX8_add_X8 hown hK hP 0 rfl rfl 0 (Nat.le_of_ble_eq_true rfl) (hts (.fieldLink RX8 9 "KnotDiagram$Text" "characters" "[I") qX8_add_1) (fun _ h9 => h9) rfl dX8_add_18 ?_
      refine lv_aload_n hx hb dX8_add_21 rfl (lv_at hl 0 rfl) ?_
      refine va_get (D := D) (ci := 5) (v := .int i_length) (C := RX8) (T := TX8) (N := 2) hx hb hts qX8_add_X8 hown hK hP 0 rfl rfl 1 (Nat.le_of_ble_eq_true rfl) (hts (.fieldLink RX8 15 "KnotDiagram$Text" "length" "I") qX8_add_0) (fun _ h9 => h9) rfl dX8_add_22 ?_
      refine lv_iload_n hx hb dX8_add_25 rfl (lv_at hl 1 rfl) ?_
      obtain ⟨hi_1, hf⟩ := ck_s hf
      refine va_iast hx hb hK hP hD hS 1 0 rfl rfl hi_1 dX8_add_26 (fun H locs hP hD hS => ?_)
      replace hP : va_P D vwCl [(a_this, .inr (5, [.ref a_characters, .int i_length])), (a_characters, .inl (cyI, 160, .inl (upd f_characters i_length.toNatClampNeg v1)))] H := hP
      replace hD : va_D A [(a_this, .inr (5, [.ref a_characters, .int i_length])), (a_characters, .inl (cyI, 160, .inl (upd f_characters i_length.toNatClampNeg v1)))] := hD
      refine lv_aload_n hx hb dX8_add_27 rfl (lv_at hl 0 rfl) ?_
      refine lv_dup hx hb dX8_add_28 rfl ?_
      refine va_get (D := D) (ci := 5) (v := .int i_length) (C := RX8) (T := TX8) (N := 2) hx hb hts qX8_add_X8 hown hK hP 0 rfl rfl 1 (Nat.le_of_ble_eq_true rfl) (hts (.fieldLink RX8 15 "KnotDiagram$Text" "length" "I") qX8_add_0) (fun _ h9 => h9) rfl dX8_add_29 ?_
      refine lv_iconst (v := 1) hx hb dX8_add_32 (by decide) ?_
      refine lv_iadd hx hb dX8_add_33 ?_
      refine va_put (D := D) (ci := 5) (v := .int (i_length + 1)) (ty := .int) (C := RX8) (T := TX8) (N := 2) hx hb hts qX8_add_X8 tyX8 tyX8_ok nmX8 hown hK hP hD hS 0 rfl rfl 1 (Nat.le_of_ble_eq_true rfl) (hts (.fieldLink RX8 15 "KnotDiagram$Text" "length" "I") qX8_add_0) (fun _ h9 => h9) rfl (by decide +kernel) rfl rfl (Nat.le_of_ble_eq_true rfl) dX8_add_34 (fun H locs hP hD hS => ?_)
      replace hP : va_P D vwCl [(a_this, .inr (5, [.ref a_characters, .int (i_length + 1)])), (a_characters, .inl (cyI, 160, .inl (upd f_characters i_length.toNatClampNeg v1)))] H := hP
      replace hD : va_D A [(a_this, .inr (5, [.ref a_characters, .int (i_length + 1)])), (a_characters, .inl (cyI, 160, .inl (upd f_characters i_length.toNatClampNeg v1)))] := hD
      obtain ⟨rfl, rfl⟩ := some2_s hf
      exact kRv hx hb hr hlocks hP hK hD hS dX8_add_37
def kX9_append (v1 : Int32) (i_text_length : Int32) (f_text_characters : Nat → Int32) : Option (Int32 × Int32 × (Nat → Int32)) :=
  if v1 < 0 then some ((-1000001), i_text_length, f_text_characters) else if v1 ≤ 255 then if i_text_length < 160 then bnd2 (kX8_add v1 i_text_length f_text_characters) (fun o_length_1 o_characters_1 => some (o_length_1, o_length_1, o_characters_1)) else some ((-1000003), i_text_length, f_text_characters) else some ((-1000001), i_text_length, f_text_characters)
def rmX9_append : Room := { frames := 1, cells := 0, slots := 0, locals := 21 }
theorem qX9_append_0 : (.constant RX9 58 (-1000001) : Cond) ∈ wsX9_append := by decide +kernel
theorem qX9_append_1 : (.fieldLink RX9 12 "KnotDiagram" "text" "LKnotDiagram$Text;" : Cond) ∈ wsX9_append := by decide +kernel
theorem qX9_append_2 : (.fieldLink RX9 59 "KnotDiagram$Text" "length" "I" : Cond) ∈ wsX9_append := by decide +kernel
theorem qX9_append_3 : (.constant RX9 62 (-1000003) : Cond) ∈ wsX9_append := by decide +kernel
theorem qX9_append_X9 : ∀ w ∈ wsX90, w ∈ wsX9_append := by decide +kernel
theorem qX9_append_X8 : ∀ w ∈ wsX80, w ∈ wsX9_append := by decide +kernel
set_option maxHeartbeats 4000000 in
set_option maxRecDepth 100000 in
theorem mX9_append (l : Launch) (D : va_G) (cyI cyZ : ClassId) (sz : Nat) (a_this a_text a_reader a_diagram a_draft a_shelf a_bracket a_colouring a_text_characters : Nat) (v1 : Int32) (i_savedStates : Int32) (i_newestPlace : Int32) (i_text_length : Int32) (f_text_characters : Nat → Int32) (r : Int32) (o_text_length : Int32) (o_text_characters : Nat → Int32) (hf : kX9_append v1 i_text_length f_text_characters = some (r, o_text_length, o_text_characters)) : Met l yX9_append wsX9_append rmX9_append (kPre D cyI cyZ [.ref a_this, .int v1] [(a_this, .inr (6, [.ref a_text, .ref a_reader, .ref a_diagram, .ref a_draft, .ref a_shelf, .ref a_bracket, .ref a_colouring, .int i_savedStates, .int i_newestPlace])), (a_text, .inr (5, [.ref a_text_characters, .int i_text_length])), (a_text_characters, .inl (cyI, 160, .inl f_text_characters))] sz) (kQi D cyI cyZ (va_A [(a_this, .inr (6, [.ref a_text, .ref a_reader, .ref a_diagram, .ref a_draft, .ref a_shelf, .ref a_bracket, .ref a_colouring, .int i_savedStates, .int i_newestPlace])), (a_text, .inr (5, [.ref a_text_characters, .int i_text_length])), (a_text_characters, .inl (cyI, 160, .inl f_text_characters))] sz) [(a_this, .inr (6, [.ref a_text, .ref a_reader, .ref a_diagram, .ref a_draft, .ref a_shelf, .ref a_bracket, .ref a_colouring, .int i_savedStates, .int i_newestPlace])), (a_text, .inr (5, [.ref a_text_characters, .int o_text_length])), (a_text_characters, .inl (cyI, 160, .inl o_text_characters))] r) 0 0 (va_A [(a_this, .inr (6, [.ref a_text, .ref a_reader, .ref a_diagram, .ref a_draft, .ref a_shelf, .ref a_bracket, .ref a_colouring, .int i_savedStates, .int i_newestPlace])), (a_text, .inr (5, [.ref a_text_characters, .int i_text_length])), (a_text_characters, .inl (cyI, 160, .inl f_text_characters))] sz) := by
  refine Met.ofW (cc := cX9_append) (maxL := 2) (ret := (some .int)) (by decide) rfl ?_
  intro p e s m args below meth c s₁ B hml hv
  obtain ⟨rfl, hsz, hP, hK, hD0, hN⟩ := hv
  have hx := B.exec
  have hb := B.bytes
  have hr := B.returns
  have hts := atoms_spec (ws := wsX9_append) B.pre
  have hown : s.vm.findClass RX9 = some m.cls := findClass_of_methodNamed B.named
  have hlocks := B.notSynchronized
  subst hsz
  have hD := hD0.self (sz := s.heap.size)
  generalize hAe : va_A [(a_this, .inr (6, [.ref a_text, .ref a_reader, .ref a_diagram, .ref a_draft, .ref a_shelf, .ref a_bracket, .ref a_colouring, .int i_savedStates, .int i_newestPlace])), (a_text, .inr (5, [.ref a_text_characters, .int i_text_length])), (a_text_characters, .inl (cyI, 160, .inl f_text_characters))] s.heap.size = A at hD ⊢
  have hA : ∀ q : Nat, s.heap.size ≤ q → A q := fun q h => by rw [← hAe]; exact Or.inr h
  clear hAe hD0
  have hS : va_S A s.heap s.heap [] := va_S.rf
  have S : CallFix p m c cX9_append 2 s (([.ref a_this, .int v1] : List Value).toArray) wsX9_append RX9 := ⟨hx, hb, hml, hown, hts⟩
  have hl := lv_entry ([.ref a_this, .int v1]) (n := 2) (Nat.le_of_ble_eq_true rfl)
  rw [lg_entry_eq]
  generalize (lg_sl ([.ref a_this, .int v1]) ++ List.replicate (2 - (lg_sl ([.ref a_this, .int v1])).length) Slot.unset).toArray = ls at hl ⊢
  replace hl : lv_has ls 2 [(0, .ref a_this), (1, .int v1)] := hl
  generalize ([] : List Loc) = locs at hS ⊢
  delta kX9_append at hf
  obtain ⟨H, hH⟩ : ∃ H, H = s.heap := ⟨_, rfl⟩
  have hS : va_S A s.heap H locs := by rw [hH]; exact hS
  have hP : va_P D vwCl [(a_this, .inr (6, [.ref a_text, .ref a_reader, .ref a_diagram, .ref a_draft, .ref a_shelf, .ref a_bracket, .ref a_colouring, .int i_savedStates, .int i_newestPlace])), (a_text, .inr (5, [.ref a_text_characters, .int i_text_length])), (a_text_characters, .inl (cyI, 160, .inl f_text_characters))] H := by rw [hH]; exact hP
  suffices hgo : W p l e (headSpec wsX9_append rmX9_append).room s m (([.ref a_this, .int v1] : List Value).toArray) below meth c H locs 0 0 (MQ below (kQi D cyI cyZ A [(a_this, .inr (6, [.ref a_text, .ref a_reader, .ref a_diagram, .ref a_draft, .ref a_shelf, .ref a_bracket, .ref a_colouring, .int i_savedStates, .int i_newestPlace])), (a_text, .inr (5, [.ref a_text_characters, .int o_text_length])), (a_text_characters, .inl (cyI, 160, .inl o_text_characters))] r) (([.ref a_this, .int v1] : List Value).toArray) s 0 0 A) (F0 m 0 ls []) by rw [hH] at hgo; exact hgo
  clear hH
  refine lv_iload_n hx hb dX9_append_0 rfl (lv_at hl 1 rfl) ?_
  refine lv_if_lt (tgt := 11) hx hb dX9_append_1 (by decide) (fun c_4 => ?_) (fun c_4 => ?_)
  · replace hf := kt_p hf c_4
    refine lv_ldc (v := (-1000001)) hx hb hown (hts (.constant RX9 58 (-1000001)) qX9_append_0) dX9_append_11 ?_
    obtain ⟨rfl, rfl, rfl⟩ := some3_s hf
    exact kRi hx hb hr hlocks hP hK hD hS rfl dX9_append_13
  · replace hf := kt_n hf c_4
    refine lv_iload_n hx hb dX9_append_4 rfl (lv_at hl 1 rfl) ?_
    refine lv_sipush (v := 255) hx hb dX9_append_5 (by decide) ?_
    refine lv_icmp_le (tgt := 14) hx hb dX9_append_8 (by decide) (fun c_3 => ?_) (fun c_3 => ?_)
    · replace hf := kt_p hf c_3
      refine lv_aload_n hx hb dX9_append_14 rfl (lv_at hl 0 rfl) ?_
      refine va_get (D := D) (ci := 6) (v := .ref a_text) (C := RX9) (T := TX9) (N := 9) hx hb hts qX9_append_X9 hown hK hP 0 rfl rfl 0 (Nat.le_of_ble_eq_true rfl) (hts (.fieldLink RX9 12 "KnotDiagram" "text" "LKnotDiagram$Text;") qX9_append_1) (fun _ h9 => h9) rfl dX9_append_15 ?_
      refine va_get (D := D) (ci := 5) (v := .int i_text_length) (C := RX8) (T := TX8) (N := 2) hx hb hts qX9_append_X8 hown hK hP 1 rfl rfl 1 (Nat.le_of_ble_eq_true rfl) (hts (.fieldLink RX9 59 "KnotDiagram$Text" "length" "I") qX9_append_2) (fun _ h9 => h9) rfl dX9_append_18 ?_
      refine lv_sipush (v := 160) hx hb dX9_append_21 (by decide) ?_
      refine lv_icmp_lt (tgt := 30) hx hb dX9_append_24 (by decide) (fun c_2 => ?_) (fun c_2 => ?_)
      · replace hf := kt_p hf c_2
        refine lv_aload_n hx hb dX9_append_30 rfl (lv_at hl 0 rfl) ?_
        refine va_get (D := D) (ci := 6) (v := .ref a_text) (C := RX9) (T := TX9) (N := 9) hx hb hts qX9_append_X9 hown hK hP 0 rfl rfl 0 (Nat.le_of_ble_eq_true rfl) (hts (.fieldLink RX9 12 "KnotDiagram" "text" "LKnotDiagram$Text;") qX9_append_1) (fun _ h9 => h9) rfl dX9_append_31 ?_
        refine lv_iload_n hx hb dX9_append_34 rfl (lv_at hl 1 rfl) ?_
        obtain ⟨o_length_1, o_characters_1, hc_1, hf⟩ := bnd2_s hf
        refine kcVv (As := [.int v1]) (rest := []) (w2 := [(a_this, .inr (6, [.ref a_text, .ref a_reader, .ref a_diagram, .ref a_draft, .ref a_shelf, .ref a_bracket, .ref a_colouring, .int i_savedStates, .int i_newestPlace])), (a_text, .inr (5, [.ref a_text_characters, .int o_length_1])), (a_text_characters, .inl (cyI, 160, .inl o_characters_1))]) S hK hP hD hS hA hN (mX8_add l D cyI cyZ H.size a_text a_text_characters v1 i_text_length f_text_characters o_length_1 o_characters_1 hc_1) (cwV 1 hts gX9_append_X8_add rfl rfl rfl (by decide +kernel) ⟨Nat.le_of_ble_eq_true rfl, Nat.le_of_ble_eq_true rfl⟩) 5 1 rfl rfl [1, 2] [0] [0, 1, 2] rfl rfl rfl rfl (by decide) rfl rfl hl.1 (Nat.le_of_ble_eq_true rfl) dX9_append_35 ⟨Nat.le_of_ble_eq_true rfl, Nat.le_of_ble_eq_true rfl⟩ (fun H locs hP hD hS => ?_)
        refine lv_aload_n hx hb dX9_append_38 rfl (lv_at hl 0 rfl) ?_
        refine va_get (D := D) (ci := 6) (v := .ref a_text) (C := RX9) (T := TX9) (N := 9) hx hb hts qX9_append_X9 hown hK hP 0 rfl rfl 0 (Nat.le_of_ble_eq_true rfl) (hts (.fieldLink RX9 12 "KnotDiagram" "text" "LKnotDiagram$Text;") qX9_append_1) (fun _ h9 => h9) rfl dX9_append_39 ?_
        refine va_get (D := D) (ci := 5) (v := .int o_length_1) (C := RX8) (T := TX8) (N := 2) hx hb hts qX9_append_X8 hown hK hP 1 rfl rfl 1 (Nat.le_of_ble_eq_true rfl) (hts (.fieldLink RX9 59 "KnotDiagram$Text" "length" "I") qX9_append_2) (fun _ h9 => h9) rfl dX9_append_42 ?_
        obtain ⟨rfl, rfl, rfl⟩ := some3_s hf
        exact kRi hx hb hr hlocks hP hK hD hS rfl dX9_append_45
      · replace hf := kt_n hf c_2
        refine lv_ldc (v := (-1000003)) hx hb hown (hts (.constant RX9 62 (-1000003)) qX9_append_3) dX9_append_27 ?_
        obtain ⟨rfl, rfl, rfl⟩ := some3_s hf
        exact kRi hx hb hr hlocks hP hK hD hS rfl dX9_append_29
    · replace hf := kt_n hf c_3
      refine lv_ldc (v := (-1000001)) hx hb hown (hts (.constant RX9 58 (-1000001)) qX9_append_0) dX9_append_11 ?_
      obtain ⟨rfl, rfl, rfl⟩ := some3_s hf
      exact kRi hx hb hr hlocks hP hK hD hS rfl dX9_append_13
def kX9_clearText (i_text_length : Int32) : Option (Int32 × Int32) :=
  some (i_text_length, 0)
def rmX9_clearText : Room := { frames := 0, cells := 0, slots := 0, locals := 0 }
theorem qX9_clearText_0 : (.fieldLink RX9 12 "KnotDiagram" "text" "LKnotDiagram$Text;" : Cond) ∈ wsX9_clearText := by decide +kernel
theorem qX9_clearText_1 : (.fieldLink RX9 59 "KnotDiagram$Text" "length" "I" : Cond) ∈ wsX9_clearText := by decide +kernel
theorem qX9_clearText_X9 : ∀ w ∈ wsX90, w ∈ wsX9_clearText := by decide +kernel
theorem qX9_clearText_X8 : ∀ w ∈ wsX80, w ∈ wsX9_clearText := by decide +kernel
set_option maxHeartbeats 4000000 in
set_option maxRecDepth 100000 in
theorem mX9_clearText (l : Launch) (D : va_G) (cyI cyZ : ClassId) (sz : Nat) (a_this a_text a_reader a_diagram a_draft a_shelf a_bracket a_colouring a_text_characters : Nat) (i_savedStates : Int32) (i_newestPlace : Int32) (i_text_length : Int32) (r : Int32) (o_text_length : Int32) (hf : kX9_clearText i_text_length = some (r, o_text_length)) : Met l yX9_clearText wsX9_clearText rmX9_clearText (kPre D cyI cyZ [.ref a_this] [(a_this, .inr (6, [.ref a_text, .ref a_reader, .ref a_diagram, .ref a_draft, .ref a_shelf, .ref a_bracket, .ref a_colouring, .int i_savedStates, .int i_newestPlace])), (a_text, .inr (5, [.ref a_text_characters, .int i_text_length]))] sz) (kQi D cyI cyZ (va_A [(a_this, .inr (6, [.ref a_text, .ref a_reader, .ref a_diagram, .ref a_draft, .ref a_shelf, .ref a_bracket, .ref a_colouring, .int i_savedStates, .int i_newestPlace])), (a_text, .inr (5, [.ref a_text_characters, .int i_text_length]))] sz) [(a_this, .inr (6, [.ref a_text, .ref a_reader, .ref a_diagram, .ref a_draft, .ref a_shelf, .ref a_bracket, .ref a_colouring, .int i_savedStates, .int i_newestPlace])), (a_text, .inr (5, [.ref a_text_characters, .int o_text_length]))] r) 0 0 (va_A [(a_this, .inr (6, [.ref a_text, .ref a_reader, .ref a_diagram, .ref a_draft, .ref a_shelf, .ref a_bracket, .ref a_colouring, .int i_savedStates, .int i_newestPlace])), (a_text, .inr (5, [.ref a_text_characters, .int i_text_length]))] sz) := by
  refine Met.ofW (cc := cX9_clearText) (maxL := 2) (ret := (some .int)) (by decide) rfl ?_
  intro p e s m args below meth c s₁ B hml hv
  obtain ⟨rfl, hsz, hP, hK, hD0, hN⟩ := hv
  have hx := B.exec
  have hb := B.bytes
  have hr := B.returns
  have hts := atoms_spec (ws := wsX9_clearText) B.pre
  have hown : s.vm.findClass RX9 = some m.cls := findClass_of_methodNamed B.named
  have hlocks := B.notSynchronized
  subst hsz
  have hD := hD0.self (sz := s.heap.size)
  generalize hAe : va_A [(a_this, .inr (6, [.ref a_text, .ref a_reader, .ref a_diagram, .ref a_draft, .ref a_shelf, .ref a_bracket, .ref a_colouring, .int i_savedStates, .int i_newestPlace])), (a_text, .inr (5, [.ref a_text_characters, .int i_text_length]))] s.heap.size = A at hD ⊢
  have hA : ∀ q : Nat, s.heap.size ≤ q → A q := fun q h => by rw [← hAe]; exact Or.inr h
  clear hAe hD0
  have hS : va_S A s.heap s.heap [] := va_S.rf
  have S : CallFix p m c cX9_clearText 2 s (([.ref a_this] : List Value).toArray) wsX9_clearText RX9 := ⟨hx, hb, hml, hown, hts⟩
  have hl := lv_entry ([.ref a_this]) (n := 2) (Nat.le_of_ble_eq_true rfl)
  rw [lg_entry_eq]
  generalize (lg_sl ([.ref a_this]) ++ List.replicate (2 - (lg_sl ([.ref a_this])).length) Slot.unset).toArray = ls at hl ⊢
  replace hl : lv_has ls 2 [(0, .ref a_this)] := hl
  generalize ([] : List Loc) = locs at hS ⊢
  delta kX9_clearText at hf
  obtain ⟨H, hH⟩ : ∃ H, H = s.heap := ⟨_, rfl⟩
  have hS : va_S A s.heap H locs := by rw [hH]; exact hS
  have hP : va_P D vwCl [(a_this, .inr (6, [.ref a_text, .ref a_reader, .ref a_diagram, .ref a_draft, .ref a_shelf, .ref a_bracket, .ref a_colouring, .int i_savedStates, .int i_newestPlace])), (a_text, .inr (5, [.ref a_text_characters, .int i_text_length]))] H := by rw [hH]; exact hP
  suffices hgo : W p l e (headSpec wsX9_clearText rmX9_clearText).room s m (([.ref a_this] : List Value).toArray) below meth c H locs 0 0 (MQ below (kQi D cyI cyZ A [(a_this, .inr (6, [.ref a_text, .ref a_reader, .ref a_diagram, .ref a_draft, .ref a_shelf, .ref a_bracket, .ref a_colouring, .int i_savedStates, .int i_newestPlace])), (a_text, .inr (5, [.ref a_text_characters, .int o_text_length]))] r) (([.ref a_this] : List Value).toArray) s 0 0 A) (F0 m 0 ls []) by rw [hH] at hgo; exact hgo
  clear hH
  refine lv_aload_n hx hb dX9_clearText_0 rfl (lv_at hl 0 rfl) ?_
  refine va_get (D := D) (ci := 6) (v := .ref a_text) (C := RX9) (T := TX9) (N := 9) hx hb hts qX9_clearText_X9 hown hK hP 0 rfl rfl 0 (Nat.le_of_ble_eq_true rfl) (hts (.fieldLink RX9 12 "KnotDiagram" "text" "LKnotDiagram$Text;") qX9_clearText_0) (fun _ h9 => h9) rfl dX9_clearText_1 ?_
  refine va_get (D := D) (ci := 5) (v := .int i_text_length) (C := RX8) (T := TX8) (N := 2) hx hb hts qX9_clearText_X8 hown hK hP 1 rfl rfl 1 (Nat.le_of_ble_eq_true rfl) (hts (.fieldLink RX9 59 "KnotDiagram$Text" "length" "I") qX9_clearText_1) (fun _ h9 => h9) rfl dX9_clearText_4 ?_
  refine lv_istore_n (lv' := [(1, .int i_text_length), (0, .ref a_this)]) hx hb dX9_clearText_7 rfl hl (by decide) rfl (fun ls hl => ?_)
  refine lv_aload_n hx hb dX9_clearText_8 rfl (lv_at hl 1 rfl) ?_
  refine va_get (D := D) (ci := 6) (v := .ref a_text) (C := RX9) (T := TX9) (N := 9) hx hb hts qX9_clearText_X9 hown hK hP 0 rfl rfl 0 (Nat.le_of_ble_eq_true rfl) (hts (.fieldLink RX9 12 "KnotDiagram" "text" "LKnotDiagram$Text;") qX9_clearText_0) (fun _ h9 => h9) rfl dX9_clearText_9 ?_
  refine lv_iconst (v := 0) hx hb dX9_clearText_12 (by decide) ?_
  refine va_put (D := D) (ci := 5) (v := .int 0) (ty := .int) (C := RX8) (T := TX8) (N := 2) hx hb hts qX9_clearText_X8 tyX8 tyX8_ok nmX8 hown hK hP hD hS 1 rfl rfl 1 (Nat.le_of_ble_eq_true rfl) (hts (.fieldLink RX9 59 "KnotDiagram$Text" "length" "I") qX9_clearText_1) (fun _ h9 => h9) rfl (by decide +kernel) rfl rfl (Nat.le_of_ble_eq_true rfl) dX9_clearText_13 (fun H locs hP hD hS => ?_)
  replace hP : va_P D vwCl [(a_this, .inr (6, [.ref a_text, .ref a_reader, .ref a_diagram, .ref a_draft, .ref a_shelf, .ref a_bracket, .ref a_colouring, .int i_savedStates, .int i_newestPlace])), (a_text, .inr (5, [.ref a_text_characters, .int 0]))] H := hP
  replace hD : va_D A [(a_this, .inr (6, [.ref a_text, .ref a_reader, .ref a_diagram, .ref a_draft, .ref a_shelf, .ref a_bracket, .ref a_colouring, .int i_savedStates, .int i_newestPlace])), (a_text, .inr (5, [.ref a_text_characters, .int 0]))] := hD
  refine lv_iload_n hx hb dX9_clearText_16 rfl (lv_at hl 0 rfl) ?_
  obtain ⟨rfl, rfl⟩ := some2_s hf
  exact kRi hx hb hr hlocks hP hK hD hS rfl dX9_clearText_17
def kX9_becomeDraft (i_savedStates : Int32) (i_newestPlace : Int32) (i_diagram_crossings : Int32) (i_diagram_circles : Int32) (f_diagram_arcs : Nat → Int32) (i_draft_crossings : Int32) (i_draft_circles : Int32) (f_draft_arcs : Nat → Int32) (f_shelf_cells : Nat → Int32) (f_shelf_filled : Nat → Int32) (i_bracket_prepared : Int32) : Option (Int32 × Int32 × Int32 × Int32 × (Nat → Int32) × (Nat → Int32) × (Nat → Int32) × Int32) :=
  bnd2 (kX6_keep (irem (i_newestPlace + 1) 8) f_shelf_cells f_shelf_filled i_diagram_crossings i_diagram_circles f_diagram_arcs) (fun o_cells_1 o_filled_1 => bnd3 (kX2_copyFrom i_diagram_crossings i_diagram_circles f_diagram_arcs i_draft_crossings i_draft_circles f_draft_arcs) (fun o_crossings_2 o_circles_2 o_arcs_2 => bnd1 (kX0_forget i_bracket_prepared) (fun o_prepared_3 => some ((imin (i_savedStates + 1) 8), (irem (i_newestPlace + 1) 8), o_crossings_2, o_circles_2, o_arcs_2, o_cells_1, o_filled_1, o_prepared_3))))
def rmX9_becomeDraft : Room := { frames := 2, cells := 0, slots := 0, locals := 45 }
theorem qX9_becomeDraft_0 : (.fieldLink RX9 177 "KnotDiagram" "newestPlace" "I" : Cond) ∈ wsX9_becomeDraft := by decide +kernel
theorem qX9_becomeDraft_1 : (.fieldLink RX9 36 "KnotDiagram" "shelf" "LKnotDiagram$Shelf;" : Cond) ∈ wsX9_becomeDraft := by decide +kernel
theorem qX9_becomeDraft_2 : (.fieldLink RX9 26 "KnotDiagram" "diagram" "LKnotDiagram$Diagram;" : Cond) ∈ wsX9_becomeDraft := by decide +kernel
theorem qX9_becomeDraft_3 : (.fieldLink RX9 174 "KnotDiagram" "savedStates" "I" : Cond) ∈ wsX9_becomeDraft := by decide +kernel
theorem qX9_becomeDraft_4 : (.methodLink RX9 196 Lib.Math.min.name : Cond) ∈ wsX9_becomeDraft := by decide +kernel
theorem qX9_becomeDraft_5 : (.static Lib.Math.min.name : Cond) ∈ wsX9_becomeDraft := by decide +kernel
theorem qX9_becomeDraft_6 : (.initialized "java/lang/Math" : Cond) ∈ wsX9_becomeDraft := by decide +kernel
theorem qX9_becomeDraft_7 : (.code Lib.Math.min.name Lib.Math.min.code 2 (some .int) : Cond) ∈ wsX9_becomeDraft := by decide +kernel
theorem qX9_becomeDraft_8 : (.fieldLink RX9 30 "KnotDiagram" "draft" "LKnotDiagram$Diagram;" : Cond) ∈ wsX9_becomeDraft := by decide +kernel
theorem qX9_becomeDraft_9 : (.fieldLink RX9 43 "KnotDiagram" "bracket" "LKnotDiagram$Bracket;" : Cond) ∈ wsX9_becomeDraft := by decide +kernel
theorem qX9_becomeDraft_X9 : ∀ w ∈ wsX90, w ∈ wsX9_becomeDraft := by decide +kernel
set_option maxHeartbeats 4000000 in
set_option maxRecDepth 100000 in
theorem mX9_becomeDraft (l : Launch) (D : va_G) (cyI cyZ : ClassId) (sz : Nat) (a_this a_text a_reader a_diagram a_draft a_shelf a_bracket a_colouring a_diagram_arcs a_draft_arcs a_shelf_cells a_shelf_filled a_bracket_otherEnds a_bracket_tally a_bracket_coefficients a_bracket_product : Nat) (i_savedStates : Int32) (i_newestPlace : Int32) (i_diagram_crossings : Int32) (i_diagram_circles : Int32) (f_diagram_arcs : Nat → Int32) (i_draft_crossings : Int32) (i_draft_circles : Int32) (f_draft_arcs : Nat → Int32) (f_shelf_cells : Nat → Int32) (f_shelf_filled : Nat → Int32) (i_bracket_prepared : Int32) (o_savedStates : Int32) (o_newestPlace : Int32) (o_diagram_crossings : Int32) (o_diagram_circles : Int32) (o_diagram_arcs : Nat → Int32) (o_shelf_cells : Nat → Int32) (o_shelf_filled : Nat → Int32) (o_bracket_prepared : Int32) (hf : kX9_becomeDraft i_savedStates i_newestPlace i_diagram_crossings i_diagram_circles f_diagram_arcs i_draft_crossings i_draft_circles f_draft_arcs f_shelf_cells f_shelf_filled i_bracket_prepared = some (o_savedStates, o_newestPlace, o_diagram_crossings, o_diagram_circles, o_diagram_arcs, o_shelf_cells, o_shelf_filled, o_bracket_prepared)) : Met l yX9_becomeDraft wsX9_becomeDraft rmX9_becomeDraft (kPre D cyI cyZ [.ref a_this] [(a_this, .inr (6, [.ref a_text, .ref a_reader, .ref a_diagram, .ref a_draft, .ref a_shelf, .ref a_bracket, .ref a_colouring, .int i_savedStates, .int i_newestPlace])), (a_diagram, .inr (2, [.int i_diagram_crossings, .int i_diagram_circles, .ref a_diagram_arcs])), (a_diagram_arcs, .inl (cyI, 32, .inl f_diagram_arcs)), (a_draft, .inr (2, [.int i_draft_crossings, .int i_draft_circles, .ref a_draft_arcs])), (a_draft_arcs, .inl (cyI, 32, .inl f_draft_arcs)), (a_shelf, .inr (4, [.ref a_shelf_cells, .ref a_shelf_filled])), (a_shelf_cells, .inl (cyI, 340, .inl f_shelf_cells)), (a_shelf_filled, .inl (cyZ, 10, .inl f_shelf_filled)), (a_bracket, .inr (0, [.ref a_bracket_otherEnds, .ref a_bracket_tally, .ref a_bracket_coefficients, .ref a_bracket_product, .int i_bracket_prepared]))] sz) (kQv D cyI cyZ (va_A [(a_this, .inr (6, [.ref a_text, .ref a_reader, .ref a_diagram, .ref a_draft, .ref a_shelf, .ref a_bracket, .ref a_colouring, .int i_savedStates, .int i_newestPlace])), (a_diagram, .inr (2, [.int i_diagram_crossings, .int i_diagram_circles, .ref a_diagram_arcs])), (a_diagram_arcs, .inl (cyI, 32, .inl f_diagram_arcs)), (a_draft, .inr (2, [.int i_draft_crossings, .int i_draft_circles, .ref a_draft_arcs])), (a_draft_arcs, .inl (cyI, 32, .inl f_draft_arcs)), (a_shelf, .inr (4, [.ref a_shelf_cells, .ref a_shelf_filled])), (a_shelf_cells, .inl (cyI, 340, .inl f_shelf_cells)), (a_shelf_filled, .inl (cyZ, 10, .inl f_shelf_filled)), (a_bracket, .inr (0, [.ref a_bracket_otherEnds, .ref a_bracket_tally, .ref a_bracket_coefficients, .ref a_bracket_product, .int i_bracket_prepared]))] sz) [(a_this, .inr (6, [.ref a_text, .ref a_reader, .ref a_diagram, .ref a_draft, .ref a_shelf, .ref a_bracket, .ref a_colouring, .int o_savedStates, .int o_newestPlace])), (a_diagram, .inr (2, [.int o_diagram_crossings, .int o_diagram_circles, .ref a_diagram_arcs])), (a_diagram_arcs, .inl (cyI, 32, .inl o_diagram_arcs)), (a_draft, .inr (2, [.int i_draft_crossings, .int i_draft_circles, .ref a_draft_arcs])), (a_draft_arcs, .inl (cyI, 32, .inl f_draft_arcs)), (a_shelf, .inr (4, [.ref a_shelf_cells, .ref a_shelf_filled])), (a_shelf_cells, .inl (cyI, 340, .inl o_shelf_cells)), (a_shelf_filled, .inl (cyZ, 10, .inl o_shelf_filled)), (a_bracket, .inr (0, [.ref a_bracket_otherEnds, .ref a_bracket_tally, .ref a_bracket_coefficients, .ref a_bracket_product, .int o_bracket_prepared]))]) 0 0 (va_A [(a_this, .inr (6, [.ref a_text, .ref a_reader, .ref a_diagram, .ref a_draft, .ref a_shelf, .ref a_bracket, .ref a_colouring, .int i_savedStates, .int i_newestPlace])), (a_diagram, .inr (2, [.int i_diagram_crossings, .int i_diagram_circles, .ref a_diagram_arcs])), (a_diagram_arcs, .inl (cyI, 32, .inl f_diagram_arcs)), (a_draft, .inr (2, [.int i_draft_crossings, .int i_draft_circles, .ref a_draft_arcs])), (a_draft_arcs, .inl (cyI, 32, .inl f_draft_arcs)), (a_shelf, .inr (4, [.ref a_shelf_cells, .ref a_shelf_filled])), (a_shelf_cells, .inl (cyI, 340, .inl f_shelf_cells)), (a_shelf_filled, .inl (cyZ, 10, .inl f_shelf_filled)), (a_bracket, .inr (0, [.ref a_bracket_otherEnds, .ref a_bracket_tally, .ref a_bracket_coefficients, .ref a_bracket_product, .int i_bracket_prepared]))] sz) := by
  refine Met.ofW (cc := cX9_becomeDraft) (maxL := 1) (ret := none) (by decide) rfl ?_
  intro p e s m args below meth c s₁ B hml hv
  obtain ⟨rfl, hsz, hP, hK, hD0, hN⟩ := hv
  have hx := B.exec
  have hb := B.bytes
  have hr := B.returns
  have hts := atoms_spec (ws := wsX9_becomeDraft) B.pre
  have hown : s.vm.findClass RX9 = some m.cls := findClass_of_methodNamed B.named
  have hlocks := B.notSynchronized
  subst hsz
  have hD := hD0.self (sz := s.heap.size)
  generalize hAe : va_A [(a_this, .inr (6, [.ref a_text, .ref a_reader, .ref a_diagram, .ref a_draft, .ref a_shelf, .ref a_bracket, .ref a_colouring, .int i_savedStates, .int i_newestPlace])), (a_diagram, .inr (2, [.int i_diagram_crossings, .int i_diagram_circles, .ref a_diagram_arcs])), (a_diagram_arcs, .inl (cyI, 32, .inl f_diagram_arcs)), (a_draft, .inr (2, [.int i_draft_crossings, .int i_draft_circles, .ref a_draft_arcs])), (a_draft_arcs, .inl (cyI, 32, .inl f_draft_arcs)), (a_shelf, .inr (4, [.ref a_shelf_cells, .ref a_shelf_filled])), (a_shelf_cells, .inl (cyI, 340, .inl f_shelf_cells)), (a_shelf_filled, .inl (cyZ, 10, .inl f_shelf_filled)), (a_bracket, .inr (0, [.ref a_bracket_otherEnds, .ref a_bracket_tally, .ref a_bracket_coefficients, .ref a_bracket_product, .int i_bracket_prepared]))] s.heap.size = A at hD ⊢
  have hA : ∀ q : Nat, s.heap.size ≤ q → A q := fun q h => by rw [← hAe]; exact Or.inr h
  clear hAe hD0
  have hS : va_S A s.heap s.heap [] := va_S.rf
  have S : CallFix p m c cX9_becomeDraft 1 s (([.ref a_this] : List Value).toArray) wsX9_becomeDraft RX9 := ⟨hx, hb, hml, hown, hts⟩
  have hl := lv_entry ([.ref a_this]) (n := 1) (Nat.le_of_ble_eq_true rfl)
  rw [lg_entry_eq]
  generalize (lg_sl ([.ref a_this]) ++ List.replicate (1 - (lg_sl ([.ref a_this])).length) Slot.unset).toArray = ls at hl ⊢
  replace hl : lv_has ls 1 [(0, .ref a_this)] := hl
  generalize ([] : List Loc) = locs at hS ⊢
  delta kX9_becomeDraft at hf
  obtain ⟨H, hH⟩ : ∃ H, H = s.heap := ⟨_, rfl⟩
  have hS : va_S A s.heap H locs := by rw [hH]; exact hS
  have hP : va_P D vwCl [(a_this, .inr (6, [.ref a_text, .ref a_reader, .ref a_diagram, .ref a_draft, .ref a_shelf, .ref a_bracket, .ref a_colouring, .int i_savedStates, .int i_newestPlace])), (a_diagram, .inr (2, [.int i_diagram_crossings, .int i_diagram_circles, .ref a_diagram_arcs])), (a_diagram_arcs, .inl (cyI, 32, .inl f_diagram_arcs)), (a_draft, .inr (2, [.int i_draft_crossings, .int i_draft_circles, .ref a_draft_arcs])), (a_draft_arcs, .inl (cyI, 32, .inl f_draft_arcs)), (a_shelf, .inr (4, [.ref a_shelf_cells, .ref a_shelf_filled])), (a_shelf_cells, .inl (cyI, 340, .inl f_shelf_cells)), (a_shelf_filled, .inl (cyZ, 10, .inl f_shelf_filled)), (a_bracket, .inr (0, [.ref a_bracket_otherEnds, .ref a_bracket_tally, .ref a_bracket_coefficients, .ref a_bracket_product, .int i_bracket_prepared]))] H := by rw [hH]; exact hP
  suffices hgo : W p l e (headSpec wsX9_becomeDraft rmX9_becomeDraft).room s m (([.ref a_this] : List Value).toArray) below meth c H locs 0 0 (MQ below (kQv D cyI cyZ A [(a_this, .inr (6, [.ref a_text, .ref a_reader, .ref a_diagram, .ref a_draft, .ref a_shelf, .ref a_bracket, .ref a_colouring, .int o_savedStates, .int o_newestPlace])), (a_diagram, .inr (2, [.int o_diagram_crossings, .int o_diagram_circles, .ref a_diagram_arcs])), (a_diagram_arcs, .inl (cyI, 32, .inl o_diagram_arcs)), (a_draft, .inr (2, [.int i_draft_crossings, .int i_draft_circles, .ref a_draft_arcs])), (a_draft_arcs, .inl (cyI, 32, .inl f_draft_arcs)), (a_shelf, .inr (4, [.ref a_shelf_cells, .ref a_shelf_filled])), (a_shelf_cells, .inl (cyI, 340, .inl o_shelf_cells)), (a_shelf_filled, .inl (cyZ, 10, .inl o_shelf_filled)), (a_bracket, .inr (0, [.ref a_bracket_otherEnds, .ref a_bracket_tally, .ref a_bracket_coefficients, .ref a_bracket_product, .int o_bracket_prepared]))]) (([.ref a_this] : List Value).toArray) s 0 0 A) (F0 m 0 ls []) by rw [hH] at hgo; exact hgo
  clear hH
  refine lv_aload_n hx hb dX9_becomeDraft_0 rfl (lv_at hl 0 rfl) ?_
  refine lv_aload_n hx hb dX9_becomeDraft_1 rfl (lv_at hl 0 rfl) ?_
  refine va_get (D := D) (ci := 6) (v := .int i_newestPlace) (C := RX9) (T := TX9) (N := 9) hx hb hts qX9_becomeDraft_X9 hown hK hP 0 rfl rfl 8 (Nat.le_of_ble_eq_true rfl) (hts (.fieldLink RX9 177 "KnotDiagram" "newestPlace" "I") qX9_becomeDraft_0) (fun _ h9 => h9) rfl dX9_becomeDraft_2 ?_
  refine lv_iconst (v := 1) hx hb dX9_becomeDraft_5 (by decide) ?_
  refine lv_iadd hx hb dX9_becomeDraft_6 ?_
  refine lv_bipush (v := 8) hx hb dX9_becomeDraft_7 (by decide) ?_
  refine k_irem hx hb dX9_becomeDraft_9 (by decide) ?_
  refine va_put (D := D) (ci := 6) (v := .int (irem (i_newestPlace + 1) 8)) (ty := .int) (C := RX9) (T := TX9) (N := 9) hx hb hts qX9_becomeDraft_X9 tyX9 tyX9_ok nmX9 hown hK hP hD hS 0 rfl rfl 8 (Nat.le_of_ble_eq_true rfl) (hts (.fieldLink RX9 177 "KnotDiagram" "newestPlace" "I") qX9_becomeDraft_0) (fun _ h9 => h9) rfl (by decide +kernel) rfl rfl (Nat.le_of_ble_eq_true rfl) dX9_becomeDraft_10 (fun H locs hP hD hS => ?_)
  replace hP : va_P D vwCl [(a_this, .inr (6, [.ref a_text, .ref a_reader, .ref a_diagram, .ref a_draft, .ref a_shelf, .ref a_bracket, .ref a_colouring, .int i_savedStates, .int (irem (i_newestPlace + 1) 8)])), (a_diagram, .inr (2, [.int i_diagram_crossings, .int i_diagram_circles, .ref a_diagram_arcs])), (a_diagram_arcs, .inl (cyI, 32, .inl f_diagram_arcs)), (a_draft, .inr (2, [.int i_draft_crossings, .int i_draft_circles, .ref a_draft_arcs])), (a_draft_arcs, .inl (cyI, 32, .inl f_draft_arcs)), (a_shelf, .inr (4, [.ref a_shelf_cells, .ref a_shelf_filled])), (a_shelf_cells, .inl (cyI, 340, .inl f_shelf_cells)), (a_shelf_filled, .inl (cyZ, 10, .inl f_shelf_filled)), (a_bracket, .inr (0, [.ref a_bracket_otherEnds, .ref a_bracket_tally, .ref a_bracket_coefficients, .ref a_bracket_product, .int i_bracket_prepared]))] H := hP
  replace hD : va_D A [(a_this, .inr (6, [.ref a_text, .ref a_reader, .ref a_diagram, .ref a_draft, .ref a_shelf, .ref a_bracket, .ref a_colouring, .int i_savedStates, .int (irem (i_newestPlace + 1) 8)])), (a_diagram, .inr (2, [.int i_diagram_crossings, .int i_diagram_circles, .ref a_diagram_arcs])), (a_diagram_arcs, .inl (cyI, 32, .inl f_diagram_arcs)), (a_draft, .inr (2, [.int i_draft_crossings, .int i_draft_circles, .ref a_draft_arcs])), (a_draft_arcs, .inl (cyI, 32, .inl f_draft_arcs)), (a_shelf, .inr (4, [.ref a_shelf_cells, .ref a_shelf_filled])), (a_shelf_cells, .inl (cyI, 340, .inl f_shelf_cells)), (a_shelf_filled, .inl (cyZ, 10, .inl f_shelf_filled)), (a_bracket, .inr (0, [.ref a_bracket_otherEnds, .ref a_bracket_tally, .ref a_bracket_coefficients, .ref a_bracket_product, .int i_bracket_prepared]))] := hD
  refine lv_aload_n hx hb dX9_becomeDraft_13 rfl (lv_at hl 0 rfl) ?_
  refine va_get (D := D) (ci := 6) (v := .ref a_shelf) (C := RX9) (T := TX9) (N := 9) hx hb hts qX9_becomeDraft_X9 hown hK hP 0 rfl rfl 4 (Nat.le_of_ble_eq_true rfl) (hts (.fieldLink RX9 36 "KnotDiagram" "shelf" "LKnotDiagram$Shelf;") qX9_becomeDraft_1) (fun _ h9 => h9) rfl dX9_becomeDraft_14 ?_
  refine lv_aload_n hx hb dX9_becomeDraft_17 rfl (lv_at hl 0 rfl) ?_
  refine va_get (D := D) (ci := 6) (v := .int (irem (i_newestPlace + 1) 8)) (C := RX9) (T := TX9) (N := 9) hx hb hts qX9_becomeDraft_X9 hown hK hP 0 rfl rfl 8 (Nat.le_of_ble_eq_true rfl) (hts (.fieldLink RX9 177 "KnotDiagram" "newestPlace" "I") qX9_becomeDraft_0) (fun _ h9 => h9) rfl dX9_becomeDraft_18 ?_
  refine lv_aload_n hx hb dX9_becomeDraft_21 rfl (lv_at hl 0 rfl) ?_
  refine va_get (D := D) (ci := 6) (v := .ref a_diagram) (C := RX9) (T := TX9) (N := 9) hx hb hts qX9_becomeDraft_X9 hown hK hP 0 rfl rfl 2 (Nat.le_of_ble_eq_true rfl) (hts (.fieldLink RX9 26 "KnotDiagram" "diagram" "LKnotDiagram$Diagram;") qX9_becomeDraft_2) (fun _ h9 => h9) rfl dX9_becomeDraft_22 ?_
  obtain ⟨o_cells_1, o_filled_1, hc_1, hf⟩ := bnd2_s hf
  refine kcVv (As := [.int (irem (i_newestPlace + 1) 8), .ref a_diagram]) (rest := []) (w2 := [(a_this, .inr (6, [.ref a_text, .ref a_reader, .ref a_diagram, .ref a_draft, .ref a_shelf, .ref a_bracket, .ref a_colouring, .int i_savedStates, .int (irem (i_newestPlace + 1) 8)])), (a_diagram, .inr (2, [.int i_diagram_crossings, .int i_diagram_circles, .ref a_diagram_arcs])), (a_diagram_arcs, .inl (cyI, 32, .inl f_diagram_arcs)), (a_draft, .inr (2, [.int i_draft_crossings, .int i_draft_circles, .ref a_draft_arcs])), (a_draft_arcs, .inl (cyI, 32, .inl f_draft_arcs)), (a_shelf, .inr (4, [.ref a_shelf_cells, .ref a_shelf_filled])), (a_shelf_cells, .inl (cyI, 340, .inl o_cells_1)), (a_shelf_filled, .inl (cyZ, 10, .inl o_filled_1)), (a_bracket, .inr (0, [.ref a_bracket_otherEnds, .ref a_bracket_tally, .ref a_bracket_coefficients, .ref a_bracket_product, .int i_bracket_prepared]))]) S hK hP hD hS hA hN (mX6_keep l D cyI cyZ H.size a_shelf a_diagram a_shelf_cells a_shelf_filled a_diagram_arcs (irem (i_newestPlace + 1) 8) f_shelf_cells f_shelf_filled i_diagram_crossings i_diagram_circles f_diagram_arcs o_cells_1 o_filled_1 hc_1) (cwV 2 hts gX9_becomeDraft_X6_keep rfl rfl rfl (by decide +kernel) ⟨Nat.le_of_ble_eq_true rfl, Nat.le_of_ble_eq_true rfl⟩) 4 5 rfl rfl [5, 6, 7, 1, 2] [0, 3, 4, 8] [0, 7, 8, 1, 2, 4, 5, 6, 3] rfl rfl rfl rfl (by decide) rfl rfl hl.1 (Nat.le_of_ble_eq_true rfl) dX9_becomeDraft_25 ⟨Nat.le_of_ble_eq_true rfl, Nat.le_of_ble_eq_true rfl⟩ (fun H locs hP hD hS => ?_)
  refine lv_aload_n hx hb dX9_becomeDraft_28 rfl (lv_at hl 0 rfl) ?_
  refine lv_aload_n hx hb dX9_becomeDraft_29 rfl (lv_at hl 0 rfl) ?_
  refine va_get (D := D) (ci := 6) (v := .int i_savedStates) (C := RX9) (T := TX9) (N := 9) hx hb hts qX9_becomeDraft_X9 hown hK hP 0 rfl rfl 7 (Nat.le_of_ble_eq_true rfl) (hts (.fieldLink RX9 174 "KnotDiagram" "savedStates" "I") qX9_becomeDraft_3) (fun _ h9 => h9) rfl dX9_becomeDraft_30 ?_
  refine lv_iconst (v := 1) hx hb dX9_becomeDraft_33 (by decide) ?_
  refine lv_iadd hx hb dX9_becomeDraft_34 ?_
  refine lv_bipush (v := 8) hx hb dX9_becomeDraft_35 (by decide) ?_
  refine k_mmin hx hb (by rw [hml]; exact hl.1.symm) hown (hts (.methodLink RX9 196 Lib.Math.min.name) qX9_becomeDraft_4) (hts (.static Lib.Math.min.name) qX9_becomeDraft_5) (hts (.initialized "java/lang/Math") qX9_becomeDraft_6) (hts (.code Lib.Math.min.name Lib.Math.min.code 2 (some .int)) qX9_becomeDraft_7) (Nat.le_of_ble_eq_true rfl) (Nat.le_of_ble_eq_true rfl) (Nat.zero_le _) (Nat.zero_le _) dX9_becomeDraft_37 ?_
  refine va_put (D := D) (ci := 6) (v := .int (imin (i_savedStates + 1) 8)) (ty := .int) (C := RX9) (T := TX9) (N := 9) hx hb hts qX9_becomeDraft_X9 tyX9 tyX9_ok nmX9 hown hK hP hD hS 0 rfl rfl 7 (Nat.le_of_ble_eq_true rfl) (hts (.fieldLink RX9 174 "KnotDiagram" "savedStates" "I") qX9_becomeDraft_3) (fun _ h9 => h9) rfl (by decide +kernel) rfl rfl (Nat.le_of_ble_eq_true rfl) dX9_becomeDraft_40 (fun H locs hP hD hS => ?_)
  replace hP : va_P D vwCl [(a_this, .inr (6, [.ref a_text, .ref a_reader, .ref a_diagram, .ref a_draft, .ref a_shelf, .ref a_bracket, .ref a_colouring, .int (imin (i_savedStates + 1) 8), .int (irem (i_newestPlace + 1) 8)])), (a_diagram, .inr (2, [.int i_diagram_crossings, .int i_diagram_circles, .ref a_diagram_arcs])), (a_diagram_arcs, .inl (cyI, 32, .inl f_diagram_arcs)), (a_draft, .inr (2, [.int i_draft_crossings, .int i_draft_circles, .ref a_draft_arcs])), (a_draft_arcs, .inl (cyI, 32, .inl f_draft_arcs)), (a_shelf, .inr (4, [.ref a_shelf_cells, .ref a_shelf_filled])), (a_shelf_cells, .inl (cyI, 340, .inl o_cells_1)), (a_shelf_filled, .inl (cyZ, 10, .inl o_filled_1)), (a_bracket, .inr (0, [.ref a_bracket_otherEnds, .ref a_bracket_tally, .ref a_bracket_coefficients, .ref a_bracket_product, .int i_bracket_prepared]))] H := hP
  replace hD : va_D A [(a_this, .inr (6, [.ref a_text, .ref a_reader, .ref a_diagram, .ref a_draft, .ref a_shelf, .ref a_bracket, .ref a_colouring, .int (imin (i_savedStates + 1) 8), .int (irem (i_newestPlace + 1) 8)])), (a_diagram, .inr (2, [.int i_diagram_crossings, .int i_diagram_circles, .ref a_diagram_arcs])), (a_diagram_arcs, .inl (cyI, 32, .inl f_diagram_arcs)), (a_draft, .inr (2, [.int i_draft_crossings, .int i_draft_circles, .ref a_draft_arcs])), (a_draft_arcs, .inl (cyI, 32, .inl f_draft_arcs)), (a_shelf, .inr (4, [.ref a_shelf_cells, .ref a_shelf_filled])), (a_shelf_cells, .inl (cyI, 340, .inl o_cells_1)), (a_shelf_filled, .inl (cyZ, 10, .inl o_filled_1)), (a_bracket, .inr (0, [.ref a_bracket_otherEnds, .ref a_bracket_tally, .ref a_bracket_coefficients, .ref a_bracket_product, .int i_bracket_prepared]))] := hD
  refine lv_aload_n hx hb dX9_becomeDraft_43 rfl (lv_at hl 0 rfl) ?_
  refine va_get (D := D) (ci := 6) (v := .ref a_diagram) (C := RX9) (T := TX9) (N := 9) hx hb hts qX9_becomeDraft_X9 hown hK hP 0 rfl rfl 2 (Nat.le_of_ble_eq_true rfl) (hts (.fieldLink RX9 26 "KnotDiagram" "diagram" "LKnotDiagram$Diagram;") qX9_becomeDraft_2) (fun _ h9 => h9) rfl dX9_becomeDraft_44 ?_
  refine lv_aload_n hx hb dX9_becomeDraft_47 rfl (lv_at hl 0 rfl) ?_
  refine va_get (D := D) (ci := 6) (v := .ref a_draft) (C := RX9) (T := TX9) (N := 9) hx hb hts qX9_becomeDraft_X9 hown hK hP 0 rfl rfl 3 (Nat.le_of_ble_eq_true rfl) (hts (.fieldLink RX9 30 "KnotDiagram" "draft" "LKnotDiagram$Diagram;") qX9_becomeDraft_8) (fun _ h9 => h9) rfl dX9_becomeDraft_48 ?_
  obtain ⟨o_crossings_2, o_circles_2, o_arcs_2, hc_2, hf⟩ := bnd3_s hf
  refine kcVv (As := [.ref a_draft]) (rest := []) (w2 := [(a_this, .inr (6, [.ref a_text, .ref a_reader, .ref a_diagram, .ref a_draft, .ref a_shelf, .ref a_bracket, .ref a_colouring, .int (imin (i_savedStates + 1) 8), .int (irem (i_newestPlace + 1) 8)])), (a_diagram, .inr (2, [.int o_crossings_2, .int o_circles_2, .ref a_diagram_arcs])), (a_diagram_arcs, .inl (cyI, 32, .inl o_arcs_2)), (a_draft, .inr (2, [.int i_draft_crossings, .int i_draft_circles, .ref a_draft_arcs])), (a_draft_arcs, .inl (cyI, 32, .inl f_draft_arcs)), (a_shelf, .inr (4, [.ref a_shelf_cells, .ref a_shelf_filled])), (a_shelf_cells, .inl (cyI, 340, .inl o_cells_1)), (a_shelf_filled, .inl (cyZ, 10, .inl o_filled_1)), (a_bracket, .inr (0, [.ref a_bracket_otherEnds, .ref a_bracket_tally, .ref a_bracket_coefficients, .ref a_bracket_product, .int i_bracket_prepared]))]) S hK hP hD hS hA hN (mX2_copyFrom l D cyI cyZ H.size a_diagram a_draft a_diagram_arcs a_draft_arcs i_diagram_crossings i_diagram_circles f_diagram_arcs i_draft_crossings i_draft_circles f_draft_arcs o_crossings_2 o_circles_2 o_arcs_2 hc_2) (cwV 1 hts gX9_becomeDraft_X2_copyFrom rfl rfl rfl (by decide +kernel) ⟨Nat.le_of_ble_eq_true rfl, Nat.le_of_ble_eq_true rfl⟩) 2 1 rfl rfl [1, 2, 3, 4] [0, 5, 6, 7, 8] [0, 5, 6, 7, 8, 1, 2, 3, 4] rfl rfl rfl rfl (by decide) rfl rfl hl.1 (Nat.le_of_ble_eq_true rfl) dX9_becomeDraft_51 ⟨Nat.le_of_ble_eq_true rfl, Nat.le_of_ble_eq_true rfl⟩ (fun H locs hP hD hS => ?_)
  refine lv_aload_n hx hb dX9_becomeDraft_54 rfl (lv_at hl 0 rfl) ?_
  refine va_get (D := D) (ci := 6) (v := .ref a_bracket) (C := RX9) (T := TX9) (N := 9) hx hb hts qX9_becomeDraft_X9 hown hK hP 0 rfl rfl 5 (Nat.le_of_ble_eq_true rfl) (hts (.fieldLink RX9 43 "KnotDiagram" "bracket" "LKnotDiagram$Bracket;") qX9_becomeDraft_9) (fun _ h9 => h9) rfl dX9_becomeDraft_55 ?_
  obtain ⟨o_prepared_3, hc_3, hf⟩ := bnd1_s hf
  refine kcVv (As := []) (rest := []) (w2 := [(a_this, .inr (6, [.ref a_text, .ref a_reader, .ref a_diagram, .ref a_draft, .ref a_shelf, .ref a_bracket, .ref a_colouring, .int (imin (i_savedStates + 1) 8), .int (irem (i_newestPlace + 1) 8)])), (a_diagram, .inr (2, [.int o_crossings_2, .int o_circles_2, .ref a_diagram_arcs])), (a_diagram_arcs, .inl (cyI, 32, .inl o_arcs_2)), (a_draft, .inr (2, [.int i_draft_crossings, .int i_draft_circles, .ref a_draft_arcs])), (a_draft_arcs, .inl (cyI, 32, .inl f_draft_arcs)), (a_shelf, .inr (4, [.ref a_shelf_cells, .ref a_shelf_filled])), (a_shelf_cells, .inl (cyI, 340, .inl o_cells_1)), (a_shelf_filled, .inl (cyZ, 10, .inl o_filled_1)), (a_bracket, .inr (0, [.ref a_bracket_otherEnds, .ref a_bracket_tally, .ref a_bracket_coefficients, .ref a_bracket_product, .int o_prepared_3]))]) S hK hP hD hS hA hN (mX0_forget l D cyI cyZ H.size a_bracket a_bracket_otherEnds a_bracket_tally a_bracket_coefficients a_bracket_product i_bracket_prepared o_prepared_3 hc_3) (cwV 0 hts gX9_becomeDraft_X0_forget rfl rfl rfl (by decide +kernel) ⟨Nat.le_of_ble_eq_true rfl, Nat.le_of_ble_eq_true rfl⟩) 0 8 rfl rfl [8] [0, 1, 2, 3, 4, 5, 6, 7] [0, 1, 2, 3, 4, 5, 6, 7, 8] rfl rfl rfl rfl (by decide) rfl rfl hl.1 (Nat.le_of_ble_eq_true rfl) dX9_becomeDraft_58 ⟨Nat.le_of_ble_eq_true rfl, Nat.le_of_ble_eq_true rfl⟩ (fun H locs hP hD hS => ?_)
  obtain ⟨rfl, rfl, rfl, rfl, rfl, rfl, rfl, rfl⟩ := some8_s hf
  exact kRv hx hb hr hlocks hP hK hD hS dX9_becomeDraft_61
def kX9_load (i_savedStates : Int32) (i_newestPlace : Int32) (i_text_length : Int32) (f_text_characters : Nat → Int32) (i_reader_insideStatement : Int32) (i_reader_arcsDue : Int32) (i_diagram_crossings : Int32) (i_diagram_circles : Int32) (f_diagram_arcs : Nat → Int32) (i_draft_crossings : Int32) (i_draft_circles : Int32) (f_draft_arcs : Nat → Int32) (f_shelf_cells : Nat → Int32) (f_shelf_filled : Nat → Int32) (i_bracket_prepared : Int32) : Option (Int32 × Int32 × Int32 × Int32 × Int32 × Int32 × Int32 × Int32 × (Nat → Int32) × Int32 × Int32 × (Nat → Int32) × (Nat → Int32) × (Nat → Int32) × Int32) :=
  bnd6 (kX4_read i_reader_insideStatement i_reader_arcsDue i_text_length f_text_characters i_draft_crossings i_draft_circles f_draft_arcs) (fun r_1 o_insideStatement_1 o_arcsDue_1 o_p2_crossings_1 o_p2_circles_1 o_p2_arcs_1 => if r_1 < 0 then bnd8 (kX9_becomeDraft i_savedStates i_newestPlace i_diagram_crossings i_diagram_circles f_diagram_arcs o_p2_crossings_1 o_p2_circles_1 o_p2_arcs_1 f_shelf_cells f_shelf_filled i_bracket_prepared) (fun o_savedStates_2 o_newestPlace_2 o_diagram_crossings_2 o_diagram_circles_2 o_diagram_arcs_2 o_shelf_cells_2 o_shelf_filled_2 o_bracket_prepared_2 => some (o_diagram_crossings_2, o_savedStates_2, o_newestPlace_2, 0, o_insideStatement_1, o_arcsDue_1, o_diagram_crossings_2, o_diagram_circles_2, o_diagram_arcs_2, o_p2_crossings_1, o_p2_circles_1, o_p2_arcs_1, o_shelf_cells_2, o_shelf_filled_2, o_bracket_prepared_2)) else some (((-10) - r_1), i_savedStates, i_newestPlace, i_text_length, o_insideStatement_1, o_arcsDue_1, i_diagram_crossings, i_diagram_circles, f_diagram_arcs, o_p2_crossings_1, o_p2_circles_1, o_p2_arcs_1, f_shelf_cells, f_shelf_filled, i_bracket_prepared))
def rmX9_load : Room := { frames := 5, cells := 0, slots := 0, locals := 114 }
theorem qX9_load_0 : (.fieldLink RX9 19 "KnotDiagram" "reader" "LKnotDiagram$Reader;" : Cond) ∈ wsX9_load := by decide +kernel
theorem qX9_load_1 : (.fieldLink RX9 12 "KnotDiagram" "text" "LKnotDiagram$Text;" : Cond) ∈ wsX9_load := by decide +kernel
theorem qX9_load_2 : (.fieldLink RX9 30 "KnotDiagram" "draft" "LKnotDiagram$Diagram;" : Cond) ∈ wsX9_load := by decide +kernel
theorem qX9_load_3 : (.fieldLink RX9 59 "KnotDiagram$Text" "length" "I" : Cond) ∈ wsX9_load := by decide +kernel
theorem qX9_load_4 : (.fieldLink RX9 26 "KnotDiagram" "diagram" "LKnotDiagram$Diagram;" : Cond) ∈ wsX9_load := by decide +kernel
theorem qX9_load_5 : (.fieldLink RX9 74 "KnotDiagram$Diagram" "crossings" "I" : Cond) ∈ wsX9_load := by decide +kernel
theorem qX9_load_X9 : ∀ w ∈ wsX90, w ∈ wsX9_load := by decide +kernel
theorem qX9_load_X8 : ∀ w ∈ wsX80, w ∈ wsX9_load := by decide +kernel
theorem qX9_load_X2 : ∀ w ∈ wsX20, w ∈ wsX9_load := by decide +kernel
set_option maxHeartbeats 4000000 in
set_option maxRecDepth 100000 in
theorem mX9_load (l : Launch) (D : va_G) (cyI cyZ : ClassId) (sz : Nat) (a_this a_text a_reader a_diagram a_draft a_shelf a_bracket a_colouring a_text_characters a_diagram_arcs a_draft_arcs a_shelf_cells a_shelf_filled a_bracket_otherEnds a_bracket_tally a_bracket_coefficients a_bracket_product : Nat) (i_savedStates : Int32) (i_newestPlace : Int32) (i_text_length : Int32) (f_text_characters : Nat → Int32) (i_reader_insideStatement : Int32) (i_reader_arcsDue : Int32) (i_diagram_crossings : Int32) (i_diagram_circles : Int32) (f_diagram_arcs : Nat → Int32) (i_draft_crossings : Int32) (i_draft_circles : Int32) (f_draft_arcs : Nat → Int32) (f_shelf_cells : Nat → Int32) (f_shelf_filled : Nat → Int32) (i_bracket_prepared : Int32) (r : Int32) (o_savedStates : Int32) (o_newestPlace : Int32) (o_text_length : Int32) (o_reader_insideStatement : Int32) (o_reader_arcsDue : Int32) (o_diagram_crossings : Int32) (o_diagram_circles : Int32) (o_diagram_arcs : Nat → Int32) (o_draft_crossings : Int32) (o_draft_circles : Int32) (o_draft_arcs : Nat → Int32) (o_shelf_cells : Nat → Int32) (o_shelf_filled : Nat → Int32) (o_bracket_prepared : Int32) (hf : kX9_load i_savedStates i_newestPlace i_text_length f_text_characters i_reader_insideStatement i_reader_arcsDue i_diagram_crossings i_diagram_circles f_diagram_arcs i_draft_crossings i_draft_circles f_draft_arcs f_shelf_cells f_shelf_filled i_bracket_prepared = some (r, o_savedStates, o_newestPlace, o_text_length, o_reader_insideStatement, o_reader_arcsDue, o_diagram_crossings, o_diagram_circles, o_diagram_arcs, o_draft_crossings, o_draft_circles, o_draft_arcs, o_shelf_cells, o_shelf_filled, o_bracket_prepared)) : Met l yX9_load wsX9_load rmX9_load (kPre D cyI cyZ [.ref a_this] [(a_this, .inr (6, [.ref a_text, .ref a_reader, .ref a_diagram, .ref a_draft, .ref a_shelf, .ref a_bracket, .ref a_colouring, .int i_savedStates, .int i_newestPlace])), (a_text, .inr (5, [.ref a_text_characters, .int i_text_length])), (a_text_characters, .inl (cyI, 160, .inl f_text_characters)), (a_reader, .inr (3, [.int i_reader_insideStatement, .int i_reader_arcsDue])), (a_diagram, .inr (2, [.int i_diagram_crossings, .int i_diagram_circles, .ref a_diagram_arcs])), (a_diagram_arcs, .inl (cyI, 32, .inl f_diagram_arcs)), (a_draft, .inr (2, [.int i_draft_crossings, .int i_draft_circles, .ref a_draft_arcs])), (a_draft_arcs, .inl (cyI, 32, .inl f_draft_arcs)), (a_shelf, .inr (4, [.ref a_shelf_cells, .ref a_shelf_filled])), (a_shelf_cells, .inl (cyI, 340, .inl f_shelf_cells)), (a_shelf_filled, .inl (cyZ, 10, .inl f_shelf_filled)), (a_bracket, .inr (0, [.ref a_bracket_otherEnds, .ref a_bracket_tally, .ref a_bracket_coefficients, .ref a_bracket_product, .int i_bracket_prepared]))] sz) (kQi D cyI cyZ (va_A [(a_this, .inr (6, [.ref a_text, .ref a_reader, .ref a_diagram, .ref a_draft, .ref a_shelf, .ref a_bracket, .ref a_colouring, .int i_savedStates, .int i_newestPlace])), (a_text, .inr (5, [.ref a_text_characters, .int i_text_length])), (a_text_characters, .inl (cyI, 160, .inl f_text_characters)), (a_reader, .inr (3, [.int i_reader_insideStatement, .int i_reader_arcsDue])), (a_diagram, .inr (2, [.int i_diagram_crossings, .int i_diagram_circles, .ref a_diagram_arcs])), (a_diagram_arcs, .inl (cyI, 32, .inl f_diagram_arcs)), (a_draft, .inr (2, [.int i_draft_crossings, .int i_draft_circles, .ref a_draft_arcs])), (a_draft_arcs, .inl (cyI, 32, .inl f_draft_arcs)), (a_shelf, .inr (4, [.ref a_shelf_cells, .ref a_shelf_filled])), (a_shelf_cells, .inl (cyI, 340, .inl f_shelf_cells)), (a_shelf_filled, .inl (cyZ, 10, .inl f_shelf_filled)), (a_bracket, .inr (0, [.ref a_bracket_otherEnds, .ref a_bracket_tally, .ref a_bracket_coefficients, .ref a_bracket_product, .int i_bracket_prepared]))] sz) [(a_this, .inr (6, [.ref a_text, .ref a_reader, .ref a_diagram, .ref a_draft, .ref a_shelf, .ref a_bracket, .ref a_colouring, .int o_savedStates, .int o_newestPlace])), (a_text, .inr (5, [.ref a_text_characters, .int o_text_length])), (a_text_characters, .inl (cyI, 160, .inl f_text_characters)), (a_reader, .inr (3, [.int o_reader_insideStatement, .int o_reader_arcsDue])), (a_diagram, .inr (2, [.int o_diagram_crossings, .int o_diagram_circles, .ref a_diagram_arcs])), (a_diagram_arcs, .inl (cyI, 32, .inl o_diagram_arcs)), (a_draft, .inr (2, [.int o_draft_crossings, .int o_draft_circles, .ref a_draft_arcs])), (a_draft_arcs, .inl (cyI, 32, .inl o_draft_arcs)), (a_shelf, .inr (4, [.ref a_shelf_cells, .ref a_shelf_filled])), (a_shelf_cells, .inl (cyI, 340, .inl o_shelf_cells)), (a_shelf_filled, .inl (cyZ, 10, .inl o_shelf_filled)), (a_bracket, .inr (0, [.ref a_bracket_otherEnds, .ref a_bracket_tally, .ref a_bracket_coefficients, .ref a_bracket_product, .int o_bracket_prepared]))] r) 0 0 (va_A [(a_this, .inr (6, [.ref a_text, .ref a_reader, .ref a_diagram, .ref a_draft, .ref a_shelf, .ref a_bracket, .ref a_colouring, .int i_savedStates, .int i_newestPlace])), (a_text, .inr (5, [.ref a_text_characters, .int i_text_length])), (a_text_characters, .inl (cyI, 160, .inl f_text_characters)), (a_reader, .inr (3, [.int i_reader_insideStatement, .int i_reader_arcsDue])), (a_diagram, .inr (2, [.int i_diagram_crossings, .int i_diagram_circles, .ref a_diagram_arcs])), (a_diagram_arcs, .inl (cyI, 32, .inl f_diagram_arcs)), (a_draft, .inr (2, [.int i_draft_crossings, .int i_draft_circles, .ref a_draft_arcs])), (a_draft_arcs, .inl (cyI, 32, .inl f_draft_arcs)), (a_shelf, .inr (4, [.ref a_shelf_cells, .ref a_shelf_filled])), (a_shelf_cells, .inl (cyI, 340, .inl f_shelf_cells)), (a_shelf_filled, .inl (cyZ, 10, .inl f_shelf_filled)), (a_bracket, .inr (0, [.ref a_bracket_otherEnds, .ref a_bracket_tally, .ref a_bracket_coefficients, .ref a_bracket_product, .int i_bracket_prepared]))] sz) := by
  refine Met.ofW (cc := cX9_load) (maxL := 2) (ret := (some .int)) (by decide) rfl ?_
  intro p e s m args below meth c s₁ B hml hv
  obtain ⟨rfl, hsz, hP, hK, hD0, hN⟩ := hv
  have hx := B.exec
  have hb := B.bytes
  have hr := B.returns
  have hts := atoms_spec (ws := wsX9_load) B.pre
  have hown : s.vm.findClass RX9 = some m.cls := findClass_of_methodNamed B.named
  have hlocks := B.notSynchronized
  subst hsz
  have hD := hD0.self (sz := s.heap.size)
  generalize hAe : va_A [(a_this, .inr (6, [.ref a_text, .ref a_reader, .ref a_diagram, .ref a_draft, .ref a_shelf, .ref a_bracket, .ref a_colouring, .int i_savedStates, .int i_newestPlace])), (a_text, .inr (5, [.ref a_text_characters, .int i_text_length])), (a_text_characters, .inl (cyI, 160, .inl f_text_characters)), (a_reader, .inr (3, [.int i_reader_insideStatement, .int i_reader_arcsDue])), (a_diagram, .inr (2, [.int i_diagram_crossings, .int i_diagram_circles, .ref a_diagram_arcs])), (a_diagram_arcs, .inl (cyI, 32, .inl f_diagram_arcs)), (a_draft, .inr (2, [.int i_draft_crossings, .int i_draft_circles, .ref a_draft_arcs])), (a_draft_arcs, .inl (cyI, 32, .inl f_draft_arcs)), (a_shelf, .inr (4, [.ref a_shelf_cells, .ref a_shelf_filled])), (a_shelf_cells, .inl (cyI, 340, .inl f_shelf_cells)), (a_shelf_filled, .inl (cyZ, 10, .inl f_shelf_filled)), (a_bracket, .inr (0, [.ref a_bracket_otherEnds, .ref a_bracket_tally, .ref a_bracket_coefficients, .ref a_bracket_product, .int i_bracket_prepared]))] s.heap.size = A at hD ⊢
  have hA : ∀ q : Nat, s.heap.size ≤ q → A q := fun q h => by rw [← hAe]; exact Or.inr h
  clear hAe hD0
  have hS : va_S A s.heap s.heap [] := va_S.rf
  have S : CallFix p m c cX9_load 2 s (([.ref a_this] : List Value).toArray) wsX9_load RX9 := ⟨hx, hb, hml, hown, hts⟩
  have hl := lv_entry ([.ref a_this]) (n := 2) (Nat.le_of_ble_eq_true rfl)
  rw [lg_entry_eq]
  generalize (lg_sl ([.ref a_this]) ++ List.replicate (2 - (lg_sl ([.ref a_this])).length) Slot.unset).toArray = ls at hl ⊢
  replace hl : lv_has ls 2 [(0, .ref a_this)] := hl
  generalize ([] : List Loc) = locs at hS ⊢
  delta kX9_load at hf
  obtain ⟨H, hH⟩ : ∃ H, H = s.heap := ⟨_, rfl⟩
  have hS : va_S A s.heap H locs := by rw [hH]; exact hS
  have hP : va_P D vwCl [(a_this, .inr (6, [.ref a_text, .ref a_reader, .ref a_diagram, .ref a_draft, .ref a_shelf, .ref a_bracket, .ref a_colouring, .int i_savedStates, .int i_newestPlace])), (a_text, .inr (5, [.ref a_text_characters, .int i_text_length])), (a_text_characters, .inl (cyI, 160, .inl f_text_characters)), (a_reader, .inr (3, [.int i_reader_insideStatement, .int i_reader_arcsDue])), (a_diagram, .inr (2, [.int i_diagram_crossings, .int i_diagram_circles, .ref a_diagram_arcs])), (a_diagram_arcs, .inl (cyI, 32, .inl f_diagram_arcs)), (a_draft, .inr (2, [.int i_draft_crossings, .int i_draft_circles, .ref a_draft_arcs])), (a_draft_arcs, .inl (cyI, 32, .inl f_draft_arcs)), (a_shelf, .inr (4, [.ref a_shelf_cells, .ref a_shelf_filled])), (a_shelf_cells, .inl (cyI, 340, .inl f_shelf_cells)), (a_shelf_filled, .inl (cyZ, 10, .inl f_shelf_filled)), (a_bracket, .inr (0, [.ref a_bracket_otherEnds, .ref a_bracket_tally, .ref a_bracket_coefficients, .ref a_bracket_product, .int i_bracket_prepared]))] H := by rw [hH]; exact hP
  suffices hgo : W p l e (headSpec wsX9_load rmX9_load).room s m (([.ref a_this] : List Value).toArray) below meth c H locs 0 0 (MQ below (kQi D cyI cyZ A [(a_this, .inr (6, [.ref a_text, .ref a_reader, .ref a_diagram, .ref a_draft, .ref a_shelf, .ref a_bracket, .ref a_colouring, .int o_savedStates, .int o_newestPlace])), (a_text, .inr (5, [.ref a_text_characters, .int o_text_length])), (a_text_characters, .inl (cyI, 160, .inl f_text_characters)), (a_reader, .inr (3, [.int o_reader_insideStatement, .int o_reader_arcsDue])), (a_diagram, .inr (2, [.int o_diagram_crossings, .int o_diagram_circles, .ref a_diagram_arcs])), (a_diagram_arcs, .inl (cyI, 32, .inl o_diagram_arcs)), (a_draft, .inr (2, [.int o_draft_crossings, .int o_draft_circles, .ref a_draft_arcs])), (a_draft_arcs, .inl (cyI, 32, .inl o_draft_arcs)), (a_shelf, .inr (4, [.ref a_shelf_cells, .ref a_shelf_filled])), (a_shelf_cells, .inl (cyI, 340, .inl o_shelf_cells)), (a_shelf_filled, .inl (cyZ, 10, .inl o_shelf_filled)), (a_bracket, .inr (0, [.ref a_bracket_otherEnds, .ref a_bracket_tally, .ref a_bracket_coefficients, .ref a_bracket_product, .int o_bracket_prepared]))] r) (([.ref a_this] : List Value).toArray) s 0 0 A) (F0 m 0 ls []) by rw [hH] at hgo; exact hgo
  clear hH
  refine lv_aload_n hx hb dX9_load_0 rfl (lv_at hl 0 rfl) ?_
  refine va_get (D := D) (ci := 6) (v := .ref a_reader) (C := RX9) (T := TX9) (N := 9) hx hb hts qX9_load_X9 hown hK hP 0 rfl rfl 1 (Nat.le_of_ble_eq_true rfl) (hts (.fieldLink RX9 19 "KnotDiagram" "reader" "LKnotDiagram$Reader;") qX9_load_0) (fun _ h9 => h9) rfl dX9_load_1 ?_
  refine lv_aload_n hx hb dX9_load_4 rfl (lv_at hl 0 rfl) ?_
  refine va_get (D := D) (ci := 6) (v := .ref a_text) (C := RX9) (T := TX9) (N := 9) hx hb hts qX9_load_X9 hown hK hP 0 rfl rfl 0 (Nat.le_of_ble_eq_true rfl) (hts (.fieldLink RX9 12 "KnotDiagram" "text" "LKnotDiagram$Text;") qX9_load_1) (fun _ h9 => h9) rfl dX9_load_5 ?_
  refine lv_aload_n hx hb dX9_load_8 rfl (lv_at hl 0 rfl) ?_
  refine va_get (D := D) (ci := 6) (v := .ref a_draft) (C := RX9) (T := TX9) (N := 9) hx hb hts qX9_load_X9 hown hK hP 0 rfl rfl 3 (Nat.le_of_ble_eq_true rfl) (hts (.fieldLink RX9 30 "KnotDiagram" "draft" "LKnotDiagram$Diagram;") qX9_load_2) (fun _ h9 => h9) rfl dX9_load_9 ?_
  obtain ⟨r_1, o_insideStatement_1, o_arcsDue_1, o_p2_crossings_1, o_p2_circles_1, o_p2_arcs_1, hc_1, hf⟩ := bnd6_s hf
  refine kcVi (As := [.ref a_text, .ref a_draft]) (rest := []) (w2 := [(a_this, .inr (6, [.ref a_text, .ref a_reader, .ref a_diagram, .ref a_draft, .ref a_shelf, .ref a_bracket, .ref a_colouring, .int i_savedStates, .int i_newestPlace])), (a_text, .inr (5, [.ref a_text_characters, .int i_text_length])), (a_text_characters, .inl (cyI, 160, .inl f_text_characters)), (a_reader, .inr (3, [.int o_insideStatement_1, .int o_arcsDue_1])), (a_diagram, .inr (2, [.int i_diagram_crossings, .int i_diagram_circles, .ref a_diagram_arcs])), (a_diagram_arcs, .inl (cyI, 32, .inl f_diagram_arcs)), (a_draft, .inr (2, [.int o_p2_crossings_1, .int o_p2_circles_1, .ref a_draft_arcs])), (a_draft_arcs, .inl (cyI, 32, .inl o_p2_arcs_1)), (a_shelf, .inr (4, [.ref a_shelf_cells, .ref a_shelf_filled])), (a_shelf_cells, .inl (cyI, 340, .inl f_shelf_cells)), (a_shelf_filled, .inl (cyZ, 10, .inl f_shelf_filled)), (a_bracket, .inr (0, [.ref a_bracket_otherEnds, .ref a_bracket_tally, .ref a_bracket_coefficients, .ref a_bracket_product, .int i_bracket_prepared]))]) S hK hP hD hS hA hN (mX4_read l D cyI cyZ H.size a_reader a_text a_draft a_text_characters a_draft_arcs i_reader_insideStatement i_reader_arcsDue i_text_length f_text_characters i_draft_crossings i_draft_circles f_draft_arcs r_1 o_insideStatement_1 o_arcsDue_1 o_p2_crossings_1 o_p2_circles_1 o_p2_arcs_1 hc_1) (cwV 2 hts gX9_load_X4_read rfl rfl rfl (by decide +kernel) ⟨Nat.le_of_ble_eq_true rfl, Nat.le_of_ble_eq_true rfl⟩) 3 3 rfl rfl [3, 1, 2, 6, 7] [0, 4, 5, 8, 9, 10, 11] [0, 8, 9, 7, 1, 2, 10, 11, 3, 4, 5, 6] rfl rfl rfl rfl (by decide) rfl rfl hl.1 (Nat.le_of_ble_eq_true rfl) dX9_load_12 ⟨Nat.le_of_ble_eq_true rfl, Nat.le_of_ble_eq_true rfl⟩ (fun H locs hP hD hS => ?_)
  refine lv_istore_n (lv' := [(1, .int r_1), (0, .ref a_this)]) hx hb dX9_load_15 rfl hl (by decide) rfl (fun ls hl => ?_)
  refine lv_iload_n hx hb dX9_load_16 rfl (lv_at hl 0 rfl) ?_
  refine lv_if_lt (tgt := 25) hx hb dX9_load_17 (by decide) (fun c_3 => ?_) (fun c_3 => ?_)
  · replace hf := kt_p hf c_3
    refine lv_aload_n hx hb dX9_load_25 rfl (lv_at hl 1 rfl) ?_
    obtain ⟨o_savedStates_2, o_newestPlace_2, o_diagram_crossings_2, o_diagram_circles_2, o_diagram_arcs_2, o_shelf_cells_2, o_shelf_filled_2, o_bracket_prepared_2, hc_2, hf⟩ := bnd8_s hf
    refine kcVv (As := []) (rest := []) (w2 := [(a_this, .inr (6, [.ref a_text, .ref a_reader, .ref a_diagram, .ref a_draft, .ref a_shelf, .ref a_bracket, .ref a_colouring, .int o_savedStates_2, .int o_newestPlace_2])), (a_text, .inr (5, [.ref a_text_characters, .int i_text_length])), (a_text_characters, .inl (cyI, 160, .inl f_text_characters)), (a_reader, .inr (3, [.int o_insideStatement_1, .int o_arcsDue_1])), (a_diagram, .inr (2, [.int o_diagram_crossings_2, .int o_diagram_circles_2, .ref a_diagram_arcs])), (a_diagram_arcs, .inl (cyI, 32, .inl o_diagram_arcs_2)), (a_draft, .inr (2, [.int o_p2_crossings_1, .int o_p2_circles_1, .ref a_draft_arcs])), (a_draft_arcs, .inl (cyI, 32, .inl o_p2_arcs_1)), (a_shelf, .inr (4, [.ref a_shelf_cells, .ref a_shelf_filled])), (a_shelf_cells, .inl (cyI, 340, .inl o_shelf_cells_2)), (a_shelf_filled, .inl (cyZ, 10, .inl o_shelf_filled_2)), (a_bracket, .inr (0, [.ref a_bracket_otherEnds, .ref a_bracket_tally, .ref a_bracket_coefficients, .ref a_bracket_product, .int o_bracket_prepared_2]))]) S hK hP hD hS hA hN (mX9_becomeDraft l D cyI cyZ H.size a_this a_text a_reader a_diagram a_draft a_shelf a_bracket a_colouring a_diagram_arcs a_draft_arcs a_shelf_cells a_shelf_filled a_bracket_otherEnds a_bracket_tally a_bracket_coefficients a_bracket_product i_savedStates i_newestPlace i_diagram_crossings i_diagram_circles f_diagram_arcs o_p2_crossings_1 o_p2_circles_1 o_p2_arcs_1 f_shelf_cells f_shelf_filled i_bracket_prepared o_savedStates_2 o_newestPlace_2 o_diagram_crossings_2 o_diagram_circles_2 o_diagram_arcs_2 o_shelf_cells_2 o_shelf_filled_2 o_bracket_prepared_2 hc_2) (cwV 0 hts gX9_load_X9_becomeDraft rfl rfl rfl (by decide +kernel) ⟨Nat.le_of_ble_eq_true rfl, Nat.le_of_ble_eq_true rfl⟩) 6 0 rfl rfl [0, 4, 5, 6, 7, 8, 9, 10, 11] [1, 2, 3] [3, 0, 1, 2, 4, 5, 6, 7, 8, 9, 10, 11] rfl rfl rfl rfl (by decide) rfl rfl hl.1 (Nat.le_of_ble_eq_true rfl) dX9_load_26 ⟨Nat.le_of_ble_eq_true rfl, Nat.le_of_ble_eq_true rfl⟩ (fun H locs hP hD hS => ?_)
    refine lv_aload_n hx hb dX9_load_29 rfl (lv_at hl 1 rfl) ?_
    refine va_get (D := D) (ci := 6) (v := .ref a_text) (C := RX9) (T := TX9) (N := 9) hx hb hts qX9_load_X9 hown hK hP 0 rfl rfl 0 (Nat.le_of_ble_eq_true rfl) (hts (.fieldLink RX9 12 "KnotDiagram" "text" "LKnotDiagram$Text;") qX9_load_1) (fun _ h9 => h9) rfl dX9_load_30 ?_
    refine lv_iconst (v := 0) hx hb dX9_load_33 (by decide) ?_
    refine va_put (D := D) (ci := 5) (v := .int 0) (ty := .int) (C := RX8) (T := TX8) (N := 2) hx hb hts qX9_load_X8 tyX8 tyX8_ok nmX8 hown hK hP hD hS 1 rfl rfl 1 (Nat.le_of_ble_eq_true rfl) (hts (.fieldLink RX9 59 "KnotDiagram$Text" "length" "I") qX9_load_3) (fun _ h9 => h9) rfl (by decide +kernel) rfl rfl (Nat.le_of_ble_eq_true rfl) dX9_load_34 (fun H locs hP hD hS => ?_)
    replace hP : va_P D vwCl [(a_this, .inr (6, [.ref a_text, .ref a_reader, .ref a_diagram, .ref a_draft, .ref a_shelf, .ref a_bracket, .ref a_colouring, .int o_savedStates_2, .int o_newestPlace_2])), (a_text, .inr (5, [.ref a_text_characters, .int 0])), (a_text_characters, .inl (cyI, 160, .inl f_text_characters)), (a_reader, .inr (3, [.int o_insideStatement_1, .int o_arcsDue_1])), (a_diagram, .inr (2, [.int o_diagram_crossings_2, .int o_diagram_circles_2, .ref a_diagram_arcs])), (a_diagram_arcs, .inl (cyI, 32, .inl o_diagram_arcs_2)), (a_draft, .inr (2, [.int o_p2_crossings_1, .int o_p2_circles_1, .ref a_draft_arcs])), (a_draft_arcs, .inl (cyI, 32, .inl o_p2_arcs_1)), (a_shelf, .inr (4, [.ref a_shelf_cells, .ref a_shelf_filled])), (a_shelf_cells, .inl (cyI, 340, .inl o_shelf_cells_2)), (a_shelf_filled, .inl (cyZ, 10, .inl o_shelf_filled_2)), (a_bracket, .inr (0, [.ref a_bracket_otherEnds, .ref a_bracket_tally, .ref a_bracket_coefficients, .ref a_bracket_product, .int o_bracket_prepared_2]))] H := hP
    replace hD : va_D A [(a_this, .inr (6, [.ref a_text, .ref a_reader, .ref a_diagram, .ref a_draft, .ref a_shelf, .ref a_bracket, .ref a_colouring, .int o_savedStates_2, .int o_newestPlace_2])), (a_text, .inr (5, [.ref a_text_characters, .int 0])), (a_text_characters, .inl (cyI, 160, .inl f_text_characters)), (a_reader, .inr (3, [.int o_insideStatement_1, .int o_arcsDue_1])), (a_diagram, .inr (2, [.int o_diagram_crossings_2, .int o_diagram_circles_2, .ref a_diagram_arcs])), (a_diagram_arcs, .inl (cyI, 32, .inl o_diagram_arcs_2)), (a_draft, .inr (2, [.int o_p2_crossings_1, .int o_p2_circles_1, .ref a_draft_arcs])), (a_draft_arcs, .inl (cyI, 32, .inl o_p2_arcs_1)), (a_shelf, .inr (4, [.ref a_shelf_cells, .ref a_shelf_filled])), (a_shelf_cells, .inl (cyI, 340, .inl o_shelf_cells_2)), (a_shelf_filled, .inl (cyZ, 10, .inl o_shelf_filled_2)), (a_bracket, .inr (0, [.ref a_bracket_otherEnds, .ref a_bracket_tally, .ref a_bracket_coefficients, .ref a_bracket_product, .int o_bracket_prepared_2]))] := hD
    refine lv_aload_n hx hb dX9_load_37 rfl (lv_at hl 1 rfl) ?_
    refine va_get (D := D) (ci := 6) (v := .ref a_diagram) (C := RX9) (T := TX9) (N := 9) hx hb hts qX9_load_X9 hown hK hP 0 rfl rfl 2 (Nat.le_of_ble_eq_true rfl) (hts (.fieldLink RX9 26 "KnotDiagram" "diagram" "LKnotDiagram$Diagram;") qX9_load_4) (fun _ h9 => h9) rfl dX9_load_38 ?_
    refine va_get (D := D) (ci := 2) (v := .int o_diagram_crossings_2) (C := RX2) (T := TX2) (N := 3) hx hb hts qX9_load_X2 hown hK hP 4 rfl rfl 0 (Nat.le_of_ble_eq_true rfl) (hts (.fieldLink RX9 74 "KnotDiagram$Diagram" "crossings" "I") qX9_load_5) (fun _ h9 => h9) rfl dX9_load_41 ?_
    obtain ⟨rfl, rfl, rfl, rfl, rfl, rfl, rfl, rfl, rfl, rfl, rfl, rfl, rfl, rfl, rfl⟩ := some15_s hf
    exact kRi hx hb hr hlocks hP hK hD hS rfl dX9_load_44
  · replace hf := kt_n hf c_3
    refine lv_bipush (v := (-10)) hx hb dX9_load_20 (by decide) ?_
    refine lv_iload_n hx hb dX9_load_22 rfl (lv_at hl 0 rfl) ?_
    refine lv_isub hx hb dX9_load_23 ?_
    obtain ⟨rfl, rfl, rfl, rfl, rfl, rfl, rfl, rfl, rfl, rfl, rfl, rfl, rfl, rfl, rfl⟩ := some15_s hf
    exact kRi hx hb hr hlocks hP hK hD hS rfl dX9_load_24
def kX9_crossingCount (i_diagram_crossings : Int32) : Option (Int32) :=
  some i_diagram_crossings
def rmX9_crossingCount : Room := { frames := 0, cells := 0, slots := 0, locals := 0 }
theorem qX9_crossingCount_0 : (.fieldLink RX9 26 "KnotDiagram" "diagram" "LKnotDiagram$Diagram;" : Cond) ∈ wsX9_crossingCount := by decide +kernel
theorem qX9_crossingCount_1 : (.fieldLink RX9 74 "KnotDiagram$Diagram" "crossings" "I" : Cond) ∈ wsX9_crossingCount := by decide +kernel
theorem qX9_crossingCount_X9 : ∀ w ∈ wsX90, w ∈ wsX9_crossingCount := by decide +kernel
theorem qX9_crossingCount_X2 : ∀ w ∈ wsX20, w ∈ wsX9_crossingCount := by decide +kernel
set_option maxHeartbeats 4000000 in
set_option maxRecDepth 100000 in
theorem mX9_crossingCount (l : Launch) (D : va_G) (cyI cyZ : ClassId) (sz : Nat) (a_this a_text a_reader a_diagram a_draft a_shelf a_bracket a_colouring a_diagram_arcs : Nat) (i_savedStates : Int32) (i_newestPlace : Int32) (i_diagram_crossings : Int32) (i_diagram_circles : Int32) (r : Int32) (hf : kX9_crossingCount i_diagram_crossings = some r) : Met l yX9_crossingCount wsX9_crossingCount rmX9_crossingCount (kPre D cyI cyZ [.ref a_this] [(a_this, .inr (6, [.ref a_text, .ref a_reader, .ref a_diagram, .ref a_draft, .ref a_shelf, .ref a_bracket, .ref a_colouring, .int i_savedStates, .int i_newestPlace])), (a_diagram, .inr (2, [.int i_diagram_crossings, .int i_diagram_circles, .ref a_diagram_arcs]))] sz) (kQi D cyI cyZ (va_A [(a_this, .inr (6, [.ref a_text, .ref a_reader, .ref a_diagram, .ref a_draft, .ref a_shelf, .ref a_bracket, .ref a_colouring, .int i_savedStates, .int i_newestPlace])), (a_diagram, .inr (2, [.int i_diagram_crossings, .int i_diagram_circles, .ref a_diagram_arcs]))] sz) [(a_this, .inr (6, [.ref a_text, .ref a_reader, .ref a_diagram, .ref a_draft, .ref a_shelf, .ref a_bracket, .ref a_colouring, .int i_savedStates, .int i_newestPlace])), (a_diagram, .inr (2, [.int i_diagram_crossings, .int i_diagram_circles, .ref a_diagram_arcs]))] r) 0 0 (va_A [(a_this, .inr (6, [.ref a_text, .ref a_reader, .ref a_diagram, .ref a_draft, .ref a_shelf, .ref a_bracket, .ref a_colouring, .int i_savedStates, .int i_newestPlace])), (a_diagram, .inr (2, [.int i_diagram_crossings, .int i_diagram_circles, .ref a_diagram_arcs]))] sz) := by
  refine Met.ofW (cc := cX9_crossingCount) (maxL := 1) (ret := (some .int)) (by decide) rfl ?_
  intro p e s m args below meth c s₁ B hml hv
  obtain ⟨rfl, hsz, hP, hK, hD0, hN⟩ := hv
  have hx := B.exec
  have hb := B.bytes
  have hr := B.returns
  have hts := atoms_spec (ws := wsX9_crossingCount) B.pre
  have hown : s.vm.findClass RX9 = some m.cls := findClass_of_methodNamed B.named
  have hlocks := B.notSynchronized
  subst hsz
  have hD := hD0.self (sz := s.heap.size)
  generalize hAe : va_A [(a_this, .inr (6, [.ref a_text, .ref a_reader, .ref a_diagram, .ref a_draft, .ref a_shelf, .ref a_bracket, .ref a_colouring, .int i_savedStates, .int i_newestPlace])), (a_diagram, .inr (2, [.int i_diagram_crossings, .int i_diagram_circles, .ref a_diagram_arcs]))] s.heap.size = A at hD ⊢
  have hA : ∀ q : Nat, s.heap.size ≤ q → A q := fun q h => by rw [← hAe]; exact Or.inr h
  clear hAe hD0
  have hS : va_S A s.heap s.heap [] := va_S.rf
  have S : CallFix p m c cX9_crossingCount 1 s (([.ref a_this] : List Value).toArray) wsX9_crossingCount RX9 := ⟨hx, hb, hml, hown, hts⟩
  have hl := lv_entry ([.ref a_this]) (n := 1) (Nat.le_of_ble_eq_true rfl)
  rw [lg_entry_eq]
  generalize (lg_sl ([.ref a_this]) ++ List.replicate (1 - (lg_sl ([.ref a_this])).length) Slot.unset).toArray = ls at hl ⊢
  replace hl : lv_has ls 1 [(0, .ref a_this)] := hl
  generalize ([] : List Loc) = locs at hS ⊢
  delta kX9_crossingCount at hf
  obtain ⟨H, hH⟩ : ∃ H, H = s.heap := ⟨_, rfl⟩
  have hS : va_S A s.heap H locs := by rw [hH]; exact hS
  have hP : va_P D vwCl [(a_this, .inr (6, [.ref a_text, .ref a_reader, .ref a_diagram, .ref a_draft, .ref a_shelf, .ref a_bracket, .ref a_colouring, .int i_savedStates, .int i_newestPlace])), (a_diagram, .inr (2, [.int i_diagram_crossings, .int i_diagram_circles, .ref a_diagram_arcs]))] H := by rw [hH]; exact hP
  suffices hgo : W p l e (headSpec wsX9_crossingCount rmX9_crossingCount).room s m (([.ref a_this] : List Value).toArray) below meth c H locs 0 0 (MQ below (kQi D cyI cyZ A [(a_this, .inr (6, [.ref a_text, .ref a_reader, .ref a_diagram, .ref a_draft, .ref a_shelf, .ref a_bracket, .ref a_colouring, .int i_savedStates, .int i_newestPlace])), (a_diagram, .inr (2, [.int i_diagram_crossings, .int i_diagram_circles, .ref a_diagram_arcs]))] r) (([.ref a_this] : List Value).toArray) s 0 0 A) (F0 m 0 ls []) by rw [hH] at hgo; exact hgo
  clear hH
  refine lv_aload_n hx hb dX9_crossingCount_0 rfl (lv_at hl 0 rfl) ?_
  refine va_get (D := D) (ci := 6) (v := .ref a_diagram) (C := RX9) (T := TX9) (N := 9) hx hb hts qX9_crossingCount_X9 hown hK hP 0 rfl rfl 2 (Nat.le_of_ble_eq_true rfl) (hts (.fieldLink RX9 26 "KnotDiagram" "diagram" "LKnotDiagram$Diagram;") qX9_crossingCount_0) (fun _ h9 => h9) rfl dX9_crossingCount_1 ?_
  refine va_get (D := D) (ci := 2) (v := .int i_diagram_crossings) (C := RX2) (T := TX2) (N := 3) hx hb hts qX9_crossingCount_X2 hown hK hP 1 rfl rfl 0 (Nat.le_of_ble_eq_true rfl) (hts (.fieldLink RX9 74 "KnotDiagram$Diagram" "crossings" "I") qX9_crossingCount_1) (fun _ h9 => h9) rfl dX9_crossingCount_4 ?_
  obtain rfl := some1_s hf
  exact kRi hx hb hr hlocks hP hK hD hS rfl dX9_crossingCount_7
def kX9_circleCount (i_diagram_circles : Int32) : Option (Int32) :=
  some i_diagram_circles
def rmX9_circleCount : Room := { frames := 0, cells := 0, slots := 0, locals := 0 }
theorem qX9_circleCount_0 : (.fieldLink RX9 26 "KnotDiagram" "diagram" "LKnotDiagram$Diagram;" : Cond) ∈ wsX9_circleCount := by decide +kernel
theorem qX9_circleCount_1 : (.fieldLink RX9 54 "KnotDiagram$Diagram" "circles" "I" : Cond) ∈ wsX9_circleCount := by decide +kernel
theorem qX9_circleCount_X9 : ∀ w ∈ wsX90, w ∈ wsX9_circleCount := by decide +kernel
theorem qX9_circleCount_X2 : ∀ w ∈ wsX20, w ∈ wsX9_circleCount := by decide +kernel
set_option maxHeartbeats 4000000 in
set_option maxRecDepth 100000 in
theorem mX9_circleCount (l : Launch) (D : va_G) (cyI cyZ : ClassId) (sz : Nat) (a_this a_text a_reader a_diagram a_draft a_shelf a_bracket a_colouring a_diagram_arcs : Nat) (i_savedStates : Int32) (i_newestPlace : Int32) (i_diagram_crossings : Int32) (i_diagram_circles : Int32) (r : Int32) (hf : kX9_circleCount i_diagram_circles = some r) : Met l yX9_circleCount wsX9_circleCount rmX9_circleCount (kPre D cyI cyZ [.ref a_this] [(a_this, .inr (6, [.ref a_text, .ref a_reader, .ref a_diagram, .ref a_draft, .ref a_shelf, .ref a_bracket, .ref a_colouring, .int i_savedStates, .int i_newestPlace])), (a_diagram, .inr (2, [.int i_diagram_crossings, .int i_diagram_circles, .ref a_diagram_arcs]))] sz) (kQi D cyI cyZ (va_A [(a_this, .inr (6, [.ref a_text, .ref a_reader, .ref a_diagram, .ref a_draft, .ref a_shelf, .ref a_bracket, .ref a_colouring, .int i_savedStates, .int i_newestPlace])), (a_diagram, .inr (2, [.int i_diagram_crossings, .int i_diagram_circles, .ref a_diagram_arcs]))] sz) [(a_this, .inr (6, [.ref a_text, .ref a_reader, .ref a_diagram, .ref a_draft, .ref a_shelf, .ref a_bracket, .ref a_colouring, .int i_savedStates, .int i_newestPlace])), (a_diagram, .inr (2, [.int i_diagram_crossings, .int i_diagram_circles, .ref a_diagram_arcs]))] r) 0 0 (va_A [(a_this, .inr (6, [.ref a_text, .ref a_reader, .ref a_diagram, .ref a_draft, .ref a_shelf, .ref a_bracket, .ref a_colouring, .int i_savedStates, .int i_newestPlace])), (a_diagram, .inr (2, [.int i_diagram_crossings, .int i_diagram_circles, .ref a_diagram_arcs]))] sz) := by
  refine Met.ofW (cc := cX9_circleCount) (maxL := 1) (ret := (some .int)) (by decide) rfl ?_
  intro p e s m args below meth c s₁ B hml hv
  obtain ⟨rfl, hsz, hP, hK, hD0, hN⟩ := hv
  have hx := B.exec
  have hb := B.bytes
  have hr := B.returns
  have hts := atoms_spec (ws := wsX9_circleCount) B.pre
  have hown : s.vm.findClass RX9 = some m.cls := findClass_of_methodNamed B.named
  have hlocks := B.notSynchronized
  subst hsz
  have hD := hD0.self (sz := s.heap.size)
  generalize hAe : va_A [(a_this, .inr (6, [.ref a_text, .ref a_reader, .ref a_diagram, .ref a_draft, .ref a_shelf, .ref a_bracket, .ref a_colouring, .int i_savedStates, .int i_newestPlace])), (a_diagram, .inr (2, [.int i_diagram_crossings, .int i_diagram_circles, .ref a_diagram_arcs]))] s.heap.size = A at hD ⊢
  have hA : ∀ q : Nat, s.heap.size ≤ q → A q := fun q h => by rw [← hAe]; exact Or.inr h
  clear hAe hD0
  have hS : va_S A s.heap s.heap [] := va_S.rf
  have S : CallFix p m c cX9_circleCount 1 s (([.ref a_this] : List Value).toArray) wsX9_circleCount RX9 := ⟨hx, hb, hml, hown, hts⟩
  have hl := lv_entry ([.ref a_this]) (n := 1) (Nat.le_of_ble_eq_true rfl)
  rw [lg_entry_eq]
  generalize (lg_sl ([.ref a_this]) ++ List.replicate (1 - (lg_sl ([.ref a_this])).length) Slot.unset).toArray = ls at hl ⊢
  replace hl : lv_has ls 1 [(0, .ref a_this)] := hl
  generalize ([] : List Loc) = locs at hS ⊢
  delta kX9_circleCount at hf
  obtain ⟨H, hH⟩ : ∃ H, H = s.heap := ⟨_, rfl⟩
  have hS : va_S A s.heap H locs := by rw [hH]; exact hS
  have hP : va_P D vwCl [(a_this, .inr (6, [.ref a_text, .ref a_reader, .ref a_diagram, .ref a_draft, .ref a_shelf, .ref a_bracket, .ref a_colouring, .int i_savedStates, .int i_newestPlace])), (a_diagram, .inr (2, [.int i_diagram_crossings, .int i_diagram_circles, .ref a_diagram_arcs]))] H := by rw [hH]; exact hP
  suffices hgo : W p l e (headSpec wsX9_circleCount rmX9_circleCount).room s m (([.ref a_this] : List Value).toArray) below meth c H locs 0 0 (MQ below (kQi D cyI cyZ A [(a_this, .inr (6, [.ref a_text, .ref a_reader, .ref a_diagram, .ref a_draft, .ref a_shelf, .ref a_bracket, .ref a_colouring, .int i_savedStates, .int i_newestPlace])), (a_diagram, .inr (2, [.int i_diagram_crossings, .int i_diagram_circles, .ref a_diagram_arcs]))] r) (([.ref a_this] : List Value).toArray) s 0 0 A) (F0 m 0 ls []) by rw [hH] at hgo; exact hgo
  clear hH
  refine lv_aload_n hx hb dX9_circleCount_0 rfl (lv_at hl 0 rfl) ?_
  refine va_get (D := D) (ci := 6) (v := .ref a_diagram) (C := RX9) (T := TX9) (N := 9) hx hb hts qX9_circleCount_X9 hown hK hP 0 rfl rfl 2 (Nat.le_of_ble_eq_true rfl) (hts (.fieldLink RX9 26 "KnotDiagram" "diagram" "LKnotDiagram$Diagram;") qX9_circleCount_0) (fun _ h9 => h9) rfl dX9_circleCount_1 ?_
  refine va_get (D := D) (ci := 2) (v := .int i_diagram_circles) (C := RX2) (T := TX2) (N := 3) hx hb hts qX9_circleCount_X2 hown hK hP 1 rfl rfl 1 (Nat.le_of_ble_eq_true rfl) (hts (.fieldLink RX9 54 "KnotDiagram$Diagram" "circles" "I") qX9_circleCount_1) (fun _ h9 => h9) rfl dX9_circleCount_4 ?_
  obtain rfl := some1_s hf
  exact kRi hx hb hr hlocks hP hK hD hS rfl dX9_circleCount_7
def kX9_arcAt (v1 : Int32) (v2 : Int32) (i_diagram_crossings : Int32) (f_diagram_arcs : Nat → Int32) : Option (Int32) :=
  bnd1 (kX2_hasCrossing v1 i_diagram_crossings) (fun r_1 => if r_1 = 0 then some (-1000001) else if v2 < 0 then some (-1000001) else if v2 ≤ 3 then bnd1 (kX2_arc ((4 * v1) + v2) f_diagram_arcs) (fun r_2 => some r_2) else some (-1000001))
def rmX9_arcAt : Room := { frames := 1, cells := 0, slots := 0, locals := 21 }
theorem qX9_arcAt_0 : (.fieldLink RX9 26 "KnotDiagram" "diagram" "LKnotDiagram$Diagram;" : Cond) ∈ wsX9_arcAt := by decide +kernel
theorem qX9_arcAt_1 : (.constant RX9 58 (-1000001) : Cond) ∈ wsX9_arcAt := by decide +kernel
theorem qX9_arcAt_X9 : ∀ w ∈ wsX90, w ∈ wsX9_arcAt := by decide +kernel
set_option maxHeartbeats 4000000 in
set_option maxRecDepth 100000 in
theorem mX9_arcAt (l : Launch) (D : va_G) (cyI cyZ : ClassId) (sz : Nat) (a_this a_text a_reader a_diagram a_draft a_shelf a_bracket a_colouring a_diagram_arcs : Nat) (v1 : Int32) (v2 : Int32) (i_savedStates : Int32) (i_newestPlace : Int32) (i_diagram_crossings : Int32) (i_diagram_circles : Int32) (f_diagram_arcs : Nat → Int32) (r : Int32) (hf : kX9_arcAt v1 v2 i_diagram_crossings f_diagram_arcs = some r) : Met l yX9_arcAt wsX9_arcAt rmX9_arcAt (kPre D cyI cyZ [.ref a_this, .int v1, .int v2] [(a_this, .inr (6, [.ref a_text, .ref a_reader, .ref a_diagram, .ref a_draft, .ref a_shelf, .ref a_bracket, .ref a_colouring, .int i_savedStates, .int i_newestPlace])), (a_diagram, .inr (2, [.int i_diagram_crossings, .int i_diagram_circles, .ref a_diagram_arcs])), (a_diagram_arcs, .inl (cyI, 32, .inl f_diagram_arcs))] sz) (kQi D cyI cyZ (va_A [(a_this, .inr (6, [.ref a_text, .ref a_reader, .ref a_diagram, .ref a_draft, .ref a_shelf, .ref a_bracket, .ref a_colouring, .int i_savedStates, .int i_newestPlace])), (a_diagram, .inr (2, [.int i_diagram_crossings, .int i_diagram_circles, .ref a_diagram_arcs])), (a_diagram_arcs, .inl (cyI, 32, .inl f_diagram_arcs))] sz) [(a_this, .inr (6, [.ref a_text, .ref a_reader, .ref a_diagram, .ref a_draft, .ref a_shelf, .ref a_bracket, .ref a_colouring, .int i_savedStates, .int i_newestPlace])), (a_diagram, .inr (2, [.int i_diagram_crossings, .int i_diagram_circles, .ref a_diagram_arcs])), (a_diagram_arcs, .inl (cyI, 32, .inl f_diagram_arcs))] r) 0 0 (va_A [(a_this, .inr (6, [.ref a_text, .ref a_reader, .ref a_diagram, .ref a_draft, .ref a_shelf, .ref a_bracket, .ref a_colouring, .int i_savedStates, .int i_newestPlace])), (a_diagram, .inr (2, [.int i_diagram_crossings, .int i_diagram_circles, .ref a_diagram_arcs])), (a_diagram_arcs, .inl (cyI, 32, .inl f_diagram_arcs))] sz) := by
  refine Met.ofW (cc := cX9_arcAt) (maxL := 3) (ret := (some .int)) (by decide) rfl ?_
  intro p e s m args below meth c s₁ B hml hv
  obtain ⟨rfl, hsz, hP, hK, hD0, hN⟩ := hv
  have hx := B.exec
  have hb := B.bytes
  have hr := B.returns
  have hts := atoms_spec (ws := wsX9_arcAt) B.pre
  have hown : s.vm.findClass RX9 = some m.cls := findClass_of_methodNamed B.named
  have hlocks := B.notSynchronized
  subst hsz
  have hD := hD0.self (sz := s.heap.size)
  generalize hAe : va_A [(a_this, .inr (6, [.ref a_text, .ref a_reader, .ref a_diagram, .ref a_draft, .ref a_shelf, .ref a_bracket, .ref a_colouring, .int i_savedStates, .int i_newestPlace])), (a_diagram, .inr (2, [.int i_diagram_crossings, .int i_diagram_circles, .ref a_diagram_arcs])), (a_diagram_arcs, .inl (cyI, 32, .inl f_diagram_arcs))] s.heap.size = A at hD ⊢
  have hA : ∀ q : Nat, s.heap.size ≤ q → A q := fun q h => by rw [← hAe]; exact Or.inr h
  clear hAe hD0
  have hS : va_S A s.heap s.heap [] := va_S.rf
  have S : CallFix p m c cX9_arcAt 3 s (([.ref a_this, .int v1, .int v2] : List Value).toArray) wsX9_arcAt RX9 := ⟨hx, hb, hml, hown, hts⟩
  have hl := lv_entry ([.ref a_this, .int v1, .int v2]) (n := 3) (Nat.le_of_ble_eq_true rfl)
  rw [lg_entry_eq]
  generalize (lg_sl ([.ref a_this, .int v1, .int v2]) ++ List.replicate (3 - (lg_sl ([.ref a_this, .int v1, .int v2])).length) Slot.unset).toArray = ls at hl ⊢
  replace hl : lv_has ls 3 [(0, .ref a_this), (1, .int v1), (2, .int v2)] := hl
  generalize ([] : List Loc) = locs at hS ⊢
  delta kX9_arcAt at hf
  obtain ⟨H, hH⟩ : ∃ H, H = s.heap := ⟨_, rfl⟩
  have hS : va_S A s.heap H locs := by rw [hH]; exact hS
  have hP : va_P D vwCl [(a_this, .inr (6, [.ref a_text, .ref a_reader, .ref a_diagram, .ref a_draft, .ref a_shelf, .ref a_bracket, .ref a_colouring, .int i_savedStates, .int i_newestPlace])), (a_diagram, .inr (2, [.int i_diagram_crossings, .int i_diagram_circles, .ref a_diagram_arcs])), (a_diagram_arcs, .inl (cyI, 32, .inl f_diagram_arcs))] H := by rw [hH]; exact hP
  suffices hgo : W p l e (headSpec wsX9_arcAt rmX9_arcAt).room s m (([.ref a_this, .int v1, .int v2] : List Value).toArray) below meth c H locs 0 0 (MQ below (kQi D cyI cyZ A [(a_this, .inr (6, [.ref a_text, .ref a_reader, .ref a_diagram, .ref a_draft, .ref a_shelf, .ref a_bracket, .ref a_colouring, .int i_savedStates, .int i_newestPlace])), (a_diagram, .inr (2, [.int i_diagram_crossings, .int i_diagram_circles, .ref a_diagram_arcs])), (a_diagram_arcs, .inl (cyI, 32, .inl f_diagram_arcs))] r) (([.ref a_this, .int v1, .int v2] : List Value).toArray) s 0 0 A) (F0 m 0 ls []) by rw [hH] at hgo; exact hgo
  clear hH
  refine lv_aload_n hx hb dX9_arcAt_0 rfl (lv_at hl 0 rfl) ?_
  refine va_get (D := D) (ci := 6) (v := .ref a_diagram) (C := RX9) (T := TX9) (N := 9) hx hb hts qX9_arcAt_X9 hown hK hP 0 rfl rfl 2 (Nat.le_of_ble_eq_true rfl) (hts (.fieldLink RX9 26 "KnotDiagram" "diagram" "LKnotDiagram$Diagram;") qX9_arcAt_0) (fun _ h9 => h9) rfl dX9_arcAt_1 ?_
  refine lv_iload_n hx hb dX9_arcAt_4 rfl (lv_at hl 1 rfl) ?_
  obtain ⟨r_1, hc_1, hf⟩ := bnd1_s hf
  refine kcVi (As := [.int v1]) (rest := []) (w2 := [(a_this, .inr (6, [.ref a_text, .ref a_reader, .ref a_diagram, .ref a_draft, .ref a_shelf, .ref a_bracket, .ref a_colouring, .int i_savedStates, .int i_newestPlace])), (a_diagram, .inr (2, [.int i_diagram_crossings, .int i_diagram_circles, .ref a_diagram_arcs])), (a_diagram_arcs, .inl (cyI, 32, .inl f_diagram_arcs))]) S hK hP hD hS hA hN (mX2_hasCrossing l D cyI cyZ H.size a_diagram a_diagram_arcs v1 i_diagram_crossings i_diagram_circles r_1 hc_1) (cwV 1 hts gX9_arcAt_X2_hasCrossing rfl rfl rfl (by decide +kernel) ⟨Nat.le_of_ble_eq_true rfl, Nat.le_of_ble_eq_true rfl⟩) 2 1 rfl rfl [1] [0, 2] [0, 2, 1] rfl rfl rfl rfl (by decide) rfl rfl hl.1 (Nat.le_of_ble_eq_true rfl) dX9_arcAt_5 ⟨Nat.le_of_ble_eq_true rfl, Nat.le_of_ble_eq_true rfl⟩ (fun H locs hP hD hS => ?_)
  refine lv_if_eq (tgt := 20) hx hb dX9_arcAt_8 (by decide) (fun c_5 => ?_) (fun c_5 => ?_)
  · replace hf := kt_p hf c_5
    refine lv_ldc (v := (-1000001)) hx hb hown (hts (.constant RX9 58 (-1000001)) qX9_arcAt_1) dX9_arcAt_20 ?_
    obtain rfl := some1_s hf
    exact kRi hx hb hr hlocks hP hK hD hS rfl dX9_arcAt_22
  · replace hf := kt_n hf c_5
    refine lv_iload_n hx hb dX9_arcAt_11 rfl (lv_at hl 2 rfl) ?_
    refine lv_if_lt (tgt := 20) hx hb dX9_arcAt_12 (by decide) (fun c_4 => ?_) (fun c_4 => ?_)
    · replace hf := kt_p hf c_4
      refine lv_ldc (v := (-1000001)) hx hb hown (hts (.constant RX9 58 (-1000001)) qX9_arcAt_1) dX9_arcAt_20 ?_
      obtain rfl := some1_s hf
      exact kRi hx hb hr hlocks hP hK hD hS rfl dX9_arcAt_22
    · replace hf := kt_n hf c_4
      refine lv_iload_n hx hb dX9_arcAt_15 rfl (lv_at hl 2 rfl) ?_
      refine lv_iconst (v := 3) hx hb dX9_arcAt_16 (by decide) ?_
      refine lv_icmp_le (tgt := 23) hx hb dX9_arcAt_17 (by decide) (fun c_3 => ?_) (fun c_3 => ?_)
      · replace hf := kt_p hf c_3
        refine lv_aload_n hx hb dX9_arcAt_23 rfl (lv_at hl 0 rfl) ?_
        refine va_get (D := D) (ci := 6) (v := .ref a_diagram) (C := RX9) (T := TX9) (N := 9) hx hb hts qX9_arcAt_X9 hown hK hP 0 rfl rfl 2 (Nat.le_of_ble_eq_true rfl) (hts (.fieldLink RX9 26 "KnotDiagram" "diagram" "LKnotDiagram$Diagram;") qX9_arcAt_0) (fun _ h9 => h9) rfl dX9_arcAt_24 ?_
        refine lv_iconst (v := 4) hx hb dX9_arcAt_27 (by decide) ?_
        refine lv_iload_n hx hb dX9_arcAt_28 rfl (lv_at hl 1 rfl) ?_
        refine lv_imul hx hb dX9_arcAt_29 ?_
        refine lv_iload_n hx hb dX9_arcAt_30 rfl (lv_at hl 2 rfl) ?_
        refine lv_iadd hx hb dX9_arcAt_31 ?_
        obtain ⟨r_2, hc_2, hf⟩ := bnd1_s hf
        refine kcVi (As := [.int ((4 * v1) + v2)]) (rest := []) (w2 := [(a_this, .inr (6, [.ref a_text, .ref a_reader, .ref a_diagram, .ref a_draft, .ref a_shelf, .ref a_bracket, .ref a_colouring, .int i_savedStates, .int i_newestPlace])), (a_diagram, .inr (2, [.int i_diagram_crossings, .int i_diagram_circles, .ref a_diagram_arcs])), (a_diagram_arcs, .inl (cyI, 32, .inl f_diagram_arcs))]) S hK hP hD hS hA hN (mX2_arc l D cyI cyZ H.size a_diagram a_diagram_arcs ((4 * v1) + v2) i_diagram_crossings i_diagram_circles f_diagram_arcs r_2 hc_2) (cwV 1 hts gX9_arcAt_X2_arc rfl rfl rfl (by decide +kernel) ⟨Nat.le_of_ble_eq_true rfl, Nat.le_of_ble_eq_true rfl⟩) 2 1 rfl rfl [1, 2] [0] [0, 1, 2] rfl rfl rfl rfl (by decide) rfl rfl hl.1 (Nat.le_of_ble_eq_true rfl) dX9_arcAt_32 ⟨Nat.le_of_ble_eq_true rfl, Nat.le_of_ble_eq_true rfl⟩ (fun H locs hP hD hS => ?_)
        obtain rfl := some1_s hf
        exact kRi hx hb hr hlocks hP hK hD hS rfl dX9_arcAt_35
      · replace hf := kt_n hf c_3
        refine lv_ldc (v := (-1000001)) hx hb hown (hts (.constant RX9 58 (-1000001)) qX9_arcAt_1) dX9_arcAt_20 ?_
        obtain rfl := some1_s hf
        exact kRi hx hb hr hlocks hP hK hD hS rfl dX9_arcAt_22
def kX9_switchCrossing (v1 : Int32) (i_savedStates : Int32) (i_newestPlace : Int32) (i_diagram_crossings : Int32) (i_diagram_circles : Int32) (f_diagram_arcs : Nat → Int32) (i_draft_crossings : Int32) (i_draft_circles : Int32) (f_draft_arcs : Nat → Int32) (f_shelf_cells : Nat → Int32) (f_shelf_filled : Nat → Int32) (i_bracket_prepared : Int32) : Option (Int32 × Int32 × Int32 × Int32 × Int32 × (Nat → Int32) × Int32 × Int32 × (Nat → Int32) × (Nat → Int32) × (Nat → Int32) × Int32) :=
  bnd1 (kX2_hasCrossing v1 i_diagram_crossings) (fun r_1 => if r_1 = 0 then some ((-1000001), i_savedStates, i_newestPlace, i_diagram_crossings, i_diagram_circles, f_diagram_arcs, i_draft_crossings, i_draft_circles, f_draft_arcs, f_shelf_cells, f_shelf_filled, i_bracket_prepared) else bnd3 (kX2_copyFrom i_draft_crossings i_draft_circles f_draft_arcs i_diagram_crossings i_diagram_circles f_diagram_arcs) (fun o_crossings_2 o_circles_2 o_arcs_2 => bnd1 (kX2_exchangeStrands v1 o_arcs_2) (fun o_arcs_3 => bnd8 (kX9_becomeDraft i_savedStates i_newestPlace i_diagram_crossings i_diagram_circles f_diagram_arcs o_crossings_2 o_circles_2 o_arcs_3 f_shelf_cells f_shelf_filled i_bracket_prepared) (fun o_savedStates_4 o_newestPlace_4 o_diagram_crossings_4 o_diagram_circles_4 o_diagram_arcs_4 o_shelf_cells_4 o_shelf_filled_4 o_bracket_prepared_4 => bnd1 (kX7_enteredEnds o_diagram_crossings_4 o_diagram_arcs_4) (fun r_5 => bnd1 (kX7_sign v1 r_5) (fun r_6 => some (r_6, o_savedStates_4, o_newestPlace_4, o_diagram_crossings_4, o_diagram_circles_4, o_diagram_arcs_4, o_crossings_2, o_circles_2, o_arcs_3, o_shelf_cells_4, o_shelf_filled_4, o_bracket_prepared_4)))))))
def rmX9_switchCrossing : Room := { frames := 4, cells := 0, slots := 0, locals := 94 }
theorem qX9_switchCrossing_0 : (.fieldLink RX9 26 "KnotDiagram" "diagram" "LKnotDiagram$Diagram;" : Cond) ∈ wsX9_switchCrossing := by decide +kernel
theorem qX9_switchCrossing_1 : (.fieldLink RX9 30 "KnotDiagram" "draft" "LKnotDiagram$Diagram;" : Cond) ∈ wsX9_switchCrossing := by decide +kernel
theorem qX9_switchCrossing_2 : (.constant RX9 58 (-1000001) : Cond) ∈ wsX9_switchCrossing := by decide +kernel
theorem qX9_switchCrossing_X9 : ∀ w ∈ wsX90, w ∈ wsX9_switchCrossing := by decide +kernel
set_option maxHeartbeats 4000000 in
set_option maxRecDepth 100000 in
theorem mX9_switchCrossing (l : Launch) (D : va_G) (cyI cyZ : ClassId) (sz : Nat) (a_this a_text a_reader a_diagram a_draft a_shelf a_bracket a_colouring a_diagram_arcs a_draft_arcs a_shelf_cells a_shelf_filled a_bracket_otherEnds a_bracket_tally a_bracket_coefficients a_bracket_product : Nat) (v1 : Int32) (i_savedStates : Int32) (i_newestPlace : Int32) (i_diagram_crossings : Int32) (i_diagram_circles : Int32) (f_diagram_arcs : Nat → Int32) (i_draft_crossings : Int32) (i_draft_circles : Int32) (f_draft_arcs : Nat → Int32) (f_shelf_cells : Nat → Int32) (f_shelf_filled : Nat → Int32) (i_bracket_prepared : Int32) (r : Int32) (o_savedStates : Int32) (o_newestPlace : Int32) (o_diagram_crossings : Int32) (o_diagram_circles : Int32) (o_diagram_arcs : Nat → Int32) (o_draft_crossings : Int32) (o_draft_circles : Int32) (o_draft_arcs : Nat → Int32) (o_shelf_cells : Nat → Int32) (o_shelf_filled : Nat → Int32) (o_bracket_prepared : Int32) (hf : kX9_switchCrossing v1 i_savedStates i_newestPlace i_diagram_crossings i_diagram_circles f_diagram_arcs i_draft_crossings i_draft_circles f_draft_arcs f_shelf_cells f_shelf_filled i_bracket_prepared = some (r, o_savedStates, o_newestPlace, o_diagram_crossings, o_diagram_circles, o_diagram_arcs, o_draft_crossings, o_draft_circles, o_draft_arcs, o_shelf_cells, o_shelf_filled, o_bracket_prepared)) : Met l yX9_switchCrossing wsX9_switchCrossing rmX9_switchCrossing (kPre D cyI cyZ [.ref a_this, .int v1] [(a_this, .inr (6, [.ref a_text, .ref a_reader, .ref a_diagram, .ref a_draft, .ref a_shelf, .ref a_bracket, .ref a_colouring, .int i_savedStates, .int i_newestPlace])), (a_diagram, .inr (2, [.int i_diagram_crossings, .int i_diagram_circles, .ref a_diagram_arcs])), (a_diagram_arcs, .inl (cyI, 32, .inl f_diagram_arcs)), (a_draft, .inr (2, [.int i_draft_crossings, .int i_draft_circles, .ref a_draft_arcs])), (a_draft_arcs, .inl (cyI, 32, .inl f_draft_arcs)), (a_shelf, .inr (4, [.ref a_shelf_cells, .ref a_shelf_filled])), (a_shelf_cells, .inl (cyI, 340, .inl f_shelf_cells)), (a_shelf_filled, .inl (cyZ, 10, .inl f_shelf_filled)), (a_bracket, .inr (0, [.ref a_bracket_otherEnds, .ref a_bracket_tally, .ref a_bracket_coefficients, .ref a_bracket_product, .int i_bracket_prepared]))] sz) (kQi D cyI cyZ (va_A [(a_this, .inr (6, [.ref a_text, .ref a_reader, .ref a_diagram, .ref a_draft, .ref a_shelf, .ref a_bracket, .ref a_colouring, .int i_savedStates, .int i_newestPlace])), (a_diagram, .inr (2, [.int i_diagram_crossings, .int i_diagram_circles, .ref a_diagram_arcs])), (a_diagram_arcs, .inl (cyI, 32, .inl f_diagram_arcs)), (a_draft, .inr (2, [.int i_draft_crossings, .int i_draft_circles, .ref a_draft_arcs])), (a_draft_arcs, .inl (cyI, 32, .inl f_draft_arcs)), (a_shelf, .inr (4, [.ref a_shelf_cells, .ref a_shelf_filled])), (a_shelf_cells, .inl (cyI, 340, .inl f_shelf_cells)), (a_shelf_filled, .inl (cyZ, 10, .inl f_shelf_filled)), (a_bracket, .inr (0, [.ref a_bracket_otherEnds, .ref a_bracket_tally, .ref a_bracket_coefficients, .ref a_bracket_product, .int i_bracket_prepared]))] sz) [(a_this, .inr (6, [.ref a_text, .ref a_reader, .ref a_diagram, .ref a_draft, .ref a_shelf, .ref a_bracket, .ref a_colouring, .int o_savedStates, .int o_newestPlace])), (a_diagram, .inr (2, [.int o_diagram_crossings, .int o_diagram_circles, .ref a_diagram_arcs])), (a_diagram_arcs, .inl (cyI, 32, .inl o_diagram_arcs)), (a_draft, .inr (2, [.int o_draft_crossings, .int o_draft_circles, .ref a_draft_arcs])), (a_draft_arcs, .inl (cyI, 32, .inl o_draft_arcs)), (a_shelf, .inr (4, [.ref a_shelf_cells, .ref a_shelf_filled])), (a_shelf_cells, .inl (cyI, 340, .inl o_shelf_cells)), (a_shelf_filled, .inl (cyZ, 10, .inl o_shelf_filled)), (a_bracket, .inr (0, [.ref a_bracket_otherEnds, .ref a_bracket_tally, .ref a_bracket_coefficients, .ref a_bracket_product, .int o_bracket_prepared]))] r) 0 0 (va_A [(a_this, .inr (6, [.ref a_text, .ref a_reader, .ref a_diagram, .ref a_draft, .ref a_shelf, .ref a_bracket, .ref a_colouring, .int i_savedStates, .int i_newestPlace])), (a_diagram, .inr (2, [.int i_diagram_crossings, .int i_diagram_circles, .ref a_diagram_arcs])), (a_diagram_arcs, .inl (cyI, 32, .inl f_diagram_arcs)), (a_draft, .inr (2, [.int i_draft_crossings, .int i_draft_circles, .ref a_draft_arcs])), (a_draft_arcs, .inl (cyI, 32, .inl f_draft_arcs)), (a_shelf, .inr (4, [.ref a_shelf_cells, .ref a_shelf_filled])), (a_shelf_cells, .inl (cyI, 340, .inl f_shelf_cells)), (a_shelf_filled, .inl (cyZ, 10, .inl f_shelf_filled)), (a_bracket, .inr (0, [.ref a_bracket_otherEnds, .ref a_bracket_tally, .ref a_bracket_coefficients, .ref a_bracket_product, .int i_bracket_prepared]))] sz) := by
  refine Met.ofW (cc := cX9_switchCrossing) (maxL := 2) (ret := (some .int)) (by decide) rfl ?_
  intro p e s m args below meth c s₁ B hml hv
  obtain ⟨rfl, hsz, hP, hK, hD0, hN⟩ := hv
  have hx := B.exec
  have hb := B.bytes
  have hr := B.returns
  have hts := atoms_spec (ws := wsX9_switchCrossing) B.pre
  have hown : s.vm.findClass RX9 = some m.cls := findClass_of_methodNamed B.named
  have hlocks := B.notSynchronized
  subst hsz
  have hD := hD0.self (sz := s.heap.size)
  generalize hAe : va_A [(a_this, .inr (6, [.ref a_text, .ref a_reader, .ref a_diagram, .ref a_draft, .ref a_shelf, .ref a_bracket, .ref a_colouring, .int i_savedStates, .int i_newestPlace])), (a_diagram, .inr (2, [.int i_diagram_crossings, .int i_diagram_circles, .ref a_diagram_arcs])), (a_diagram_arcs, .inl (cyI, 32, .inl f_diagram_arcs)), (a_draft, .inr (2, [.int i_draft_crossings, .int i_draft_circles, .ref a_draft_arcs])), (a_draft_arcs, .inl (cyI, 32, .inl f_draft_arcs)), (a_shelf, .inr (4, [.ref a_shelf_cells, .ref a_shelf_filled])), (a_shelf_cells, .inl (cyI, 340, .inl f_shelf_cells)), (a_shelf_filled, .inl (cyZ, 10, .inl f_shelf_filled)), (a_bracket, .inr (0, [.ref a_bracket_otherEnds, .ref a_bracket_tally, .ref a_bracket_coefficients, .ref a_bracket_product, .int i_bracket_prepared]))] s.heap.size = A at hD ⊢
  have hA : ∀ q : Nat, s.heap.size ≤ q → A q := fun q h => by rw [← hAe]; exact Or.inr h
  clear hAe hD0
  have hS : va_S A s.heap s.heap [] := va_S.rf
  have S : CallFix p m c cX9_switchCrossing 2 s (([.ref a_this, .int v1] : List Value).toArray) wsX9_switchCrossing RX9 := ⟨hx, hb, hml, hown, hts⟩
  have hl := lv_entry ([.ref a_this, .int v1]) (n := 2) (Nat.le_of_ble_eq_true rfl)
  rw [lg_entry_eq]
  generalize (lg_sl ([.ref a_this, .int v1]) ++ List.replicate (2 - (lg_sl ([.ref a_this, .int v1])).length) Slot.unset).toArray = ls at hl ⊢
  replace hl : lv_has ls 2 [(0, .ref a_this), (1, .int v1)] := hl
  generalize ([] : List Loc) = locs at hS ⊢
  delta kX9_switchCrossing at hf
  obtain ⟨H, hH⟩ : ∃ H, H = s.heap := ⟨_, rfl⟩
  have hS : va_S A s.heap H locs := by rw [hH]; exact hS
  have hP : va_P D vwCl [(a_this, .inr (6, [.ref a_text, .ref a_reader, .ref a_diagram, .ref a_draft, .ref a_shelf, .ref a_bracket, .ref a_colouring, .int i_savedStates, .int i_newestPlace])), (a_diagram, .inr (2, [.int i_diagram_crossings, .int i_diagram_circles, .ref a_diagram_arcs])), (a_diagram_arcs, .inl (cyI, 32, .inl f_diagram_arcs)), (a_draft, .inr (2, [.int i_draft_crossings, .int i_draft_circles, .ref a_draft_arcs])), (a_draft_arcs, .inl (cyI, 32, .inl f_draft_arcs)), (a_shelf, .inr (4, [.ref a_shelf_cells, .ref a_shelf_filled])), (a_shelf_cells, .inl (cyI, 340, .inl f_shelf_cells)), (a_shelf_filled, .inl (cyZ, 10, .inl f_shelf_filled)), (a_bracket, .inr (0, [.ref a_bracket_otherEnds, .ref a_bracket_tally, .ref a_bracket_coefficients, .ref a_bracket_product, .int i_bracket_prepared]))] H := by rw [hH]; exact hP
  suffices hgo : W p l e (headSpec wsX9_switchCrossing rmX9_switchCrossing).room s m (([.ref a_this, .int v1] : List Value).toArray) below meth c H locs 0 0 (MQ below (kQi D cyI cyZ A [(a_this, .inr (6, [.ref a_text, .ref a_reader, .ref a_diagram, .ref a_draft, .ref a_shelf, .ref a_bracket, .ref a_colouring, .int o_savedStates, .int o_newestPlace])), (a_diagram, .inr (2, [.int o_diagram_crossings, .int o_diagram_circles, .ref a_diagram_arcs])), (a_diagram_arcs, .inl (cyI, 32, .inl o_diagram_arcs)), (a_draft, .inr (2, [.int o_draft_crossings, .int o_draft_circles, .ref a_draft_arcs])), (a_draft_arcs, .inl (cyI, 32, .inl o_draft_arcs)), (a_shelf, .inr (4, [.ref a_shelf_cells, .ref a_shelf_filled])), (a_shelf_cells, .inl (cyI, 340, .inl o_shelf_cells)), (a_shelf_filled, .inl (cyZ, 10, .inl o_shelf_filled)), (a_bracket, .inr (0, [.ref a_bracket_otherEnds, .ref a_bracket_tally, .ref a_bracket_coefficients, .ref a_bracket_product, .int o_bracket_prepared]))] r) (([.ref a_this, .int v1] : List Value).toArray) s 0 0 A) (F0 m 0 ls []) by rw [hH] at hgo; exact hgo
  clear hH
  refine lv_aload_n hx hb dX9_switchCrossing_0 rfl (lv_at hl 0 rfl) ?_
  refine va_get (D := D) (ci := 6) (v := .ref a_diagram) (C := RX9) (T := TX9) (N := 9) hx hb hts qX9_switchCrossing_X9 hown hK hP 0 rfl rfl 2 (Nat.le_of_ble_eq_true rfl) (hts (.fieldLink RX9 26 "KnotDiagram" "diagram" "LKnotDiagram$Diagram;") qX9_switchCrossing_0) (fun _ h9 => h9) rfl dX9_switchCrossing_1 ?_
  refine lv_iload_n hx hb dX9_switchCrossing_4 rfl (lv_at hl 1 rfl) ?_
  obtain ⟨r_1, hc_1, hf⟩ := bnd1_s hf
  refine kcVi (As := [.int v1]) (rest := []) (w2 := [(a_this, .inr (6, [.ref a_text, .ref a_reader, .ref a_diagram, .ref a_draft, .ref a_shelf, .ref a_bracket, .ref a_colouring, .int i_savedStates, .int i_newestPlace])), (a_diagram, .inr (2, [.int i_diagram_crossings, .int i_diagram_circles, .ref a_diagram_arcs])), (a_diagram_arcs, .inl (cyI, 32, .inl f_diagram_arcs)), (a_draft, .inr (2, [.int i_draft_crossings, .int i_draft_circles, .ref a_draft_arcs])), (a_draft_arcs, .inl (cyI, 32, .inl f_draft_arcs)), (a_shelf, .inr (4, [.ref a_shelf_cells, .ref a_shelf_filled])), (a_shelf_cells, .inl (cyI, 340, .inl f_shelf_cells)), (a_shelf_filled, .inl (cyZ, 10, .inl f_shelf_filled)), (a_bracket, .inr (0, [.ref a_bracket_otherEnds, .ref a_bracket_tally, .ref a_bracket_coefficients, .ref a_bracket_product, .int i_bracket_prepared]))]) S hK hP hD hS hA hN (mX2_hasCrossing l D cyI cyZ H.size a_diagram a_diagram_arcs v1 i_diagram_crossings i_diagram_circles r_1 hc_1) (cwV 1 hts gX9_switchCrossing_X2_hasCrossing rfl rfl rfl (by decide +kernel) ⟨Nat.le_of_ble_eq_true rfl, Nat.le_of_ble_eq_true rfl⟩) 2 1 rfl rfl [1] [0, 2, 3, 4, 5, 6, 7, 8] [0, 8, 1, 2, 3, 4, 5, 6, 7] rfl rfl rfl rfl (by decide) rfl rfl hl.1 (Nat.le_of_ble_eq_true rfl) dX9_switchCrossing_5 ⟨Nat.le_of_ble_eq_true rfl, Nat.le_of_ble_eq_true rfl⟩ (fun H locs hP hD hS => ?_)
  refine lv_if_ne (tgt := 14) hx hb dX9_switchCrossing_8 (by decide) (fun c_7 => ?_) (fun c_7 => ?_)
  · replace hf := kt_n hf c_7
    refine lv_aload_n hx hb dX9_switchCrossing_14 rfl (lv_at hl 0 rfl) ?_
    refine va_get (D := D) (ci := 6) (v := .ref a_draft) (C := RX9) (T := TX9) (N := 9) hx hb hts qX9_switchCrossing_X9 hown hK hP 0 rfl rfl 3 (Nat.le_of_ble_eq_true rfl) (hts (.fieldLink RX9 30 "KnotDiagram" "draft" "LKnotDiagram$Diagram;") qX9_switchCrossing_1) (fun _ h9 => h9) rfl dX9_switchCrossing_15 ?_
    refine lv_aload_n hx hb dX9_switchCrossing_18 rfl (lv_at hl 0 rfl) ?_
    refine va_get (D := D) (ci := 6) (v := .ref a_diagram) (C := RX9) (T := TX9) (N := 9) hx hb hts qX9_switchCrossing_X9 hown hK hP 0 rfl rfl 2 (Nat.le_of_ble_eq_true rfl) (hts (.fieldLink RX9 26 "KnotDiagram" "diagram" "LKnotDiagram$Diagram;") qX9_switchCrossing_0) (fun _ h9 => h9) rfl dX9_switchCrossing_19 ?_
    obtain ⟨o_crossings_2, o_circles_2, o_arcs_2, hc_2, hf⟩ := bnd3_s hf
    refine kcVv (As := [.ref a_diagram]) (rest := []) (w2 := [(a_this, .inr (6, [.ref a_text, .ref a_reader, .ref a_diagram, .ref a_draft, .ref a_shelf, .ref a_bracket, .ref a_colouring, .int i_savedStates, .int i_newestPlace])), (a_diagram, .inr (2, [.int i_diagram_crossings, .int i_diagram_circles, .ref a_diagram_arcs])), (a_diagram_arcs, .inl (cyI, 32, .inl f_diagram_arcs)), (a_draft, .inr (2, [.int o_crossings_2, .int o_circles_2, .ref a_draft_arcs])), (a_draft_arcs, .inl (cyI, 32, .inl o_arcs_2)), (a_shelf, .inr (4, [.ref a_shelf_cells, .ref a_shelf_filled])), (a_shelf_cells, .inl (cyI, 340, .inl f_shelf_cells)), (a_shelf_filled, .inl (cyZ, 10, .inl f_shelf_filled)), (a_bracket, .inr (0, [.ref a_bracket_otherEnds, .ref a_bracket_tally, .ref a_bracket_coefficients, .ref a_bracket_product, .int i_bracket_prepared]))]) S hK hP hD hS hA hN (mX2_copyFrom l D cyI cyZ H.size a_draft a_diagram a_draft_arcs a_diagram_arcs i_draft_crossings i_draft_circles f_draft_arcs i_diagram_crossings i_diagram_circles f_diagram_arcs o_crossings_2 o_circles_2 o_arcs_2 hc_2) (cwV 1 hts gX9_switchCrossing_X2_copyFrom rfl rfl rfl (by decide +kernel) ⟨Nat.le_of_ble_eq_true rfl, Nat.le_of_ble_eq_true rfl⟩) 2 3 rfl rfl [3, 4, 1, 2] [0, 5, 6, 7, 8] [0, 7, 8, 5, 6, 1, 2, 3, 4] rfl rfl rfl rfl (by decide) rfl rfl hl.1 (Nat.le_of_ble_eq_true rfl) dX9_switchCrossing_22 ⟨Nat.le_of_ble_eq_true rfl, Nat.le_of_ble_eq_true rfl⟩ (fun H locs hP hD hS => ?_)
    refine lv_aload_n hx hb dX9_switchCrossing_25 rfl (lv_at hl 0 rfl) ?_
    refine va_get (D := D) (ci := 6) (v := .ref a_draft) (C := RX9) (T := TX9) (N := 9) hx hb hts qX9_switchCrossing_X9 hown hK hP 0 rfl rfl 3 (Nat.le_of_ble_eq_true rfl) (hts (.fieldLink RX9 30 "KnotDiagram" "draft" "LKnotDiagram$Diagram;") qX9_switchCrossing_1) (fun _ h9 => h9) rfl dX9_switchCrossing_26 ?_
    refine lv_iload_n hx hb dX9_switchCrossing_29 rfl (lv_at hl 1 rfl) ?_
    obtain ⟨o_arcs_3, hc_3, hf⟩ := bnd1_s hf
    refine kcVv (As := [.int v1]) (rest := []) (w2 := [(a_this, .inr (6, [.ref a_text, .ref a_reader, .ref a_diagram, .ref a_draft, .ref a_shelf, .ref a_bracket, .ref a_colouring, .int i_savedStates, .int i_newestPlace])), (a_diagram, .inr (2, [.int i_diagram_crossings, .int i_diagram_circles, .ref a_diagram_arcs])), (a_diagram_arcs, .inl (cyI, 32, .inl f_diagram_arcs)), (a_draft, .inr (2, [.int o_crossings_2, .int o_circles_2, .ref a_draft_arcs])), (a_draft_arcs, .inl (cyI, 32, .inl o_arcs_3)), (a_shelf, .inr (4, [.ref a_shelf_cells, .ref a_shelf_filled])), (a_shelf_cells, .inl (cyI, 340, .inl f_shelf_cells)), (a_shelf_filled, .inl (cyZ, 10, .inl f_shelf_filled)), (a_bracket, .inr (0, [.ref a_bracket_otherEnds, .ref a_bracket_tally, .ref a_bracket_coefficients, .ref a_bracket_product, .int i_bracket_prepared]))]) S hK hP hD hS hA hN (mX2_exchangeStrands l D cyI cyZ H.size a_draft a_draft_arcs v1 o_crossings_2 o_circles_2 o_arcs_2 o_arcs_3 hc_3) (cwV 1 hts gX9_switchCrossing_X2_exchangeStrands rfl rfl rfl (by decide +kernel) ⟨Nat.le_of_ble_eq_true rfl, Nat.le_of_ble_eq_true rfl⟩) 2 3 rfl rfl [3, 4] [0, 1, 2, 5, 6, 7, 8] [0, 1, 2, 7, 8, 3, 4, 5, 6] rfl rfl rfl rfl (by decide) rfl rfl hl.1 (Nat.le_of_ble_eq_true rfl) dX9_switchCrossing_30 ⟨Nat.le_of_ble_eq_true rfl, Nat.le_of_ble_eq_true rfl⟩ (fun H locs hP hD hS => ?_)
    refine lv_aload_n hx hb dX9_switchCrossing_33 rfl (lv_at hl 0 rfl) ?_
    obtain ⟨o_savedStates_4, o_newestPlace_4, o_diagram_crossings_4, o_diagram_circles_4, o_diagram_arcs_4, o_shelf_cells_4, o_shelf_filled_4, o_bracket_prepared_4, hc_4, hf⟩ := bnd8_s hf
    refine kcVv (As := []) (rest := []) (w2 := [(a_this, .inr (6, [.ref a_text, .ref a_reader, .ref a_diagram, .ref a_draft, .ref a_shelf, .ref a_bracket, .ref a_colouring, .int o_savedStates_4, .int o_newestPlace_4])), (a_diagram, .inr (2, [.int o_diagram_crossings_4, .int o_diagram_circles_4, .ref a_diagram_arcs])), (a_diagram_arcs, .inl (cyI, 32, .inl o_diagram_arcs_4)), (a_draft, .inr (2, [.int o_crossings_2, .int o_circles_2, .ref a_draft_arcs])), (a_draft_arcs, .inl (cyI, 32, .inl o_arcs_3)), (a_shelf, .inr (4, [.ref a_shelf_cells, .ref a_shelf_filled])), (a_shelf_cells, .inl (cyI, 340, .inl o_shelf_cells_4)), (a_shelf_filled, .inl (cyZ, 10, .inl o_shelf_filled_4)), (a_bracket, .inr (0, [.ref a_bracket_otherEnds, .ref a_bracket_tally, .ref a_bracket_coefficients, .ref a_bracket_product, .int o_bracket_prepared_4]))]) S hK hP hD hS hA hN (mX9_becomeDraft l D cyI cyZ H.size a_this a_text a_reader a_diagram a_draft a_shelf a_bracket a_colouring a_diagram_arcs a_draft_arcs a_shelf_cells a_shelf_filled a_bracket_otherEnds a_bracket_tally a_bracket_coefficients a_bracket_product i_savedStates i_newestPlace i_diagram_crossings i_diagram_circles f_diagram_arcs o_crossings_2 o_circles_2 o_arcs_3 f_shelf_cells f_shelf_filled i_bracket_prepared o_savedStates_4 o_newestPlace_4 o_diagram_crossings_4 o_diagram_circles_4 o_diagram_arcs_4 o_shelf_cells_4 o_shelf_filled_4 o_bracket_prepared_4 hc_4) (cwV 0 hts gX9_switchCrossing_X9_becomeDraft rfl rfl rfl (by decide +kernel) ⟨Nat.le_of_ble_eq_true rfl, Nat.le_of_ble_eq_true rfl⟩) 6 0 rfl rfl [0, 1, 2, 3, 4, 5, 6, 7, 8] [] [0, 1, 2, 3, 4, 5, 6, 7, 8] rfl rfl rfl rfl (by decide) rfl rfl hl.1 (Nat.le_of_ble_eq_true rfl) dX9_switchCrossing_34 ⟨Nat.le_of_ble_eq_true rfl, Nat.le_of_ble_eq_true rfl⟩ (fun H locs hP hD hS => ?_)
    refine lv_iload_n hx hb dX9_switchCrossing_37 rfl (lv_at hl 1 rfl) ?_
    refine lv_aload_n hx hb dX9_switchCrossing_38 rfl (lv_at hl 0 rfl) ?_
    refine va_get (D := D) (ci := 6) (v := .ref a_diagram) (C := RX9) (T := TX9) (N := 9) hx hb hts qX9_switchCrossing_X9 hown hK hP 0 rfl rfl 2 (Nat.le_of_ble_eq_true rfl) (hts (.fieldLink RX9 26 "KnotDiagram" "diagram" "LKnotDiagram$Diagram;") qX9_switchCrossing_0) (fun _ h9 => h9) rfl dX9_switchCrossing_39 ?_
    obtain ⟨r_5, hc_5, hf⟩ := bnd1_s hf
    refine kcSi (As := [.ref a_diagram]) (rest := [.int v1]) (w2 := [(a_this, .inr (6, [.ref a_text, .ref a_reader, .ref a_diagram, .ref a_draft, .ref a_shelf, .ref a_bracket, .ref a_colouring, .int o_savedStates_4, .int o_newestPlace_4])), (a_diagram, .inr (2, [.int o_diagram_crossings_4, .int o_diagram_circles_4, .ref a_diagram_arcs])), (a_diagram_arcs, .inl (cyI, 32, .inl o_diagram_arcs_4)), (a_draft, .inr (2, [.int o_crossings_2, .int o_circles_2, .ref a_draft_arcs])), (a_draft_arcs, .inl (cyI, 32, .inl o_arcs_3)), (a_shelf, .inr (4, [.ref a_shelf_cells, .ref a_shelf_filled])), (a_shelf_cells, .inl (cyI, 340, .inl o_shelf_cells_4)), (a_shelf_filled, .inl (cyZ, 10, .inl o_shelf_filled_4)), (a_bracket, .inr (0, [.ref a_bracket_otherEnds, .ref a_bracket_tally, .ref a_bracket_coefficients, .ref a_bracket_product, .int o_bracket_prepared_4]))]) S hK hP hD hS hA hN (mX7_enteredEnds l D cyI cyZ H.size a_diagram a_diagram_arcs o_diagram_crossings_4 o_diagram_circles_4 o_diagram_arcs_4 r_5 hc_5) (va_cwS 1 hts gX9_switchCrossing_X7_enteredEnds rfl rfl rfl (by decide +kernel) ⟨Nat.le_of_ble_eq_true rfl, Nat.le_of_ble_eq_true rfl⟩) [1, 2] [0, 3, 4, 5, 6, 7, 8] [0, 7, 8, 1, 2, 3, 4, 5, 6] rfl rfl rfl rfl (by decide) rfl rfl hl.1 (Nat.le_of_ble_eq_true rfl) dX9_switchCrossing_42 ⟨Nat.le_of_ble_eq_true rfl, Nat.le_of_ble_eq_true rfl⟩ (fun H locs hP hD hS => ?_)
    obtain ⟨r_6, hc_6, hf⟩ := bnd1_s hf
    refine kcSi (As := [.int v1, .int r_5]) (rest := []) (w2 := [(a_this, .inr (6, [.ref a_text, .ref a_reader, .ref a_diagram, .ref a_draft, .ref a_shelf, .ref a_bracket, .ref a_colouring, .int o_savedStates_4, .int o_newestPlace_4])), (a_diagram, .inr (2, [.int o_diagram_crossings_4, .int o_diagram_circles_4, .ref a_diagram_arcs])), (a_diagram_arcs, .inl (cyI, 32, .inl o_diagram_arcs_4)), (a_draft, .inr (2, [.int o_crossings_2, .int o_circles_2, .ref a_draft_arcs])), (a_draft_arcs, .inl (cyI, 32, .inl o_arcs_3)), (a_shelf, .inr (4, [.ref a_shelf_cells, .ref a_shelf_filled])), (a_shelf_cells, .inl (cyI, 340, .inl o_shelf_cells_4)), (a_shelf_filled, .inl (cyZ, 10, .inl o_shelf_filled_4)), (a_bracket, .inr (0, [.ref a_bracket_otherEnds, .ref a_bracket_tally, .ref a_bracket_coefficients, .ref a_bracket_product, .int o_bracket_prepared_4]))]) S hK hP hD hS hA hN (mX7_sign l D cyI cyZ H.size v1 r_5 r_6 hc_6) (va_cwS 2 hts gX9_switchCrossing_X7_sign rfl rfl rfl (by decide +kernel) ⟨Nat.le_of_ble_eq_true rfl, Nat.le_of_ble_eq_true rfl⟩) [] [0, 1, 2, 3, 4, 5, 6, 7, 8] [0, 1, 2, 3, 4, 5, 6, 7, 8] rfl rfl rfl rfl (by decide) rfl rfl hl.1 (Nat.le_of_ble_eq_true rfl) dX9_switchCrossing_45 ⟨Nat.le_of_ble_eq_true rfl, Nat.le_of_ble_eq_true rfl⟩ (fun H locs hP hD hS => ?_)
    obtain ⟨rfl, rfl, rfl, rfl, rfl, rfl, rfl, rfl, rfl, rfl, rfl, rfl⟩ := some12_s hf
    exact kRi hx hb hr hlocks hP hK hD hS rfl dX9_switchCrossing_48
  · replace hf := kt_p hf c_7
    refine lv_ldc (v := (-1000001)) hx hb hown (hts (.constant RX9 58 (-1000001)) qX9_switchCrossing_2) dX9_switchCrossing_11 ?_
    obtain ⟨rfl, rfl, rfl, rfl, rfl, rfl, rfl, rfl, rfl, rfl, rfl, rfl⟩ := some12_s hf
    exact kRi hx hb hr hlocks hP hK hD hS rfl dX9_switchCrossing_13
def kX9_mirror_L1 (o_crossings_1 : Int32) (i_savedStates : Int32) (i_newestPlace : Int32) (i_diagram_crossings : Int32) (i_diagram_circles : Int32) (f_diagram_arcs : Nat → Int32) (o_circles_1 : Int32) (f_shelf_cells : Nat → Int32) (f_shelf_filled : Nat → Int32) (i_bracket_prepared : Int32) (K_1 : Int32 → (Nat → Int32) → Option (Int32 × Int32 × Int32 × Int32 × Int32 × (Nat → Int32) × Int32 × Int32 × (Nat → Int32) × (Nat → Int32) × (Nat → Int32) × Int32)) (v2_1 : Int32) (f_draft_arcs_1 : Nat → Int32) : Option (Int32 × Int32 × Int32 × Int32 × Int32 × (Nat → Int32) × Int32 × Int32 × (Nat → Int32) × (Nat → Int32) × (Nat → Int32) × Int32) :=
  if o_crossings_1 ≤ v2_1 then bnd8 (kX9_becomeDraft i_savedStates i_newestPlace i_diagram_crossings i_diagram_circles f_diagram_arcs o_crossings_1 o_circles_1 f_draft_arcs_1 f_shelf_cells f_shelf_filled i_bracket_prepared) (fun o_savedStates_2 o_newestPlace_2 o_diagram_crossings_2 o_diagram_circles_2 o_diagram_arcs_2 o_shelf_cells_2 o_shelf_filled_2 o_bracket_prepared_2 => bnd1 (kX7_signSum o_diagram_crossings_2 o_diagram_arcs_2) (fun r_3 => some (r_3, o_savedStates_2, o_newestPlace_2, o_diagram_crossings_2, o_diagram_circles_2, o_diagram_arcs_2, o_crossings_1, o_circles_1, f_draft_arcs_1, o_shelf_cells_2, o_shelf_filled_2, o_bracket_prepared_2))) else bnd1 (kX2_exchangeStrands v2_1 f_draft_arcs_1) (fun o_arcs_4 => K_1 (v2_1 + 1) o_arcs_4)
def kX9_mirror (i_savedStates : Int32) (i_newestPlace : Int32) (i_diagram_crossings : Int32) (i_diagram_circles : Int32) (f_diagram_arcs : Nat → Int32) (i_draft_crossings : Int32) (i_draft_circles : Int32) (f_draft_arcs : Nat → Int32) (f_shelf_cells : Nat → Int32) (f_shelf_filled : Nat → Int32) (i_bracket_prepared : Int32) : Option (Int32 × Int32 × Int32 × Int32 × Int32 × (Nat → Int32) × Int32 × Int32 × (Nat → Int32) × (Nat → Int32) × (Nat → Int32) × Int32) :=
  if i_diagram_crossings = 0 then some ((-1000002), i_savedStates, i_newestPlace, i_diagram_crossings, i_diagram_circles, f_diagram_arcs, i_draft_crossings, i_draft_circles, f_draft_arcs, f_shelf_cells, f_shelf_filled, i_bracket_prepared) else bnd3 (kX2_copyFrom i_draft_crossings i_draft_circles f_draft_arcs i_diagram_crossings i_diagram_circles f_diagram_arcs) (fun o_crossings_1 o_circles_1 o_arcs_1 => it2 (kX9_mirror_L1 o_crossings_1 i_savedStates i_newestPlace i_diagram_crossings i_diagram_circles f_diagram_arcs o_circles_1 f_shelf_cells f_shelf_filled i_bracket_prepared) 400 0 o_arcs_1)
def rmX9_mirror : Room := { frames := 5, cells := 0, slots := 0, locals := 118 }
theorem qX9_mirror_0 : (.fieldLink RX9 26 "KnotDiagram" "diagram" "LKnotDiagram$Diagram;" : Cond) ∈ wsX9_mirror := by decide +kernel
theorem qX9_mirror_1 : (.fieldLink RX9 74 "KnotDiagram$Diagram" "crossings" "I" : Cond) ∈ wsX9_mirror := by decide +kernel
theorem qX9_mirror_2 : (.fieldLink RX9 30 "KnotDiagram" "draft" "LKnotDiagram$Diagram;" : Cond) ∈ wsX9_mirror := by decide +kernel
theorem qX9_mirror_3 : (.constant RX9 102 (-1000002) : Cond) ∈ wsX9_mirror := by decide +kernel
theorem qX9_mirror_X9 : ∀ w ∈ wsX90, w ∈ wsX9_mirror := by decide +kernel
theorem qX9_mirror_X2 : ∀ w ∈ wsX20, w ∈ wsX9_mirror := by decide +kernel
set_option maxHeartbeats 4000000 in
set_option maxRecDepth 100000 in
theorem mX9_mirror (l : Launch) (D : va_G) (cyI cyZ : ClassId) (sz : Nat) (a_this a_text a_reader a_diagram a_draft a_shelf a_bracket a_colouring a_diagram_arcs a_draft_arcs a_shelf_cells a_shelf_filled a_bracket_otherEnds a_bracket_tally a_bracket_coefficients a_bracket_product : Nat) (i_savedStates : Int32) (i_newestPlace : Int32) (i_diagram_crossings : Int32) (i_diagram_circles : Int32) (f_diagram_arcs : Nat → Int32) (i_draft_crossings : Int32) (i_draft_circles : Int32) (f_draft_arcs : Nat → Int32) (f_shelf_cells : Nat → Int32) (f_shelf_filled : Nat → Int32) (i_bracket_prepared : Int32) (r : Int32) (o_savedStates : Int32) (o_newestPlace : Int32) (o_diagram_crossings : Int32) (o_diagram_circles : Int32) (o_diagram_arcs : Nat → Int32) (o_draft_crossings : Int32) (o_draft_circles : Int32) (o_draft_arcs : Nat → Int32) (o_shelf_cells : Nat → Int32) (o_shelf_filled : Nat → Int32) (o_bracket_prepared : Int32) (hf : kX9_mirror i_savedStates i_newestPlace i_diagram_crossings i_diagram_circles f_diagram_arcs i_draft_crossings i_draft_circles f_draft_arcs f_shelf_cells f_shelf_filled i_bracket_prepared = some (r, o_savedStates, o_newestPlace, o_diagram_crossings, o_diagram_circles, o_diagram_arcs, o_draft_crossings, o_draft_circles, o_draft_arcs, o_shelf_cells, o_shelf_filled, o_bracket_prepared)) : Met l yX9_mirror wsX9_mirror rmX9_mirror (kPre D cyI cyZ [.ref a_this] [(a_this, .inr (6, [.ref a_text, .ref a_reader, .ref a_diagram, .ref a_draft, .ref a_shelf, .ref a_bracket, .ref a_colouring, .int i_savedStates, .int i_newestPlace])), (a_diagram, .inr (2, [.int i_diagram_crossings, .int i_diagram_circles, .ref a_diagram_arcs])), (a_diagram_arcs, .inl (cyI, 32, .inl f_diagram_arcs)), (a_draft, .inr (2, [.int i_draft_crossings, .int i_draft_circles, .ref a_draft_arcs])), (a_draft_arcs, .inl (cyI, 32, .inl f_draft_arcs)), (a_shelf, .inr (4, [.ref a_shelf_cells, .ref a_shelf_filled])), (a_shelf_cells, .inl (cyI, 340, .inl f_shelf_cells)), (a_shelf_filled, .inl (cyZ, 10, .inl f_shelf_filled)), (a_bracket, .inr (0, [.ref a_bracket_otherEnds, .ref a_bracket_tally, .ref a_bracket_coefficients, .ref a_bracket_product, .int i_bracket_prepared]))] sz) (kQi D cyI cyZ (va_A [(a_this, .inr (6, [.ref a_text, .ref a_reader, .ref a_diagram, .ref a_draft, .ref a_shelf, .ref a_bracket, .ref a_colouring, .int i_savedStates, .int i_newestPlace])), (a_diagram, .inr (2, [.int i_diagram_crossings, .int i_diagram_circles, .ref a_diagram_arcs])), (a_diagram_arcs, .inl (cyI, 32, .inl f_diagram_arcs)), (a_draft, .inr (2, [.int i_draft_crossings, .int i_draft_circles, .ref a_draft_arcs])), (a_draft_arcs, .inl (cyI, 32, .inl f_draft_arcs)), (a_shelf, .inr (4, [.ref a_shelf_cells, .ref a_shelf_filled])), (a_shelf_cells, .inl (cyI, 340, .inl f_shelf_cells)), (a_shelf_filled, .inl (cyZ, 10, .inl f_shelf_filled)), (a_bracket, .inr (0, [.ref a_bracket_otherEnds, .ref a_bracket_tally, .ref a_bracket_coefficients, .ref a_bracket_product, .int i_bracket_prepared]))] sz) [(a_this, .inr (6, [.ref a_text, .ref a_reader, .ref a_diagram, .ref a_draft, .ref a_shelf, .ref a_bracket, .ref a_colouring, .int o_savedStates, .int o_newestPlace])), (a_diagram, .inr (2, [.int o_diagram_crossings, .int o_diagram_circles, .ref a_diagram_arcs])), (a_diagram_arcs, .inl (cyI, 32, .inl o_diagram_arcs)), (a_draft, .inr (2, [.int o_draft_crossings, .int o_draft_circles, .ref a_draft_arcs])), (a_draft_arcs, .inl (cyI, 32, .inl o_draft_arcs)), (a_shelf, .inr (4, [.ref a_shelf_cells, .ref a_shelf_filled])), (a_shelf_cells, .inl (cyI, 340, .inl o_shelf_cells)), (a_shelf_filled, .inl (cyZ, 10, .inl o_shelf_filled)), (a_bracket, .inr (0, [.ref a_bracket_otherEnds, .ref a_bracket_tally, .ref a_bracket_coefficients, .ref a_bracket_product, .int o_bracket_prepared]))] r) 0 0 (va_A [(a_this, .inr (6, [.ref a_text, .ref a_reader, .ref a_diagram, .ref a_draft, .ref a_shelf, .ref a_bracket, .ref a_colouring, .int i_savedStates, .int i_newestPlace])), (a_diagram, .inr (2, [.int i_diagram_crossings, .int i_diagram_circles, .ref a_diagram_arcs])), (a_diagram_arcs, .inl (cyI, 32, .inl f_diagram_arcs)), (a_draft, .inr (2, [.int i_draft_crossings, .int i_draft_circles, .ref a_draft_arcs])), (a_draft_arcs, .inl (cyI, 32, .inl f_draft_arcs)), (a_shelf, .inr (4, [.ref a_shelf_cells, .ref a_shelf_filled])), (a_shelf_cells, .inl (cyI, 340, .inl f_shelf_cells)), (a_shelf_filled, .inl (cyZ, 10, .inl f_shelf_filled)), (a_bracket, .inr (0, [.ref a_bracket_otherEnds, .ref a_bracket_tally, .ref a_bracket_coefficients, .ref a_bracket_product, .int i_bracket_prepared]))] sz) := by
  refine Met.ofW (cc := cX9_mirror) (maxL := 3) (ret := (some .int)) (by decide) rfl ?_
  intro p e s m args below meth c s₁ B hml hv
  obtain ⟨rfl, hsz, hP, hK, hD0, hN⟩ := hv
  have hx := B.exec
  have hb := B.bytes
  have hr := B.returns
  have hts := atoms_spec (ws := wsX9_mirror) B.pre
  have hown : s.vm.findClass RX9 = some m.cls := findClass_of_methodNamed B.named
  have hlocks := B.notSynchronized
  subst hsz
  have hD := hD0.self (sz := s.heap.size)
  generalize hAe : va_A [(a_this, .inr (6, [.ref a_text, .ref a_reader, .ref a_diagram, .ref a_draft, .ref a_shelf, .ref a_bracket, .ref a_colouring, .int i_savedStates, .int i_newestPlace])), (a_diagram, .inr (2, [.int i_diagram_crossings, .int i_diagram_circles, .ref a_diagram_arcs])), (a_diagram_arcs, .inl (cyI, 32, .inl f_diagram_arcs)), (a_draft, .inr (2, [.int i_draft_crossings, .int i_draft_circles, .ref a_draft_arcs])), (a_draft_arcs, .inl (cyI, 32, .inl f_draft_arcs)), (a_shelf, .inr (4, [.ref a_shelf_cells, .ref a_shelf_filled])), (a_shelf_cells, .inl (cyI, 340, .inl f_shelf_cells)), (a_shelf_filled, .inl (cyZ, 10, .inl f_shelf_filled)), (a_bracket, .inr (0, [.ref a_bracket_otherEnds, .ref a_bracket_tally, .ref a_bracket_coefficients, .ref a_bracket_product, .int i_bracket_prepared]))] s.heap.size = A at hD ⊢
  have hA : ∀ q : Nat, s.heap.size ≤ q → A q := fun q h => by rw [← hAe]; exact Or.inr h
  clear hAe hD0
  have hS : va_S A s.heap s.heap [] := va_S.rf
  have S : CallFix p m c cX9_mirror 3 s (([.ref a_this] : List Value).toArray) wsX9_mirror RX9 := ⟨hx, hb, hml, hown, hts⟩
  have hl := lv_entry ([.ref a_this]) (n := 3) (Nat.le_of_ble_eq_true rfl)
  rw [lg_entry_eq]
  generalize (lg_sl ([.ref a_this]) ++ List.replicate (3 - (lg_sl ([.ref a_this])).length) Slot.unset).toArray = ls at hl ⊢
  replace hl : lv_has ls 3 [(0, .ref a_this)] := hl
  generalize ([] : List Loc) = locs at hS ⊢
  delta kX9_mirror at hf
  obtain ⟨H, hH⟩ : ∃ H, H = s.heap := ⟨_, rfl⟩
  have hS : va_S A s.heap H locs := by rw [hH]; exact hS
  have hP : va_P D vwCl [(a_this, .inr (6, [.ref a_text, .ref a_reader, .ref a_diagram, .ref a_draft, .ref a_shelf, .ref a_bracket, .ref a_colouring, .int i_savedStates, .int i_newestPlace])), (a_diagram, .inr (2, [.int i_diagram_crossings, .int i_diagram_circles, .ref a_diagram_arcs])), (a_diagram_arcs, .inl (cyI, 32, .inl f_diagram_arcs)), (a_draft, .inr (2, [.int i_draft_crossings, .int i_draft_circles, .ref a_draft_arcs])), (a_draft_arcs, .inl (cyI, 32, .inl f_draft_arcs)), (a_shelf, .inr (4, [.ref a_shelf_cells, .ref a_shelf_filled])), (a_shelf_cells, .inl (cyI, 340, .inl f_shelf_cells)), (a_shelf_filled, .inl (cyZ, 10, .inl f_shelf_filled)), (a_bracket, .inr (0, [.ref a_bracket_otherEnds, .ref a_bracket_tally, .ref a_bracket_coefficients, .ref a_bracket_product, .int i_bracket_prepared]))] H := by rw [hH]; exact hP
  suffices hgo : W p l e (headSpec wsX9_mirror rmX9_mirror).room s m (([.ref a_this] : List Value).toArray) below meth c H locs 0 0 (MQ below (kQi D cyI cyZ A [(a_this, .inr (6, [.ref a_text, .ref a_reader, .ref a_diagram, .ref a_draft, .ref a_shelf, .ref a_bracket, .ref a_colouring, .int o_savedStates, .int o_newestPlace])), (a_diagram, .inr (2, [.int o_diagram_crossings, .int o_diagram_circles, .ref a_diagram_arcs])), (a_diagram_arcs, .inl (cyI, 32, .inl o_diagram_arcs)), (a_draft, .inr (2, [.int o_draft_crossings, .int o_draft_circles, .ref a_draft_arcs])), (a_draft_arcs, .inl (cyI, 32, .inl o_draft_arcs)), (a_shelf, .inr (4, [.ref a_shelf_cells, .ref a_shelf_filled])), (a_shelf_cells, .inl (cyI, 340, .inl o_shelf_cells)), (a_shelf_filled, .inl (cyZ, 10, .inl o_shelf_filled)), (a_bracket, .inr (0, [.ref a_bracket_otherEnds, .ref a_bracket_tally, .ref a_bracket_coefficients, .ref a_bracket_product, .int o_bracket_prepared]))] r) (([.ref a_this] : List Value).toArray) s 0 0 A) (F0 m 0 ls []) by rw [hH] at hgo; exact hgo
  clear hH
  refine lv_aload_n hx hb dX9_mirror_0 rfl (lv_at hl 0 rfl) ?_
  refine va_get (D := D) (ci := 6) (v := .ref a_diagram) (C := RX9) (T := TX9) (N := 9) hx hb hts qX9_mirror_X9 hown hK hP 0 rfl rfl 2 (Nat.le_of_ble_eq_true rfl) (hts (.fieldLink RX9 26 "KnotDiagram" "diagram" "LKnotDiagram$Diagram;") qX9_mirror_0) (fun _ h9 => h9) rfl dX9_mirror_1 ?_
  refine va_get (D := D) (ci := 2) (v := .int i_diagram_crossings) (C := RX2) (T := TX2) (N := 3) hx hb hts qX9_mirror_X2 hown hK hP 1 rfl rfl 0 (Nat.le_of_ble_eq_true rfl) (hts (.fieldLink RX9 74 "KnotDiagram$Diagram" "crossings" "I") qX9_mirror_1) (fun _ h9 => h9) rfl dX9_mirror_4 ?_
  refine lv_if_ne (tgt := 13) hx hb dX9_mirror_7 (by decide) (fun c_6 => ?_) (fun c_6 => ?_)
  · replace hf := kt_n hf c_6
    refine lv_aload_n hx hb dX9_mirror_13 rfl (lv_at hl 0 rfl) ?_
    refine va_get (D := D) (ci := 6) (v := .ref a_draft) (C := RX9) (T := TX9) (N := 9) hx hb hts qX9_mirror_X9 hown hK hP 0 rfl rfl 3 (Nat.le_of_ble_eq_true rfl) (hts (.fieldLink RX9 30 "KnotDiagram" "draft" "LKnotDiagram$Diagram;") qX9_mirror_2) (fun _ h9 => h9) rfl dX9_mirror_14 ?_
    refine lv_aload_n hx hb dX9_mirror_17 rfl (lv_at hl 0 rfl) ?_
    refine va_get (D := D) (ci := 6) (v := .ref a_diagram) (C := RX9) (T := TX9) (N := 9) hx hb hts qX9_mirror_X9 hown hK hP 0 rfl rfl 2 (Nat.le_of_ble_eq_true rfl) (hts (.fieldLink RX9 26 "KnotDiagram" "diagram" "LKnotDiagram$Diagram;") qX9_mirror_0) (fun _ h9 => h9) rfl dX9_mirror_18 ?_
    obtain ⟨o_crossings_1, o_circles_1, o_arcs_1, hc_1, hf⟩ := bnd3_s hf
    refine kcVv (As := [.ref a_diagram]) (rest := []) (w2 := [(a_this, .inr (6, [.ref a_text, .ref a_reader, .ref a_diagram, .ref a_draft, .ref a_shelf, .ref a_bracket, .ref a_colouring, .int i_savedStates, .int i_newestPlace])), (a_diagram, .inr (2, [.int i_diagram_crossings, .int i_diagram_circles, .ref a_diagram_arcs])), (a_diagram_arcs, .inl (cyI, 32, .inl f_diagram_arcs)), (a_draft, .inr (2, [.int o_crossings_1, .int o_circles_1, .ref a_draft_arcs])), (a_draft_arcs, .inl (cyI, 32, .inl o_arcs_1)), (a_shelf, .inr (4, [.ref a_shelf_cells, .ref a_shelf_filled])), (a_shelf_cells, .inl (cyI, 340, .inl f_shelf_cells)), (a_shelf_filled, .inl (cyZ, 10, .inl f_shelf_filled)), (a_bracket, .inr (0, [.ref a_bracket_otherEnds, .ref a_bracket_tally, .ref a_bracket_coefficients, .ref a_bracket_product, .int i_bracket_prepared]))]) S hK hP hD hS hA hN (mX2_copyFrom l D cyI cyZ H.size a_draft a_diagram a_draft_arcs a_diagram_arcs i_draft_crossings i_draft_circles f_draft_arcs i_diagram_crossings i_diagram_circles f_diagram_arcs o_crossings_1 o_circles_1 o_arcs_1 hc_1) (cwV 1 hts gX9_mirror_X2_copyFrom rfl rfl rfl (by decide +kernel) ⟨Nat.le_of_ble_eq_true rfl, Nat.le_of_ble_eq_true rfl⟩) 2 3 rfl rfl [3, 4, 1, 2] [0, 5, 6, 7, 8] [0, 7, 8, 5, 6, 1, 2, 3, 4] rfl rfl rfl rfl (by decide) rfl rfl hl.1 (Nat.le_of_ble_eq_true rfl) dX9_mirror_21 ⟨Nat.le_of_ble_eq_true rfl, Nat.le_of_ble_eq_true rfl⟩ (fun H locs hP hD hS => ?_)
    refine lv_aload_n hx hb dX9_mirror_24 rfl (lv_at hl 0 rfl) ?_
    refine va_get (D := D) (ci := 6) (v := .ref a_draft) (C := RX9) (T := TX9) (N := 9) hx hb hts qX9_mirror_X9 hown hK hP 0 rfl rfl 3 (Nat.le_of_ble_eq_true rfl) (hts (.fieldLink RX9 30 "KnotDiagram" "draft" "LKnotDiagram$Diagram;") qX9_mirror_2) (fun _ h9 => h9) rfl dX9_mirror_25 ?_
    refine va_get (D := D) (ci := 2) (v := .int o_crossings_1) (C := RX2) (T := TX2) (N := 3) hx hb hts qX9_mirror_X2 hown hK hP 3 rfl rfl 0 (Nat.le_of_ble_eq_true rfl) (hts (.fieldLink RX9 74 "KnotDiagram$Diagram" "crossings" "I") qX9_mirror_1) (fun _ h9 => h9) rfl dX9_mirror_28 ?_
    refine lv_istore_n (lv' := [(1, .int o_crossings_1), (0, .ref a_this)]) hx hb dX9_mirror_31 rfl hl (by decide) rfl (fun ls hl => ?_)
    refine lv_iconst (v := 0) hx hb dX9_mirror_32 (by decide) ?_
    refine lv_istore_n (lv' := [(2, .int 0), (1, .int o_crossings_1), (0, .ref a_this)]) hx hb dX9_mirror_33 rfl hl (by decide) rfl (fun ls hl => ?_)
    have hL_1 : ∀ (n : Nat) (v2_1 : Int32) (f_draft_arcs_1 : Nat → Int32) (H : Heap) (locs : List Loc) (ls : Array Slot), it2 (kX9_mirror_L1 o_crossings_1 i_savedStates i_newestPlace i_diagram_crossings i_diagram_circles f_diagram_arcs o_circles_1 f_shelf_cells f_shelf_filled i_bracket_prepared) n v2_1 f_draft_arcs_1 = some (r, o_savedStates, o_newestPlace, o_diagram_crossings, o_diagram_circles, o_diagram_arcs, o_draft_crossings, o_draft_circles, o_draft_arcs, o_shelf_cells, o_shelf_filled, o_bracket_prepared) → va_P D vwCl [(a_this, .inr (6, [.ref a_text, .ref a_reader, .ref a_diagram, .ref a_draft, .ref a_shelf, .ref a_bracket, .ref a_colouring, .int i_savedStates, .int i_newestPlace])), (a_diagram, .inr (2, [.int i_diagram_crossings, .int i_diagram_circles, .ref a_diagram_arcs])), (a_diagram_arcs, .inl (cyI, 32, .inl f_diagram_arcs)), (a_draft, .inr (2, [.int o_crossings_1, .int o_circles_1, .ref a_draft_arcs])), (a_draft_arcs, .inl (cyI, 32, .inl f_draft_arcs_1)), (a_shelf, .inr (4, [.ref a_shelf_cells, .ref a_shelf_filled])), (a_shelf_cells, .inl (cyI, 340, .inl f_shelf_cells)), (a_shelf_filled, .inl (cyZ, 10, .inl f_shelf_filled)), (a_bracket, .inr (0, [.ref a_bracket_otherEnds, .ref a_bracket_tally, .ref a_bracket_coefficients, .ref a_bracket_product, .int i_bracket_prepared]))] H → va_D A [(a_this, .inr (6, [.ref a_text, .ref a_reader, .ref a_diagram, .ref a_draft, .ref a_shelf, .ref a_bracket, .ref a_colouring, .int i_savedStates, .int i_newestPlace])), (a_diagram, .inr (2, [.int i_diagram_crossings, .int i_diagram_circles, .ref a_diagram_arcs])), (a_diagram_arcs, .inl (cyI, 32, .inl f_diagram_arcs)), (a_draft, .inr (2, [.int o_crossings_1, .int o_circles_1, .ref a_draft_arcs])), (a_draft_arcs, .inl (cyI, 32, .inl f_draft_arcs_1)), (a_shelf, .inr (4, [.ref a_shelf_cells, .ref a_shelf_filled])), (a_shelf_cells, .inl (cyI, 340, .inl f_shelf_cells)), (a_shelf_filled, .inl (cyZ, 10, .inl f_shelf_filled)), (a_bracket, .inr (0, [.ref a_bracket_otherEnds, .ref a_bracket_tally, .ref a_bracket_coefficients, .ref a_bracket_product, .int i_bracket_prepared]))] → va_S A s.heap H locs → lv_has ls 3 [(0, .ref a_this), (1, .int o_crossings_1), (2, .int v2_1)] → W p l e (headSpec wsX9_mirror rmX9_mirror).room s m (([.ref a_this] : List Value).toArray) below meth c H locs 0 0 (MQ below (kQi D cyI cyZ A [(a_this, .inr (6, [.ref a_text, .ref a_reader, .ref a_diagram, .ref a_draft, .ref a_shelf, .ref a_bracket, .ref a_colouring, .int o_savedStates, .int o_newestPlace])), (a_diagram, .inr (2, [.int o_diagram_crossings, .int o_diagram_circles, .ref a_diagram_arcs])), (a_diagram_arcs, .inl (cyI, 32, .inl o_diagram_arcs)), (a_draft, .inr (2, [.int o_draft_crossings, .int o_draft_circles, .ref a_draft_arcs])), (a_draft_arcs, .inl (cyI, 32, .inl o_draft_arcs)), (a_shelf, .inr (4, [.ref a_shelf_cells, .ref a_shelf_filled])), (a_shelf_cells, .inl (cyI, 340, .inl o_shelf_cells)), (a_shelf_filled, .inl (cyZ, 10, .inl o_shelf_filled)), (a_bracket, .inr (0, [.ref a_bracket_otherEnds, .ref a_bracket_tally, .ref a_bracket_coefficients, .ref a_bracket_product, .int o_bracket_prepared]))] r) (([.ref a_this] : List Value).toArray) s 0 0 A) (F0 m 34 ls []) := by
      intro n_1
      induction n_1 with
      | zero =>
        intro _ _ _ _ _ hf
        exact (it2_z hf).elim
      | succ n_1 ih_1 =>
        intro v2_1 f_draft_arcs_1 H locs ls hf hP hD hS hl
        replace hf := it2_s hf
        rw [kX9_mirror_L1] at hf
        refine lv_iload_n hx hb dX9_mirror_34 rfl (lv_at hl 2 rfl) ?_
        refine lv_iload_n hx hb dX9_mirror_35 rfl (lv_at hl 1 rfl) ?_
        refine lv_icmp_ge (tgt := 53) hx hb dX9_mirror_36 (by decide) (fun c_5 => ?_) (fun c_5 => ?_)
        · replace hf := kt_p hf c_5
          refine lv_aload_n hx hb dX9_mirror_53 rfl (lv_at hl 0 rfl) ?_
          obtain ⟨o_savedStates_2, o_newestPlace_2, o_diagram_crossings_2, o_diagram_circles_2, o_diagram_arcs_2, o_shelf_cells_2, o_shelf_filled_2, o_bracket_prepared_2, hc_2, hf⟩ := bnd8_s hf
          refine kcVv (As := []) (rest := []) (w2 := [(a_this, .inr (6, [.ref a_text, .ref a_reader, .ref a_diagram, .ref a_draft, .ref a_shelf, .ref a_bracket, .ref a_colouring, .int o_savedStates_2, .int o_newestPlace_2])), (a_diagram, .inr (2, [.int o_diagram_crossings_2, .int o_diagram_circles_2, .ref a_diagram_arcs])), (a_diagram_arcs, .inl (cyI, 32, .inl o_diagram_arcs_2)), (a_draft, .inr (2, [.int o_crossings_1, .int o_circles_1, .ref a_draft_arcs])), (a_draft_arcs, .inl (cyI, 32, .inl f_draft_arcs_1)), (a_shelf, .inr (4, [.ref a_shelf_cells, .ref a_shelf_filled])), (a_shelf_cells, .inl (cyI, 340, .inl o_shelf_cells_2)), (a_shelf_filled, .inl (cyZ, 10, .inl o_shelf_filled_2)), (a_bracket, .inr (0, [.ref a_bracket_otherEnds, .ref a_bracket_tally, .ref a_bracket_coefficients, .ref a_bracket_product, .int o_bracket_prepared_2]))]) S hK hP hD hS hA hN (mX9_becomeDraft l D cyI cyZ H.size a_this a_text a_reader a_diagram a_draft a_shelf a_bracket a_colouring a_diagram_arcs a_draft_arcs a_shelf_cells a_shelf_filled a_bracket_otherEnds a_bracket_tally a_bracket_coefficients a_bracket_product i_savedStates i_newestPlace i_diagram_crossings i_diagram_circles f_diagram_arcs o_crossings_1 o_circles_1 f_draft_arcs_1 f_shelf_cells f_shelf_filled i_bracket_prepared o_savedStates_2 o_newestPlace_2 o_diagram_crossings_2 o_diagram_circles_2 o_diagram_arcs_2 o_shelf_cells_2 o_shelf_filled_2 o_bracket_prepared_2 hc_2) (cwV 0 hts gX9_mirror_X9_becomeDraft rfl rfl rfl (by decide +kernel) ⟨Nat.le_of_ble_eq_true rfl, Nat.le_of_ble_eq_true rfl⟩) 6 0 rfl rfl [0, 1, 2, 3, 4, 5, 6, 7, 8] [] [0, 1, 2, 3, 4, 5, 6, 7, 8] rfl rfl rfl rfl (by decide) rfl rfl hl.1 (Nat.le_of_ble_eq_true rfl) dX9_mirror_54 ⟨Nat.le_of_ble_eq_true rfl, Nat.le_of_ble_eq_true rfl⟩ (fun H locs hP hD hS => ?_)
          refine lv_aload_n hx hb dX9_mirror_57 rfl (lv_at hl 0 rfl) ?_
          refine va_get (D := D) (ci := 6) (v := .ref a_diagram) (C := RX9) (T := TX9) (N := 9) hx hb hts qX9_mirror_X9 hown hK hP 0 rfl rfl 2 (Nat.le_of_ble_eq_true rfl) (hts (.fieldLink RX9 26 "KnotDiagram" "diagram" "LKnotDiagram$Diagram;") qX9_mirror_0) (fun _ h9 => h9) rfl dX9_mirror_58 ?_
          obtain ⟨r_3, hc_3, hf⟩ := bnd1_s hf
          refine kcSi (As := [.ref a_diagram]) (rest := []) (w2 := [(a_this, .inr (6, [.ref a_text, .ref a_reader, .ref a_diagram, .ref a_draft, .ref a_shelf, .ref a_bracket, .ref a_colouring, .int o_savedStates_2, .int o_newestPlace_2])), (a_diagram, .inr (2, [.int o_diagram_crossings_2, .int o_diagram_circles_2, .ref a_diagram_arcs])), (a_diagram_arcs, .inl (cyI, 32, .inl o_diagram_arcs_2)), (a_draft, .inr (2, [.int o_crossings_1, .int o_circles_1, .ref a_draft_arcs])), (a_draft_arcs, .inl (cyI, 32, .inl f_draft_arcs_1)), (a_shelf, .inr (4, [.ref a_shelf_cells, .ref a_shelf_filled])), (a_shelf_cells, .inl (cyI, 340, .inl o_shelf_cells_2)), (a_shelf_filled, .inl (cyZ, 10, .inl o_shelf_filled_2)), (a_bracket, .inr (0, [.ref a_bracket_otherEnds, .ref a_bracket_tally, .ref a_bracket_coefficients, .ref a_bracket_product, .int o_bracket_prepared_2]))]) S hK hP hD hS hA hN (mX7_signSum l D cyI cyZ H.size a_diagram a_diagram_arcs o_diagram_crossings_2 o_diagram_circles_2 o_diagram_arcs_2 r_3 hc_3) (va_cwS 1 hts gX9_mirror_X7_signSum rfl rfl rfl (by decide +kernel) ⟨Nat.le_of_ble_eq_true rfl, Nat.le_of_ble_eq_true rfl⟩) [1, 2] [0, 3, 4, 5, 6, 7, 8] [0, 7, 8, 1, 2, 3, 4, 5, 6] rfl rfl rfl rfl (by decide) rfl rfl hl.1 (Nat.le_of_ble_eq_true rfl) dX9_mirror_61 ⟨Nat.le_of_ble_eq_true rfl, Nat.le_of_ble_eq_true rfl⟩ (fun H locs hP hD hS => ?_)
          obtain ⟨rfl, rfl, rfl, rfl, rfl, rfl, rfl, rfl, rfl, rfl, rfl, rfl⟩ := some12_s hf
          exact kRi hx hb hr hlocks hP hK hD hS rfl dX9_mirror_64
        · replace hf := kt_n hf c_5
          refine lv_aload_n hx hb dX9_mirror_39 rfl (lv_at hl 0 rfl) ?_
          refine va_get (D := D) (ci := 6) (v := .ref a_draft) (C := RX9) (T := TX9) (N := 9) hx hb hts qX9_mirror_X9 hown hK hP 0 rfl rfl 3 (Nat.le_of_ble_eq_true rfl) (hts (.fieldLink RX9 30 "KnotDiagram" "draft" "LKnotDiagram$Diagram;") qX9_mirror_2) (fun _ h9 => h9) rfl dX9_mirror_40 ?_
          refine lv_iload_n hx hb dX9_mirror_43 rfl (lv_at hl 2 rfl) ?_
          obtain ⟨o_arcs_4, hc_4, hf⟩ := bnd1_s hf
          refine kcVv (As := [.int v2_1]) (rest := []) (w2 := [(a_this, .inr (6, [.ref a_text, .ref a_reader, .ref a_diagram, .ref a_draft, .ref a_shelf, .ref a_bracket, .ref a_colouring, .int i_savedStates, .int i_newestPlace])), (a_diagram, .inr (2, [.int i_diagram_crossings, .int i_diagram_circles, .ref a_diagram_arcs])), (a_diagram_arcs, .inl (cyI, 32, .inl f_diagram_arcs)), (a_draft, .inr (2, [.int o_crossings_1, .int o_circles_1, .ref a_draft_arcs])), (a_draft_arcs, .inl (cyI, 32, .inl o_arcs_4)), (a_shelf, .inr (4, [.ref a_shelf_cells, .ref a_shelf_filled])), (a_shelf_cells, .inl (cyI, 340, .inl f_shelf_cells)), (a_shelf_filled, .inl (cyZ, 10, .inl f_shelf_filled)), (a_bracket, .inr (0, [.ref a_bracket_otherEnds, .ref a_bracket_tally, .ref a_bracket_coefficients, .ref a_bracket_product, .int i_bracket_prepared]))]) S hK hP hD hS hA hN (mX2_exchangeStrands l D cyI cyZ H.size a_draft a_draft_arcs v2_1 o_crossings_1 o_circles_1 f_draft_arcs_1 o_arcs_4 hc_4) (cwV 1 hts gX9_mirror_X2_exchangeStrands rfl rfl rfl (by decide +kernel) ⟨Nat.le_of_ble_eq_true rfl, Nat.le_of_ble_eq_true rfl⟩) 2 3 rfl rfl [3, 4] [0, 1, 2, 5, 6, 7, 8] [0, 1, 2, 7, 8, 3, 4, 5, 6] rfl rfl rfl rfl (by decide) rfl rfl hl.1 (Nat.le_of_ble_eq_true rfl) dX9_mirror_44 ⟨Nat.le_of_ble_eq_true rfl, Nat.le_of_ble_eq_true rfl⟩ (fun H locs hP hD hS => ?_)
          refine lv_iinc (v := (v2_1 + 1)) (lv' := [(2, .int (v2_1 + 1)), (0, .ref a_this), (1, .int o_crossings_1)]) hx hb dX9_mirror_47 hl (k := 2) rfl rfl (by decide) rfl (fun ls hl => ?_)
          refine lv_goto (tgt := 34) hx hb dX9_mirror_50 (by decide) ?_
          exact ih_1 (v2_1 + 1) o_arcs_4 H locs ls hf hP hD hS (lv_sub hl [1, 2, 0] rfl)
    exact hL_1 400 0 o_arcs_1 H locs ls hf hP hD hS (lv_sub hl [2, 1, 0] rfl)
  · replace hf := kt_p hf c_6
    refine lv_ldc (v := (-1000002)) hx hb hown (hts (.constant RX9 102 (-1000002)) qX9_mirror_3) dX9_mirror_10 ?_
    obtain ⟨rfl, rfl, rfl, rfl, rfl, rfl, rfl, rfl, rfl, rfl, rfl, rfl⟩ := some12_s hf
    exact kRi hx hb hr hlocks hP hK hD hS rfl dX9_mirror_12
def kX9_finishRemoval (i_savedStates : Int32) (i_newestPlace : Int32) (i_diagram_crossings : Int32) (i_diagram_circles : Int32) (f_diagram_arcs : Nat → Int32) (i_draft_crossings : Int32) (i_draft_circles : Int32) (f_draft_arcs : Nat → Int32) (f_shelf_cells : Nat → Int32) (f_shelf_filled : Nat → Int32) (i_bracket_prepared : Int32) : Option (Int32 × Int32 × Int32 × Int32 × Int32 × (Nat → Int32) × (Nat → Int32) × (Nat → Int32) × Int32) :=
  if i_draft_circles ≤ 4 then bnd8 (kX9_becomeDraft i_savedStates i_newestPlace i_diagram_crossings i_diagram_circles f_diagram_arcs i_draft_crossings i_draft_circles f_draft_arcs f_shelf_cells f_shelf_filled i_bracket_prepared) (fun o_savedStates_1 o_newestPlace_1 o_diagram_crossings_1 o_diagram_circles_1 o_diagram_arcs_1 o_shelf_cells_1 o_shelf_filled_1 o_bracket_prepared_1 => some (o_diagram_crossings_1, o_savedStates_1, o_newestPlace_1, o_diagram_crossings_1, o_diagram_circles_1, o_diagram_arcs_1, o_shelf_cells_1, o_shelf_filled_1, o_bracket_prepared_1)) else some ((-1000003), i_savedStates, i_newestPlace, i_diagram_crossings, i_diagram_circles, f_diagram_arcs, f_shelf_cells, f_shelf_filled, i_bracket_prepared)
def rmX9_finishRemoval : Room := { frames := 3, cells := 0, slots := 0, locals := 65 }
theorem qX9_finishRemoval_0 : (.fieldLink RX9 30 "KnotDiagram" "draft" "LKnotDiagram$Diagram;" : Cond) ∈ wsX9_finishRemoval := by decide +kernel
theorem qX9_finishRemoval_1 : (.fieldLink RX9 54 "KnotDiagram$Diagram" "circles" "I" : Cond) ∈ wsX9_finishRemoval := by decide +kernel
theorem qX9_finishRemoval_2 : (.fieldLink RX9 26 "KnotDiagram" "diagram" "LKnotDiagram$Diagram;" : Cond) ∈ wsX9_finishRemoval := by decide +kernel
theorem qX9_finishRemoval_3 : (.fieldLink RX9 74 "KnotDiagram$Diagram" "crossings" "I" : Cond) ∈ wsX9_finishRemoval := by decide +kernel
theorem qX9_finishRemoval_4 : (.constant RX9 62 (-1000003) : Cond) ∈ wsX9_finishRemoval := by decide +kernel
theorem qX9_finishRemoval_X9 : ∀ w ∈ wsX90, w ∈ wsX9_finishRemoval := by decide +kernel
theorem qX9_finishRemoval_X2 : ∀ w ∈ wsX20, w ∈ wsX9_finishRemoval := by decide +kernel
set_option maxHeartbeats 4000000 in
set_option maxRecDepth 100000 in
theorem mX9_finishRemoval (l : Launch) (D : va_G) (cyI cyZ : ClassId) (sz : Nat) (a_this a_text a_reader a_diagram a_draft a_shelf a_bracket a_colouring a_diagram_arcs a_draft_arcs a_shelf_cells a_shelf_filled a_bracket_otherEnds a_bracket_tally a_bracket_coefficients a_bracket_product : Nat) (i_savedStates : Int32) (i_newestPlace : Int32) (i_diagram_crossings : Int32) (i_diagram_circles : Int32) (f_diagram_arcs : Nat → Int32) (i_draft_crossings : Int32) (i_draft_circles : Int32) (f_draft_arcs : Nat → Int32) (f_shelf_cells : Nat → Int32) (f_shelf_filled : Nat → Int32) (i_bracket_prepared : Int32) (r : Int32) (o_savedStates : Int32) (o_newestPlace : Int32) (o_diagram_crossings : Int32) (o_diagram_circles : Int32) (o_diagram_arcs : Nat → Int32) (o_shelf_cells : Nat → Int32) (o_shelf_filled : Nat → Int32) (o_bracket_prepared : Int32) (hf : kX9_finishRemoval i_savedStates i_newestPlace i_diagram_crossings i_diagram_circles f_diagram_arcs i_draft_crossings i_draft_circles f_draft_arcs f_shelf_cells f_shelf_filled i_bracket_prepared = some (r, o_savedStates, o_newestPlace, o_diagram_crossings, o_diagram_circles, o_diagram_arcs, o_shelf_cells, o_shelf_filled, o_bracket_prepared)) : Met l yX9_finishRemoval wsX9_finishRemoval rmX9_finishRemoval (kPre D cyI cyZ [.ref a_this] [(a_this, .inr (6, [.ref a_text, .ref a_reader, .ref a_diagram, .ref a_draft, .ref a_shelf, .ref a_bracket, .ref a_colouring, .int i_savedStates, .int i_newestPlace])), (a_diagram, .inr (2, [.int i_diagram_crossings, .int i_diagram_circles, .ref a_diagram_arcs])), (a_diagram_arcs, .inl (cyI, 32, .inl f_diagram_arcs)), (a_draft, .inr (2, [.int i_draft_crossings, .int i_draft_circles, .ref a_draft_arcs])), (a_draft_arcs, .inl (cyI, 32, .inl f_draft_arcs)), (a_shelf, .inr (4, [.ref a_shelf_cells, .ref a_shelf_filled])), (a_shelf_cells, .inl (cyI, 340, .inl f_shelf_cells)), (a_shelf_filled, .inl (cyZ, 10, .inl f_shelf_filled)), (a_bracket, .inr (0, [.ref a_bracket_otherEnds, .ref a_bracket_tally, .ref a_bracket_coefficients, .ref a_bracket_product, .int i_bracket_prepared]))] sz) (kQi D cyI cyZ (va_A [(a_this, .inr (6, [.ref a_text, .ref a_reader, .ref a_diagram, .ref a_draft, .ref a_shelf, .ref a_bracket, .ref a_colouring, .int i_savedStates, .int i_newestPlace])), (a_diagram, .inr (2, [.int i_diagram_crossings, .int i_diagram_circles, .ref a_diagram_arcs])), (a_diagram_arcs, .inl (cyI, 32, .inl f_diagram_arcs)), (a_draft, .inr (2, [.int i_draft_crossings, .int i_draft_circles, .ref a_draft_arcs])), (a_draft_arcs, .inl (cyI, 32, .inl f_draft_arcs)), (a_shelf, .inr (4, [.ref a_shelf_cells, .ref a_shelf_filled])), (a_shelf_cells, .inl (cyI, 340, .inl f_shelf_cells)), (a_shelf_filled, .inl (cyZ, 10, .inl f_shelf_filled)), (a_bracket, .inr (0, [.ref a_bracket_otherEnds, .ref a_bracket_tally, .ref a_bracket_coefficients, .ref a_bracket_product, .int i_bracket_prepared]))] sz) [(a_this, .inr (6, [.ref a_text, .ref a_reader, .ref a_diagram, .ref a_draft, .ref a_shelf, .ref a_bracket, .ref a_colouring, .int o_savedStates, .int o_newestPlace])), (a_diagram, .inr (2, [.int o_diagram_crossings, .int o_diagram_circles, .ref a_diagram_arcs])), (a_diagram_arcs, .inl (cyI, 32, .inl o_diagram_arcs)), (a_draft, .inr (2, [.int i_draft_crossings, .int i_draft_circles, .ref a_draft_arcs])), (a_draft_arcs, .inl (cyI, 32, .inl f_draft_arcs)), (a_shelf, .inr (4, [.ref a_shelf_cells, .ref a_shelf_filled])), (a_shelf_cells, .inl (cyI, 340, .inl o_shelf_cells)), (a_shelf_filled, .inl (cyZ, 10, .inl o_shelf_filled)), (a_bracket, .inr (0, [.ref a_bracket_otherEnds, .ref a_bracket_tally, .ref a_bracket_coefficients, .ref a_bracket_product, .int o_bracket_prepared]))] r) 0 0 (va_A [(a_this, .inr (6, [.ref a_text, .ref a_reader, .ref a_diagram, .ref a_draft, .ref a_shelf, .ref a_bracket, .ref a_colouring, .int i_savedStates, .int i_newestPlace])), (a_diagram, .inr (2, [.int i_diagram_crossings, .int i_diagram_circles, .ref a_diagram_arcs])), (a_diagram_arcs, .inl (cyI, 32, .inl f_diagram_arcs)), (a_draft, .inr (2, [.int i_draft_crossings, .int i_draft_circles, .ref a_draft_arcs])), (a_draft_arcs, .inl (cyI, 32, .inl f_draft_arcs)), (a_shelf, .inr (4, [.ref a_shelf_cells, .ref a_shelf_filled])), (a_shelf_cells, .inl (cyI, 340, .inl f_shelf_cells)), (a_shelf_filled, .inl (cyZ, 10, .inl f_shelf_filled)), (a_bracket, .inr (0, [.ref a_bracket_otherEnds, .ref a_bracket_tally, .ref a_bracket_coefficients, .ref a_bracket_product, .int i_bracket_prepared]))] sz) := by
  refine Met.ofW (cc := cX9_finishRemoval) (maxL := 1) (ret := (some .int)) (by decide) rfl ?_
  intro p e s m args below meth c s₁ B hml hv
  obtain ⟨rfl, hsz, hP, hK, hD0, hN⟩ := hv
  have hx := B.exec
  have hb := B.bytes
  have hr := B.returns
  have hts := atoms_spec (ws := wsX9_finishRemoval) B.pre
  have hown : s.vm.findClass RX9 = some m.cls := findClass_of_methodNamed B.named
  have hlocks := B.notSynchronized
  subst hsz
  have hD := hD0.self (sz := s.heap.size)
  generalize hAe : va_A [(a_this, .inr (6, [.ref a_text, .ref a_reader, .ref a_diagram, .ref a_draft, .ref a_shelf, .ref a_bracket, .ref a_colouring, .int i_savedStates, .int i_newestPlace])), (a_diagram, .inr (2, [.int i_diagram_crossings, .int i_diagram_circles, .ref a_diagram_arcs])), (a_diagram_arcs, .inl (cyI, 32, .inl f_diagram_arcs)), (a_draft, .inr (2, [.int i_draft_crossings, .int i_draft_circles, .ref a_draft_arcs])), (a_draft_arcs, .inl (cyI, 32, .inl f_draft_arcs)), (a_shelf, .inr (4, [.ref a_shelf_cells, .ref a_shelf_filled])), (a_shelf_cells, .inl (cyI, 340, .inl f_shelf_cells)), (a_shelf_filled, .inl (cyZ, 10, .inl f_shelf_filled)), (a_bracket, .inr (0, [.ref a_bracket_otherEnds, .ref a_bracket_tally, .ref a_bracket_coefficients, .ref a_bracket_product, .int i_bracket_prepared]))] s.heap.size = A at hD ⊢
  have hA : ∀ q : Nat, s.heap.size ≤ q → A q := fun q h => by rw [← hAe]; exact Or.inr h
  clear hAe hD0
  have hS : va_S A s.heap s.heap [] := va_S.rf
  have S : CallFix p m c cX9_finishRemoval 1 s (([.ref a_this] : List Value).toArray) wsX9_finishRemoval RX9 := ⟨hx, hb, hml, hown, hts⟩
  have hl := lv_entry ([.ref a_this]) (n := 1) (Nat.le_of_ble_eq_true rfl)
  rw [lg_entry_eq]
  generalize (lg_sl ([.ref a_this]) ++ List.replicate (1 - (lg_sl ([.ref a_this])).length) Slot.unset).toArray = ls at hl ⊢
  replace hl : lv_has ls 1 [(0, .ref a_this)] := hl
  generalize ([] : List Loc) = locs at hS ⊢
  delta kX9_finishRemoval at hf
  obtain ⟨H, hH⟩ : ∃ H, H = s.heap := ⟨_, rfl⟩
  have hS : va_S A s.heap H locs := by rw [hH]; exact hS
  have hP : va_P D vwCl [(a_this, .inr (6, [.ref a_text, .ref a_reader, .ref a_diagram, .ref a_draft, .ref a_shelf, .ref a_bracket, .ref a_colouring, .int i_savedStates, .int i_newestPlace])), (a_diagram, .inr (2, [.int i_diagram_crossings, .int i_diagram_circles, .ref a_diagram_arcs])), (a_diagram_arcs, .inl (cyI, 32, .inl f_diagram_arcs)), (a_draft, .inr (2, [.int i_draft_crossings, .int i_draft_circles, .ref a_draft_arcs])), (a_draft_arcs, .inl (cyI, 32, .inl f_draft_arcs)), (a_shelf, .inr (4, [.ref a_shelf_cells, .ref a_shelf_filled])), (a_shelf_cells, .inl (cyI, 340, .inl f_shelf_cells)), (a_shelf_filled, .inl (cyZ, 10, .inl f_shelf_filled)), (a_bracket, .inr (0, [.ref a_bracket_otherEnds, .ref a_bracket_tally, .ref a_bracket_coefficients, .ref a_bracket_product, .int i_bracket_prepared]))] H := by rw [hH]; exact hP
  suffices hgo : W p l e (headSpec wsX9_finishRemoval rmX9_finishRemoval).room s m (([.ref a_this] : List Value).toArray) below meth c H locs 0 0 (MQ below (kQi D cyI cyZ A [(a_this, .inr (6, [.ref a_text, .ref a_reader, .ref a_diagram, .ref a_draft, .ref a_shelf, .ref a_bracket, .ref a_colouring, .int o_savedStates, .int o_newestPlace])), (a_diagram, .inr (2, [.int o_diagram_crossings, .int o_diagram_circles, .ref a_diagram_arcs])), (a_diagram_arcs, .inl (cyI, 32, .inl o_diagram_arcs)), (a_draft, .inr (2, [.int i_draft_crossings, .int i_draft_circles, .ref a_draft_arcs])), (a_draft_arcs, .inl (cyI, 32, .inl f_draft_arcs)), (a_shelf, .inr (4, [.ref a_shelf_cells, .ref a_shelf_filled])), (a_shelf_cells, .inl (cyI, 340, .inl o_shelf_cells)), (a_shelf_filled, .inl (cyZ, 10, .inl o_shelf_filled)), (a_bracket, .inr (0, [.ref a_bracket_otherEnds, .ref a_bracket_tally, .ref a_bracket_coefficients, .ref a_bracket_product, .int o_bracket_prepared]))] r) (([.ref a_this] : List Value).toArray) s 0 0 A) (F0 m 0 ls []) by rw [hH] at hgo; exact hgo
  clear hH
  refine lv_aload_n hx hb dX9_finishRemoval_0 rfl (lv_at hl 0 rfl) ?_
  refine va_get (D := D) (ci := 6) (v := .ref a_draft) (C := RX9) (T := TX9) (N := 9) hx hb hts qX9_finishRemoval_X9 hown hK hP 0 rfl rfl 3 (Nat.le_of_ble_eq_true rfl) (hts (.fieldLink RX9 30 "KnotDiagram" "draft" "LKnotDiagram$Diagram;") qX9_finishRemoval_0) (fun _ h9 => h9) rfl dX9_finishRemoval_1 ?_
  refine va_get (D := D) (ci := 2) (v := .int i_draft_circles) (C := RX2) (T := TX2) (N := 3) hx hb hts qX9_finishRemoval_X2 hown hK hP 3 rfl rfl 1 (Nat.le_of_ble_eq_true rfl) (hts (.fieldLink RX9 54 "KnotDiagram$Diagram" "circles" "I") qX9_finishRemoval_1) (fun _ h9 => h9) rfl dX9_finishRemoval_4 ?_
  refine lv_iconst (v := 4) hx hb dX9_finishRemoval_7 (by decide) ?_
  refine lv_icmp_le (tgt := 14) hx hb dX9_finishRemoval_8 (by decide) (fun c_2 => ?_) (fun c_2 => ?_)
  · replace hf := kt_p hf c_2
    refine lv_aload_n hx hb dX9_finishRemoval_14 rfl (lv_at hl 0 rfl) ?_
    obtain ⟨o_savedStates_1, o_newestPlace_1, o_diagram_crossings_1, o_diagram_circles_1, o_diagram_arcs_1, o_shelf_cells_1, o_shelf_filled_1, o_bracket_prepared_1, hc_1, hf⟩ := bnd8_s hf
    refine kcVv (As := []) (rest := []) (w2 := [(a_this, .inr (6, [.ref a_text, .ref a_reader, .ref a_diagram, .ref a_draft, .ref a_shelf, .ref a_bracket, .ref a_colouring, .int o_savedStates_1, .int o_newestPlace_1])), (a_diagram, .inr (2, [.int o_diagram_crossings_1, .int o_diagram_circles_1, .ref a_diagram_arcs])), (a_diagram_arcs, .inl (cyI, 32, .inl o_diagram_arcs_1)), (a_draft, .inr (2, [.int i_draft_crossings, .int i_draft_circles, .ref a_draft_arcs])), (a_draft_arcs, .inl (cyI, 32, .inl f_draft_arcs)), (a_shelf, .inr (4, [.ref a_shelf_cells, .ref a_shelf_filled])), (a_shelf_cells, .inl (cyI, 340, .inl o_shelf_cells_1)), (a_shelf_filled, .inl (cyZ, 10, .inl o_shelf_filled_1)), (a_bracket, .inr (0, [.ref a_bracket_otherEnds, .ref a_bracket_tally, .ref a_bracket_coefficients, .ref a_bracket_product, .int o_bracket_prepared_1]))]) S hK hP hD hS hA hN (mX9_becomeDraft l D cyI cyZ H.size a_this a_text a_reader a_diagram a_draft a_shelf a_bracket a_colouring a_diagram_arcs a_draft_arcs a_shelf_cells a_shelf_filled a_bracket_otherEnds a_bracket_tally a_bracket_coefficients a_bracket_product i_savedStates i_newestPlace i_diagram_crossings i_diagram_circles f_diagram_arcs i_draft_crossings i_draft_circles f_draft_arcs f_shelf_cells f_shelf_filled i_bracket_prepared o_savedStates_1 o_newestPlace_1 o_diagram_crossings_1 o_diagram_circles_1 o_diagram_arcs_1 o_shelf_cells_1 o_shelf_filled_1 o_bracket_prepared_1 hc_1) (cwV 0 hts gX9_finishRemoval_X9_becomeDraft rfl rfl rfl (by decide +kernel) ⟨Nat.le_of_ble_eq_true rfl, Nat.le_of_ble_eq_true rfl⟩) 6 0 rfl rfl [0, 1, 2, 3, 4, 5, 6, 7, 8] [] [0, 1, 2, 3, 4, 5, 6, 7, 8] rfl rfl rfl rfl (by decide) rfl rfl hl.1 (Nat.le_of_ble_eq_true rfl) dX9_finishRemoval_15 ⟨Nat.le_of_ble_eq_true rfl, Nat.le_of_ble_eq_true rfl⟩ (fun H locs hP hD hS => ?_)
    refine lv_aload_n hx hb dX9_finishRemoval_18 rfl (lv_at hl 0 rfl) ?_
    refine va_get (D := D) (ci := 6) (v := .ref a_diagram) (C := RX9) (T := TX9) (N := 9) hx hb hts qX9_finishRemoval_X9 hown hK hP 0 rfl rfl 2 (Nat.le_of_ble_eq_true rfl) (hts (.fieldLink RX9 26 "KnotDiagram" "diagram" "LKnotDiagram$Diagram;") qX9_finishRemoval_2) (fun _ h9 => h9) rfl dX9_finishRemoval_19 ?_
    refine va_get (D := D) (ci := 2) (v := .int o_diagram_crossings_1) (C := RX2) (T := TX2) (N := 3) hx hb hts qX9_finishRemoval_X2 hown hK hP 1 rfl rfl 0 (Nat.le_of_ble_eq_true rfl) (hts (.fieldLink RX9 74 "KnotDiagram$Diagram" "crossings" "I") qX9_finishRemoval_3) (fun _ h9 => h9) rfl dX9_finishRemoval_22 ?_
    obtain ⟨rfl, rfl, rfl, rfl, rfl, rfl, rfl, rfl, rfl⟩ := some9_s hf
    exact kRi hx hb hr hlocks hP hK hD hS rfl dX9_finishRemoval_25
  · replace hf := kt_n hf c_2
    refine lv_ldc (v := (-1000003)) hx hb hown (hts (.constant RX9 62 (-1000003)) qX9_finishRemoval_4) dX9_finishRemoval_11 ?_
    obtain ⟨rfl, rfl, rfl, rfl, rfl, rfl, rfl, rfl, rfl⟩ := some9_s hf
    exact kRi hx hb hr hlocks hP hK hD hS rfl dX9_finishRemoval_13
def kX9_removeKink (v1 : Int32) (i_savedStates : Int32) (i_newestPlace : Int32) (i_diagram_crossings : Int32) (i_diagram_circles : Int32) (f_diagram_arcs : Nat → Int32) (i_draft_crossings : Int32) (i_draft_circles : Int32) (f_draft_arcs : Nat → Int32) (f_shelf_cells : Nat → Int32) (f_shelf_filled : Nat → Int32) (i_bracket_prepared : Int32) : Option (Int32 × Int32 × Int32 × Int32 × Int32 × (Nat → Int32) × Int32 × Int32 × (Nat → Int32) × (Nat → Int32) × (Nat → Int32) × Int32) :=
  bnd1 (kX2_hasCrossing v1 i_diagram_crossings) (fun r_1 => if r_1 = 0 then some ((-1000001), i_savedStates, i_newestPlace, i_diagram_crossings, i_diagram_circles, f_diagram_arcs, i_draft_crossings, i_draft_circles, f_draft_arcs, f_shelf_cells, f_shelf_filled, i_bracket_prepared) else bnd1 (kX3_kinkEnd v1 f_diagram_arcs) (fun r_2 => if 0 ≤ r_2 then bnd3 (kX2_copyFrom i_draft_crossings i_draft_circles f_draft_arcs i_diagram_crossings i_diagram_circles f_diagram_arcs) (fun o_crossings_3 o_circles_3 o_arcs_3 => bnd3 (kX3_dissolveKink v1 r_2 o_crossings_3 o_circles_3 o_arcs_3) (fun o_p0_crossings_4 o_p0_circles_4 o_p0_arcs_4 => bnd9 (kX9_finishRemoval i_savedStates i_newestPlace i_diagram_crossings i_diagram_circles f_diagram_arcs o_p0_crossings_4 o_p0_circles_4 o_p0_arcs_4 f_shelf_cells f_shelf_filled i_bracket_prepared) (fun r_5 o_savedStates_5 o_newestPlace_5 o_diagram_crossings_5 o_diagram_circles_5 o_diagram_arcs_5 o_shelf_cells_5 o_shelf_filled_5 o_bracket_prepared_5 => some (r_5, o_savedStates_5, o_newestPlace_5, o_diagram_crossings_5, o_diagram_circles_5, o_diagram_arcs_5, o_p0_crossings_4, o_p0_circles_4, o_p0_arcs_4, o_shelf_cells_5, o_shelf_filled_5, o_bracket_prepared_5)))) else some ((-1000002), i_savedStates, i_newestPlace, i_diagram_crossings, i_diagram_circles, f_diagram_arcs, i_draft_crossings, i_draft_circles, f_draft_arcs, f_shelf_cells, f_shelf_filled, i_bracket_prepared)))
def rmX9_removeKink : Room := { frames := 4, cells := 0, slots := 0, locals := 85 }
theorem qX9_removeKink_0 : (.fieldLink RX9 26 "KnotDiagram" "diagram" "LKnotDiagram$Diagram;" : Cond) ∈ wsX9_removeKink := by decide +kernel
theorem qX9_removeKink_1 : (.fieldLink RX9 30 "KnotDiagram" "draft" "LKnotDiagram$Diagram;" : Cond) ∈ wsX9_removeKink := by decide +kernel
theorem qX9_removeKink_2 : (.constant RX9 102 (-1000002) : Cond) ∈ wsX9_removeKink := by decide +kernel
theorem qX9_removeKink_3 : (.constant RX9 58 (-1000001) : Cond) ∈ wsX9_removeKink := by decide +kernel
theorem qX9_removeKink_X9 : ∀ w ∈ wsX90, w ∈ wsX9_removeKink := by decide +kernel
set_option maxHeartbeats 4000000 in
set_option maxRecDepth 100000 in
theorem mX9_removeKink (l : Launch) (D : va_G) (cyI cyZ : ClassId) (sz : Nat) (a_this a_text a_reader a_diagram a_draft a_shelf a_bracket a_colouring a_diagram_arcs a_draft_arcs a_shelf_cells a_shelf_filled a_bracket_otherEnds a_bracket_tally a_bracket_coefficients a_bracket_product : Nat) (v1 : Int32) (i_savedStates : Int32) (i_newestPlace : Int32) (i_diagram_crossings : Int32) (i_diagram_circles : Int32) (f_diagram_arcs : Nat → Int32) (i_draft_crossings : Int32) (i_draft_circles : Int32) (f_draft_arcs : Nat → Int32) (f_shelf_cells : Nat → Int32) (f_shelf_filled : Nat → Int32) (i_bracket_prepared : Int32) (r : Int32) (o_savedStates : Int32) (o_newestPlace : Int32) (o_diagram_crossings : Int32) (o_diagram_circles : Int32) (o_diagram_arcs : Nat → Int32) (o_draft_crossings : Int32) (o_draft_circles : Int32) (o_draft_arcs : Nat → Int32) (o_shelf_cells : Nat → Int32) (o_shelf_filled : Nat → Int32) (o_bracket_prepared : Int32) (hf : kX9_removeKink v1 i_savedStates i_newestPlace i_diagram_crossings i_diagram_circles f_diagram_arcs i_draft_crossings i_draft_circles f_draft_arcs f_shelf_cells f_shelf_filled i_bracket_prepared = some (r, o_savedStates, o_newestPlace, o_diagram_crossings, o_diagram_circles, o_diagram_arcs, o_draft_crossings, o_draft_circles, o_draft_arcs, o_shelf_cells, o_shelf_filled, o_bracket_prepared)) : Met l yX9_removeKink wsX9_removeKink rmX9_removeKink (kPre D cyI cyZ [.ref a_this, .int v1] [(a_this, .inr (6, [.ref a_text, .ref a_reader, .ref a_diagram, .ref a_draft, .ref a_shelf, .ref a_bracket, .ref a_colouring, .int i_savedStates, .int i_newestPlace])), (a_diagram, .inr (2, [.int i_diagram_crossings, .int i_diagram_circles, .ref a_diagram_arcs])), (a_diagram_arcs, .inl (cyI, 32, .inl f_diagram_arcs)), (a_draft, .inr (2, [.int i_draft_crossings, .int i_draft_circles, .ref a_draft_arcs])), (a_draft_arcs, .inl (cyI, 32, .inl f_draft_arcs)), (a_shelf, .inr (4, [.ref a_shelf_cells, .ref a_shelf_filled])), (a_shelf_cells, .inl (cyI, 340, .inl f_shelf_cells)), (a_shelf_filled, .inl (cyZ, 10, .inl f_shelf_filled)), (a_bracket, .inr (0, [.ref a_bracket_otherEnds, .ref a_bracket_tally, .ref a_bracket_coefficients, .ref a_bracket_product, .int i_bracket_prepared]))] sz) (kQi D cyI cyZ (va_A [(a_this, .inr (6, [.ref a_text, .ref a_reader, .ref a_diagram, .ref a_draft, .ref a_shelf, .ref a_bracket, .ref a_colouring, .int i_savedStates, .int i_newestPlace])), (a_diagram, .inr (2, [.int i_diagram_crossings, .int i_diagram_circles, .ref a_diagram_arcs])), (a_diagram_arcs, .inl (cyI, 32, .inl f_diagram_arcs)), (a_draft, .inr (2, [.int i_draft_crossings, .int i_draft_circles, .ref a_draft_arcs])), (a_draft_arcs, .inl (cyI, 32, .inl f_draft_arcs)), (a_shelf, .inr (4, [.ref a_shelf_cells, .ref a_shelf_filled])), (a_shelf_cells, .inl (cyI, 340, .inl f_shelf_cells)), (a_shelf_filled, .inl (cyZ, 10, .inl f_shelf_filled)), (a_bracket, .inr (0, [.ref a_bracket_otherEnds, .ref a_bracket_tally, .ref a_bracket_coefficients, .ref a_bracket_product, .int i_bracket_prepared]))] sz) [(a_this, .inr (6, [.ref a_text, .ref a_reader, .ref a_diagram, .ref a_draft, .ref a_shelf, .ref a_bracket, .ref a_colouring, .int o_savedStates, .int o_newestPlace])), (a_diagram, .inr (2, [.int o_diagram_crossings, .int o_diagram_circles, .ref a_diagram_arcs])), (a_diagram_arcs, .inl (cyI, 32, .inl o_diagram_arcs)), (a_draft, .inr (2, [.int o_draft_crossings, .int o_draft_circles, .ref a_draft_arcs])), (a_draft_arcs, .inl (cyI, 32, .inl o_draft_arcs)), (a_shelf, .inr (4, [.ref a_shelf_cells, .ref a_shelf_filled])), (a_shelf_cells, .inl (cyI, 340, .inl o_shelf_cells)), (a_shelf_filled, .inl (cyZ, 10, .inl o_shelf_filled)), (a_bracket, .inr (0, [.ref a_bracket_otherEnds, .ref a_bracket_tally, .ref a_bracket_coefficients, .ref a_bracket_product, .int o_bracket_prepared]))] r) 0 0 (va_A [(a_this, .inr (6, [.ref a_text, .ref a_reader, .ref a_diagram, .ref a_draft, .ref a_shelf, .ref a_bracket, .ref a_colouring, .int i_savedStates, .int i_newestPlace])), (a_diagram, .inr (2, [.int i_diagram_crossings, .int i_diagram_circles, .ref a_diagram_arcs])), (a_diagram_arcs, .inl (cyI, 32, .inl f_diagram_arcs)), (a_draft, .inr (2, [.int i_draft_crossings, .int i_draft_circles, .ref a_draft_arcs])), (a_draft_arcs, .inl (cyI, 32, .inl f_draft_arcs)), (a_shelf, .inr (4, [.ref a_shelf_cells, .ref a_shelf_filled])), (a_shelf_cells, .inl (cyI, 340, .inl f_shelf_cells)), (a_shelf_filled, .inl (cyZ, 10, .inl f_shelf_filled)), (a_bracket, .inr (0, [.ref a_bracket_otherEnds, .ref a_bracket_tally, .ref a_bracket_coefficients, .ref a_bracket_product, .int i_bracket_prepared]))] sz) := by
  refine Met.ofW (cc := cX9_removeKink) (maxL := 3) (ret := (some .int)) (by decide) rfl ?_
  intro p e s m args below meth c s₁ B hml hv
  obtain ⟨rfl, hsz, hP, hK, hD0, hN⟩ := hv
  have hx := B.exec
  have hb := B.bytes
  have hr := B.returns
  have hts := atoms_spec (ws := wsX9_removeKink) B.pre
  have hown : s.vm.findClass RX9 = some m.cls := findClass_of_methodNamed B.named
  have hlocks := B.notSynchronized
  subst hsz
  have hD := hD0.self (sz := s.heap.size)
  generalize hAe : va_A [(a_this, .inr (6, [.ref a_text, .ref a_reader, .ref a_diagram, .ref a_draft, .ref a_shelf, .ref a_bracket, .ref a_colouring, .int i_savedStates, .int i_newestPlace])), (a_diagram, .inr (2, [.int i_diagram_crossings, .int i_diagram_circles, .ref a_diagram_arcs])), (a_diagram_arcs, .inl (cyI, 32, .inl f_diagram_arcs)), (a_draft, .inr (2, [.int i_draft_crossings, .int i_draft_circles, .ref a_draft_arcs])), (a_draft_arcs, .inl (cyI, 32, .inl f_draft_arcs)), (a_shelf, .inr (4, [.ref a_shelf_cells, .ref a_shelf_filled])), (a_shelf_cells, .inl (cyI, 340, .inl f_shelf_cells)), (a_shelf_filled, .inl (cyZ, 10, .inl f_shelf_filled)), (a_bracket, .inr (0, [.ref a_bracket_otherEnds, .ref a_bracket_tally, .ref a_bracket_coefficients, .ref a_bracket_product, .int i_bracket_prepared]))] s.heap.size = A at hD ⊢
  have hA : ∀ q : Nat, s.heap.size ≤ q → A q := fun q h => by rw [← hAe]; exact Or.inr h
  clear hAe hD0
  have hS : va_S A s.heap s.heap [] := va_S.rf
  have S : CallFix p m c cX9_removeKink 3 s (([.ref a_this, .int v1] : List Value).toArray) wsX9_removeKink RX9 := ⟨hx, hb, hml, hown, hts⟩
  have hl := lv_entry ([.ref a_this, .int v1]) (n := 3) (Nat.le_of_ble_eq_true rfl)
  rw [lg_entry_eq]
  generalize (lg_sl ([.ref a_this, .int v1]) ++ List.replicate (3 - (lg_sl ([.ref a_this, .int v1])).length) Slot.unset).toArray = ls at hl ⊢
  replace hl : lv_has ls 3 [(0, .ref a_this), (1, .int v1)] := hl
  generalize ([] : List Loc) = locs at hS ⊢
  delta kX9_removeKink at hf
  obtain ⟨H, hH⟩ : ∃ H, H = s.heap := ⟨_, rfl⟩
  have hS : va_S A s.heap H locs := by rw [hH]; exact hS
  have hP : va_P D vwCl [(a_this, .inr (6, [.ref a_text, .ref a_reader, .ref a_diagram, .ref a_draft, .ref a_shelf, .ref a_bracket, .ref a_colouring, .int i_savedStates, .int i_newestPlace])), (a_diagram, .inr (2, [.int i_diagram_crossings, .int i_diagram_circles, .ref a_diagram_arcs])), (a_diagram_arcs, .inl (cyI, 32, .inl f_diagram_arcs)), (a_draft, .inr (2, [.int i_draft_crossings, .int i_draft_circles, .ref a_draft_arcs])), (a_draft_arcs, .inl (cyI, 32, .inl f_draft_arcs)), (a_shelf, .inr (4, [.ref a_shelf_cells, .ref a_shelf_filled])), (a_shelf_cells, .inl (cyI, 340, .inl f_shelf_cells)), (a_shelf_filled, .inl (cyZ, 10, .inl f_shelf_filled)), (a_bracket, .inr (0, [.ref a_bracket_otherEnds, .ref a_bracket_tally, .ref a_bracket_coefficients, .ref a_bracket_product, .int i_bracket_prepared]))] H := by rw [hH]; exact hP
  suffices hgo : W p l e (headSpec wsX9_removeKink rmX9_removeKink).room s m (([.ref a_this, .int v1] : List Value).toArray) below meth c H locs 0 0 (MQ below (kQi D cyI cyZ A [(a_this, .inr (6, [.ref a_text, .ref a_reader, .ref a_diagram, .ref a_draft, .ref a_shelf, .ref a_bracket, .ref a_colouring, .int o_savedStates, .int o_newestPlace])), (a_diagram, .inr (2, [.int o_diagram_crossings, .int o_diagram_circles, .ref a_diagram_arcs])), (a_diagram_arcs, .inl (cyI, 32, .inl o_diagram_arcs)), (a_draft, .inr (2, [.int o_draft_crossings, .int o_draft_circles, .ref a_draft_arcs])), (a_draft_arcs, .inl (cyI, 32, .inl o_draft_arcs)), (a_shelf, .inr (4, [.ref a_shelf_cells, .ref a_shelf_filled])), (a_shelf_cells, .inl (cyI, 340, .inl o_shelf_cells)), (a_shelf_filled, .inl (cyZ, 10, .inl o_shelf_filled)), (a_bracket, .inr (0, [.ref a_bracket_otherEnds, .ref a_bracket_tally, .ref a_bracket_coefficients, .ref a_bracket_product, .int o_bracket_prepared]))] r) (([.ref a_this, .int v1] : List Value).toArray) s 0 0 A) (F0 m 0 ls []) by rw [hH] at hgo; exact hgo
  clear hH
  refine lv_aload_n hx hb dX9_removeKink_0 rfl (lv_at hl 0 rfl) ?_
  refine va_get (D := D) (ci := 6) (v := .ref a_diagram) (C := RX9) (T := TX9) (N := 9) hx hb hts qX9_removeKink_X9 hown hK hP 0 rfl rfl 2 (Nat.le_of_ble_eq_true rfl) (hts (.fieldLink RX9 26 "KnotDiagram" "diagram" "LKnotDiagram$Diagram;") qX9_removeKink_0) (fun _ h9 => h9) rfl dX9_removeKink_1 ?_
  refine lv_iload_n hx hb dX9_removeKink_4 rfl (lv_at hl 1 rfl) ?_
  obtain ⟨r_1, hc_1, hf⟩ := bnd1_s hf
  refine kcVi (As := [.int v1]) (rest := []) (w2 := [(a_this, .inr (6, [.ref a_text, .ref a_reader, .ref a_diagram, .ref a_draft, .ref a_shelf, .ref a_bracket, .ref a_colouring, .int i_savedStates, .int i_newestPlace])), (a_diagram, .inr (2, [.int i_diagram_crossings, .int i_diagram_circles, .ref a_diagram_arcs])), (a_diagram_arcs, .inl (cyI, 32, .inl f_diagram_arcs)), (a_draft, .inr (2, [.int i_draft_crossings, .int i_draft_circles, .ref a_draft_arcs])), (a_draft_arcs, .inl (cyI, 32, .inl f_draft_arcs)), (a_shelf, .inr (4, [.ref a_shelf_cells, .ref a_shelf_filled])), (a_shelf_cells, .inl (cyI, 340, .inl f_shelf_cells)), (a_shelf_filled, .inl (cyZ, 10, .inl f_shelf_filled)), (a_bracket, .inr (0, [.ref a_bracket_otherEnds, .ref a_bracket_tally, .ref a_bracket_coefficients, .ref a_bracket_product, .int i_bracket_prepared]))]) S hK hP hD hS hA hN (mX2_hasCrossing l D cyI cyZ H.size a_diagram a_diagram_arcs v1 i_diagram_crossings i_diagram_circles r_1 hc_1) (cwV 1 hts gX9_removeKink_X2_hasCrossing rfl rfl rfl (by decide +kernel) ⟨Nat.le_of_ble_eq_true rfl, Nat.le_of_ble_eq_true rfl⟩) 2 1 rfl rfl [1] [0, 2, 3, 4, 5, 6, 7, 8] [0, 8, 1, 2, 3, 4, 5, 6, 7] rfl rfl rfl rfl (by decide) rfl rfl hl.1 (Nat.le_of_ble_eq_true rfl) dX9_removeKink_5 ⟨Nat.le_of_ble_eq_true rfl, Nat.le_of_ble_eq_true rfl⟩ (fun H locs hP hD hS => ?_)
  refine lv_if_ne (tgt := 14) hx hb dX9_removeKink_8 (by decide) (fun c_7 => ?_) (fun c_7 => ?_)
  · replace hf := kt_n hf c_7
    refine lv_aload_n hx hb dX9_removeKink_14 rfl (lv_at hl 0 rfl) ?_
    refine va_get (D := D) (ci := 6) (v := .ref a_diagram) (C := RX9) (T := TX9) (N := 9) hx hb hts qX9_removeKink_X9 hown hK hP 0 rfl rfl 2 (Nat.le_of_ble_eq_true rfl) (hts (.fieldLink RX9 26 "KnotDiagram" "diagram" "LKnotDiagram$Diagram;") qX9_removeKink_0) (fun _ h9 => h9) rfl dX9_removeKink_15 ?_
    refine lv_iload_n hx hb dX9_removeKink_18 rfl (lv_at hl 1 rfl) ?_
    obtain ⟨r_2, hc_2, hf⟩ := bnd1_s hf
    refine kcSi (As := [.ref a_diagram, .int v1]) (rest := []) (w2 := [(a_this, .inr (6, [.ref a_text, .ref a_reader, .ref a_diagram, .ref a_draft, .ref a_shelf, .ref a_bracket, .ref a_colouring, .int i_savedStates, .int i_newestPlace])), (a_diagram, .inr (2, [.int i_diagram_crossings, .int i_diagram_circles, .ref a_diagram_arcs])), (a_diagram_arcs, .inl (cyI, 32, .inl f_diagram_arcs)), (a_draft, .inr (2, [.int i_draft_crossings, .int i_draft_circles, .ref a_draft_arcs])), (a_draft_arcs, .inl (cyI, 32, .inl f_draft_arcs)), (a_shelf, .inr (4, [.ref a_shelf_cells, .ref a_shelf_filled])), (a_shelf_cells, .inl (cyI, 340, .inl f_shelf_cells)), (a_shelf_filled, .inl (cyZ, 10, .inl f_shelf_filled)), (a_bracket, .inr (0, [.ref a_bracket_otherEnds, .ref a_bracket_tally, .ref a_bracket_coefficients, .ref a_bracket_product, .int i_bracket_prepared]))]) S hK hP hD hS hA hN (mX3_kinkEnd l D cyI cyZ H.size a_diagram a_diagram_arcs v1 i_diagram_crossings i_diagram_circles f_diagram_arcs r_2 hc_2) (va_cwS 2 hts gX9_removeKink_X3_kinkEnd rfl rfl rfl (by decide +kernel) ⟨Nat.le_of_ble_eq_true rfl, Nat.le_of_ble_eq_true rfl⟩) [1, 2] [0, 3, 4, 5, 6, 7, 8] [0, 7, 8, 1, 2, 3, 4, 5, 6] rfl rfl rfl rfl (by decide) rfl rfl hl.1 (Nat.le_of_ble_eq_true rfl) dX9_removeKink_19 ⟨Nat.le_of_ble_eq_true rfl, Nat.le_of_ble_eq_true rfl⟩ (fun H locs hP hD hS => ?_)
    refine lv_istore_n (lv' := [(2, .int r_2), (0, .ref a_this), (1, .int v1)]) hx hb dX9_removeKink_22 rfl hl (by decide) rfl (fun ls hl => ?_)
    refine lv_iload_n hx hb dX9_removeKink_23 rfl (lv_at hl 0 rfl) ?_
    refine lv_if_ge (tgt := 30) hx hb dX9_removeKink_24 (by decide) (fun c_6 => ?_) (fun c_6 => ?_)
    · replace hf := kt_p hf c_6
      refine lv_aload_n hx hb dX9_removeKink_30 rfl (lv_at hl 1 rfl) ?_
      refine va_get (D := D) (ci := 6) (v := .ref a_draft) (C := RX9) (T := TX9) (N := 9) hx hb hts qX9_removeKink_X9 hown hK hP 0 rfl rfl 3 (Nat.le_of_ble_eq_true rfl) (hts (.fieldLink RX9 30 "KnotDiagram" "draft" "LKnotDiagram$Diagram;") qX9_removeKink_1) (fun _ h9 => h9) rfl dX9_removeKink_31 ?_
      refine lv_aload_n hx hb dX9_removeKink_34 rfl (lv_at hl 1 rfl) ?_
      refine va_get (D := D) (ci := 6) (v := .ref a_diagram) (C := RX9) (T := TX9) (N := 9) hx hb hts qX9_removeKink_X9 hown hK hP 0 rfl rfl 2 (Nat.le_of_ble_eq_true rfl) (hts (.fieldLink RX9 26 "KnotDiagram" "diagram" "LKnotDiagram$Diagram;") qX9_removeKink_0) (fun _ h9 => h9) rfl dX9_removeKink_35 ?_
      obtain ⟨o_crossings_3, o_circles_3, o_arcs_3, hc_3, hf⟩ := bnd3_s hf
      refine kcVv (As := [.ref a_diagram]) (rest := []) (w2 := [(a_this, .inr (6, [.ref a_text, .ref a_reader, .ref a_diagram, .ref a_draft, .ref a_shelf, .ref a_bracket, .ref a_colouring, .int i_savedStates, .int i_newestPlace])), (a_diagram, .inr (2, [.int i_diagram_crossings, .int i_diagram_circles, .ref a_diagram_arcs])), (a_diagram_arcs, .inl (cyI, 32, .inl f_diagram_arcs)), (a_draft, .inr (2, [.int o_crossings_3, .int o_circles_3, .ref a_draft_arcs])), (a_draft_arcs, .inl (cyI, 32, .inl o_arcs_3)), (a_shelf, .inr (4, [.ref a_shelf_cells, .ref a_shelf_filled])), (a_shelf_cells, .inl (cyI, 340, .inl f_shelf_cells)), (a_shelf_filled, .inl (cyZ, 10, .inl f_shelf_filled)), (a_bracket, .inr (0, [.ref a_bracket_otherEnds, .ref a_bracket_tally, .ref a_bracket_coefficients, .ref a_bracket_product, .int i_bracket_prepared]))]) S hK hP hD hS hA hN (mX2_copyFrom l D cyI cyZ H.size a_draft a_diagram a_draft_arcs a_diagram_arcs i_draft_crossings i_draft_circles f_draft_arcs i_diagram_crossings i_diagram_circles f_diagram_arcs o_crossings_3 o_circles_3 o_arcs_3 hc_3) (cwV 1 hts gX9_removeKink_X2_copyFrom rfl rfl rfl (by decide +kernel) ⟨Nat.le_of_ble_eq_true rfl, Nat.le_of_ble_eq_true rfl⟩) 2 3 rfl rfl [3, 4, 1, 2] [0, 5, 6, 7, 8] [0, 7, 8, 5, 6, 1, 2, 3, 4] rfl rfl rfl rfl (by decide) rfl rfl hl.1 (Nat.le_of_ble_eq_true rfl) dX9_removeKink_38 ⟨Nat.le_of_ble_eq_true rfl, Nat.le_of_ble_eq_true rfl⟩ (fun H locs hP hD hS => ?_)
      refine lv_aload_n hx hb dX9_removeKink_41 rfl (lv_at hl 1 rfl) ?_
      refine va_get (D := D) (ci := 6) (v := .ref a_draft) (C := RX9) (T := TX9) (N := 9) hx hb hts qX9_removeKink_X9 hown hK hP 0 rfl rfl 3 (Nat.le_of_ble_eq_true rfl) (hts (.fieldLink RX9 30 "KnotDiagram" "draft" "LKnotDiagram$Diagram;") qX9_removeKink_1) (fun _ h9 => h9) rfl dX9_removeKink_42 ?_
      refine lv_iload_n hx hb dX9_removeKink_45 rfl (lv_at hl 2 rfl) ?_
      refine lv_iload_n hx hb dX9_removeKink_46 rfl (lv_at hl 0 rfl) ?_
      obtain ⟨o_p0_crossings_4, o_p0_circles_4, o_p0_arcs_4, hc_4, hf⟩ := bnd3_s hf
      refine kcSv (As := [.ref a_draft, .int v1, .int r_2]) (rest := []) (w2 := [(a_this, .inr (6, [.ref a_text, .ref a_reader, .ref a_diagram, .ref a_draft, .ref a_shelf, .ref a_bracket, .ref a_colouring, .int i_savedStates, .int i_newestPlace])), (a_diagram, .inr (2, [.int i_diagram_crossings, .int i_diagram_circles, .ref a_diagram_arcs])), (a_diagram_arcs, .inl (cyI, 32, .inl f_diagram_arcs)), (a_draft, .inr (2, [.int o_p0_crossings_4, .int o_p0_circles_4, .ref a_draft_arcs])), (a_draft_arcs, .inl (cyI, 32, .inl o_p0_arcs_4)), (a_shelf, .inr (4, [.ref a_shelf_cells, .ref a_shelf_filled])), (a_shelf_cells, .inl (cyI, 340, .inl f_shelf_cells)), (a_shelf_filled, .inl (cyZ, 10, .inl f_shelf_filled)), (a_bracket, .inr (0, [.ref a_bracket_otherEnds, .ref a_bracket_tally, .ref a_bracket_coefficients, .ref a_bracket_product, .int i_bracket_prepared]))]) S hK hP hD hS hA hN (mX3_dissolveKink l D cyI cyZ H.size a_draft a_draft_arcs v1 r_2 o_crossings_3 o_circles_3 o_arcs_3 o_p0_crossings_4 o_p0_circles_4 o_p0_arcs_4 hc_4) (va_cwS 3 hts gX9_removeKink_X3_dissolveKink rfl rfl rfl (by decide +kernel) ⟨Nat.le_of_ble_eq_true rfl, Nat.le_of_ble_eq_true rfl⟩) [3, 4] [0, 1, 2, 5, 6, 7, 8] [0, 1, 2, 7, 8, 3, 4, 5, 6] rfl rfl rfl rfl (by decide) rfl rfl hl.1 (Nat.le_of_ble_eq_true rfl) dX9_removeKink_47 ⟨Nat.le_of_ble_eq_true rfl, Nat.le_of_ble_eq_true rfl⟩ (fun H locs hP hD hS => ?_)
      refine lv_aload_n hx hb dX9_removeKink_50 rfl (lv_at hl 1 rfl) ?_
      obtain ⟨r_5, o_savedStates_5, o_newestPlace_5, o_diagram_crossings_5, o_diagram_circles_5, o_diagram_arcs_5, o_shelf_cells_5, o_shelf_filled_5, o_bracket_prepared_5, hc_5, hf⟩ := bnd9_s hf
      refine kcVi (As := []) (rest := []) (w2 := [(a_this, .inr (6, [.ref a_text, .ref a_reader, .ref a_diagram, .ref a_draft, .ref a_shelf, .ref a_bracket, .ref a_colouring, .int o_savedStates_5, .int o_newestPlace_5])), (a_diagram, .inr (2, [.int o_diagram_crossings_5, .int o_diagram_circles_5, .ref a_diagram_arcs])), (a_diagram_arcs, .inl (cyI, 32, .inl o_diagram_arcs_5)), (a_draft, .inr (2, [.int o_p0_crossings_4, .int o_p0_circles_4, .ref a_draft_arcs])), (a_draft_arcs, .inl (cyI, 32, .inl o_p0_arcs_4)), (a_shelf, .inr (4, [.ref a_shelf_cells, .ref a_shelf_filled])), (a_shelf_cells, .inl (cyI, 340, .inl o_shelf_cells_5)), (a_shelf_filled, .inl (cyZ, 10, .inl o_shelf_filled_5)), (a_bracket, .inr (0, [.ref a_bracket_otherEnds, .ref a_bracket_tally, .ref a_bracket_coefficients, .ref a_bracket_product, .int o_bracket_prepared_5]))]) S hK hP hD hS hA hN (mX9_finishRemoval l D cyI cyZ H.size a_this a_text a_reader a_diagram a_draft a_shelf a_bracket a_colouring a_diagram_arcs a_draft_arcs a_shelf_cells a_shelf_filled a_bracket_otherEnds a_bracket_tally a_bracket_coefficients a_bracket_product i_savedStates i_newestPlace i_diagram_crossings i_diagram_circles f_diagram_arcs o_p0_crossings_4 o_p0_circles_4 o_p0_arcs_4 f_shelf_cells f_shelf_filled i_bracket_prepared r_5 o_savedStates_5 o_newestPlace_5 o_diagram_crossings_5 o_diagram_circles_5 o_diagram_arcs_5 o_shelf_cells_5 o_shelf_filled_5 o_bracket_prepared_5 hc_5) (cwV 0 hts gX9_removeKink_X9_finishRemoval rfl rfl rfl (by decide +kernel) ⟨Nat.le_of_ble_eq_true rfl, Nat.le_of_ble_eq_true rfl⟩) 6 0 rfl rfl [0, 1, 2, 3, 4, 5, 6, 7, 8] [] [0, 1, 2, 3, 4, 5, 6, 7, 8] rfl rfl rfl rfl (by decide) rfl rfl hl.1 (Nat.le_of_ble_eq_true rfl) dX9_removeKink_51 ⟨Nat.le_of_ble_eq_true rfl, Nat.le_of_ble_eq_true rfl⟩ (fun H locs hP hD hS => ?_)
      obtain ⟨rfl, rfl, rfl, rfl, rfl, rfl, rfl, rfl, rfl, rfl, rfl, rfl⟩ := some12_s hf
      exact kRi hx hb hr hlocks hP hK hD hS rfl dX9_removeKink_54
    · replace hf := kt_n hf c_6
      refine lv_ldc (v := (-1000002)) hx hb hown (hts (.constant RX9 102 (-1000002)) qX9_removeKink_2) dX9_removeKink_27 ?_
      obtain ⟨rfl, rfl, rfl, rfl, rfl, rfl, rfl, rfl, rfl, rfl, rfl, rfl⟩ := some12_s hf
      exact kRi hx hb hr hlocks hP hK hD hS rfl dX9_removeKink_29
  · replace hf := kt_p hf c_7
    refine lv_ldc (v := (-1000001)) hx hb hown (hts (.constant RX9 58 (-1000001)) qX9_removeKink_3) dX9_removeKink_11 ?_
    obtain ⟨rfl, rfl, rfl, rfl, rfl, rfl, rfl, rfl, rfl, rfl, rfl, rfl⟩ := some12_s hf
    exact kRi hx hb hr hlocks hP hK hD hS rfl dX9_removeKink_13
def kX9_removeBigon (v1 : Int32) (v2 : Int32) (i_savedStates : Int32) (i_newestPlace : Int32) (i_diagram_crossings : Int32) (i_diagram_circles : Int32) (f_diagram_arcs : Nat → Int32) (i_draft_crossings : Int32) (i_draft_circles : Int32) (f_draft_arcs : Nat → Int32) (f_shelf_cells : Nat → Int32) (f_shelf_filled : Nat → Int32) (i_bracket_prepared : Int32) : Option (Int32 × Int32 × Int32 × Int32 × Int32 × (Nat → Int32) × Int32 × Int32 × (Nat → Int32) × (Nat → Int32) × (Nat → Int32) × Int32) :=
  bnd1 (kX2_hasCrossing v1 i_diagram_crossings) (fun r_1 => if r_1 = 0 then some ((-1000001), i_savedStates, i_newestPlace, i_diagram_crossings, i_diagram_circles, f_diagram_arcs, i_draft_crossings, i_draft_circles, f_draft_arcs, f_shelf_cells, f_shelf_filled, i_bracket_prepared) else bnd1 (kX2_hasCrossing v2 i_diagram_crossings) (fun r_2 => if r_2 = 0 then some ((-1000001), i_savedStates, i_newestPlace, i_diagram_crossings, i_diagram_circles, f_diagram_arcs, i_draft_crossings, i_draft_circles, f_draft_arcs, f_shelf_cells, f_shelf_filled, i_bracket_prepared) else if v1 = v2 then some ((-1000001), i_savedStates, i_newestPlace, i_diagram_crossings, i_diagram_circles, f_diagram_arcs, i_draft_crossings, i_draft_circles, f_draft_arcs, f_shelf_cells, f_shelf_filled, i_bracket_prepared) else bnd1 (kX3_bigonCorner v1 v2 f_diagram_arcs) (fun r_3 => if 0 ≤ r_3 then bnd3 (kX2_copyFrom i_draft_crossings i_draft_circles f_draft_arcs i_diagram_crossings i_diagram_circles f_diagram_arcs) (fun o_crossings_4 o_circles_4 o_arcs_4 => bnd3 (kX3_dissolveBigon v1 v2 r_3 o_crossings_4 o_circles_4 o_arcs_4) (fun o_p0_crossings_5 o_p0_circles_5 o_p0_arcs_5 => bnd9 (kX9_finishRemoval i_savedStates i_newestPlace i_diagram_crossings i_diagram_circles f_diagram_arcs o_p0_crossings_5 o_p0_circles_5 o_p0_arcs_5 f_shelf_cells f_shelf_filled i_bracket_prepared) (fun r_6 o_savedStates_6 o_newestPlace_6 o_diagram_crossings_6 o_diagram_circles_6 o_diagram_arcs_6 o_shelf_cells_6 o_shelf_filled_6 o_bracket_prepared_6 => some (r_6, o_savedStates_6, o_newestPlace_6, o_diagram_crossings_6, o_diagram_circles_6, o_diagram_arcs_6, o_p0_crossings_5, o_p0_circles_5, o_p0_arcs_5, o_shelf_cells_6, o_shelf_filled_6, o_bracket_prepared_6)))) else some ((-1000002), i_savedStates, i_newestPlace, i_diagram_crossings, i_diagram_circles, f_diagram_arcs, i_draft_crossings, i_draft_circles, f_draft_arcs, f_shelf_cells, f_shelf_filled, i_bracket_prepared))))
def rmX9_removeBigon : Room := { frames := 4, cells := 0, slots := 0, locals := 85 }
theorem qX9_removeBigon_0 : (.fieldLink RX9 26 "KnotDiagram" "diagram" "LKnotDiagram$Diagram;" : Cond) ∈ wsX9_removeBigon := by decide +kernel
theorem qX9_removeBigon_1 : (.constant RX9 58 (-1000001) : Cond) ∈ wsX9_removeBigon := by decide +kernel
theorem qX9_removeBigon_2 : (.fieldLink RX9 30 "KnotDiagram" "draft" "LKnotDiagram$Diagram;" : Cond) ∈ wsX9_removeBigon := by decide +kernel
theorem qX9_removeBigon_3 : (.constant RX9 102 (-1000002) : Cond) ∈ wsX9_removeBigon := by decide +kernel
theorem qX9_removeBigon_X9 : ∀ w ∈ wsX90, w ∈ wsX9_removeBigon := by decide +kernel
set_option maxHeartbeats 4000000 in
set_option maxRecDepth 100000 in
theorem mX9_removeBigon (l : Launch) (D : va_G) (cyI cyZ : ClassId) (sz : Nat) (a_this a_text a_reader a_diagram a_draft a_shelf a_bracket a_colouring a_diagram_arcs a_draft_arcs a_shelf_cells a_shelf_filled a_bracket_otherEnds a_bracket_tally a_bracket_coefficients a_bracket_product : Nat) (v1 : Int32) (v2 : Int32) (i_savedStates : Int32) (i_newestPlace : Int32) (i_diagram_crossings : Int32) (i_diagram_circles : Int32) (f_diagram_arcs : Nat → Int32) (i_draft_crossings : Int32) (i_draft_circles : Int32) (f_draft_arcs : Nat → Int32) (f_shelf_cells : Nat → Int32) (f_shelf_filled : Nat → Int32) (i_bracket_prepared : Int32) (r : Int32) (o_savedStates : Int32) (o_newestPlace : Int32) (o_diagram_crossings : Int32) (o_diagram_circles : Int32) (o_diagram_arcs : Nat → Int32) (o_draft_crossings : Int32) (o_draft_circles : Int32) (o_draft_arcs : Nat → Int32) (o_shelf_cells : Nat → Int32) (o_shelf_filled : Nat → Int32) (o_bracket_prepared : Int32) (hf : kX9_removeBigon v1 v2 i_savedStates i_newestPlace i_diagram_crossings i_diagram_circles f_diagram_arcs i_draft_crossings i_draft_circles f_draft_arcs f_shelf_cells f_shelf_filled i_bracket_prepared = some (r, o_savedStates, o_newestPlace, o_diagram_crossings, o_diagram_circles, o_diagram_arcs, o_draft_crossings, o_draft_circles, o_draft_arcs, o_shelf_cells, o_shelf_filled, o_bracket_prepared)) : Met l yX9_removeBigon wsX9_removeBigon rmX9_removeBigon (kPre D cyI cyZ [.ref a_this, .int v1, .int v2] [(a_this, .inr (6, [.ref a_text, .ref a_reader, .ref a_diagram, .ref a_draft, .ref a_shelf, .ref a_bracket, .ref a_colouring, .int i_savedStates, .int i_newestPlace])), (a_diagram, .inr (2, [.int i_diagram_crossings, .int i_diagram_circles, .ref a_diagram_arcs])), (a_diagram_arcs, .inl (cyI, 32, .inl f_diagram_arcs)), (a_draft, .inr (2, [.int i_draft_crossings, .int i_draft_circles, .ref a_draft_arcs])), (a_draft_arcs, .inl (cyI, 32, .inl f_draft_arcs)), (a_shelf, .inr (4, [.ref a_shelf_cells, .ref a_shelf_filled])), (a_shelf_cells, .inl (cyI, 340, .inl f_shelf_cells)), (a_shelf_filled, .inl (cyZ, 10, .inl f_shelf_filled)), (a_bracket, .inr (0, [.ref a_bracket_otherEnds, .ref a_bracket_tally, .ref a_bracket_coefficients, .ref a_bracket_product, .int i_bracket_prepared]))] sz) (kQi D cyI cyZ (va_A [(a_this, .inr (6, [.ref a_text, .ref a_reader, .ref a_diagram, .ref a_draft, .ref a_shelf, .ref a_bracket, .ref a_colouring, .int i_savedStates, .int i_newestPlace])), (a_diagram, .inr (2, [.int i_diagram_crossings, .int i_diagram_circles, .ref a_diagram_arcs])), (a_diagram_arcs, .inl (cyI, 32, .inl f_diagram_arcs)), (a_draft, .inr (2, [.int i_draft_crossings, .int i_draft_circles, .ref a_draft_arcs])), (a_draft_arcs, .inl (cyI, 32, .inl f_draft_arcs)), (a_shelf, .inr (4, [.ref a_shelf_cells, .ref a_shelf_filled])), (a_shelf_cells, .inl (cyI, 340, .inl f_shelf_cells)), (a_shelf_filled, .inl (cyZ, 10, .inl f_shelf_filled)), (a_bracket, .inr (0, [.ref a_bracket_otherEnds, .ref a_bracket_tally, .ref a_bracket_coefficients, .ref a_bracket_product, .int i_bracket_prepared]))] sz) [(a_this, .inr (6, [.ref a_text, .ref a_reader, .ref a_diagram, .ref a_draft, .ref a_shelf, .ref a_bracket, .ref a_colouring, .int o_savedStates, .int o_newestPlace])), (a_diagram, .inr (2, [.int o_diagram_crossings, .int o_diagram_circles, .ref a_diagram_arcs])), (a_diagram_arcs, .inl (cyI, 32, .inl o_diagram_arcs)), (a_draft, .inr (2, [.int o_draft_crossings, .int o_draft_circles, .ref a_draft_arcs])), (a_draft_arcs, .inl (cyI, 32, .inl o_draft_arcs)), (a_shelf, .inr (4, [.ref a_shelf_cells, .ref a_shelf_filled])), (a_shelf_cells, .inl (cyI, 340, .inl o_shelf_cells)), (a_shelf_filled, .inl (cyZ, 10, .inl o_shelf_filled)), (a_bracket, .inr (0, [.ref a_bracket_otherEnds, .ref a_bracket_tally, .ref a_bracket_coefficients, .ref a_bracket_product, .int o_bracket_prepared]))] r) 0 0 (va_A [(a_this, .inr (6, [.ref a_text, .ref a_reader, .ref a_diagram, .ref a_draft, .ref a_shelf, .ref a_bracket, .ref a_colouring, .int i_savedStates, .int i_newestPlace])), (a_diagram, .inr (2, [.int i_diagram_crossings, .int i_diagram_circles, .ref a_diagram_arcs])), (a_diagram_arcs, .inl (cyI, 32, .inl f_diagram_arcs)), (a_draft, .inr (2, [.int i_draft_crossings, .int i_draft_circles, .ref a_draft_arcs])), (a_draft_arcs, .inl (cyI, 32, .inl f_draft_arcs)), (a_shelf, .inr (4, [.ref a_shelf_cells, .ref a_shelf_filled])), (a_shelf_cells, .inl (cyI, 340, .inl f_shelf_cells)), (a_shelf_filled, .inl (cyZ, 10, .inl f_shelf_filled)), (a_bracket, .inr (0, [.ref a_bracket_otherEnds, .ref a_bracket_tally, .ref a_bracket_coefficients, .ref a_bracket_product, .int i_bracket_prepared]))] sz) := by
  refine Met.ofW (cc := cX9_removeBigon) (maxL := 4) (ret := (some .int)) (by decide) rfl ?_
  intro p e s m args below meth c s₁ B hml hv
  obtain ⟨rfl, hsz, hP, hK, hD0, hN⟩ := hv
  have hx := B.exec
  have hb := B.bytes
  have hr := B.returns
  have hts := atoms_spec (ws := wsX9_removeBigon) B.pre
  have hown : s.vm.findClass RX9 = some m.cls := findClass_of_methodNamed B.named
  have hlocks := B.notSynchronized
  subst hsz
  have hD := hD0.self (sz := s.heap.size)
  generalize hAe : va_A [(a_this, .inr (6, [.ref a_text, .ref a_reader, .ref a_diagram, .ref a_draft, .ref a_shelf, .ref a_bracket, .ref a_colouring, .int i_savedStates, .int i_newestPlace])), (a_diagram, .inr (2, [.int i_diagram_crossings, .int i_diagram_circles, .ref a_diagram_arcs])), (a_diagram_arcs, .inl (cyI, 32, .inl f_diagram_arcs)), (a_draft, .inr (2, [.int i_draft_crossings, .int i_draft_circles, .ref a_draft_arcs])), (a_draft_arcs, .inl (cyI, 32, .inl f_draft_arcs)), (a_shelf, .inr (4, [.ref a_shelf_cells, .ref a_shelf_filled])), (a_shelf_cells, .inl (cyI, 340, .inl f_shelf_cells)), (a_shelf_filled, .inl (cyZ, 10, .inl f_shelf_filled)), (a_bracket, .inr (0, [.ref a_bracket_otherEnds, .ref a_bracket_tally, .ref a_bracket_coefficients, .ref a_bracket_product, .int i_bracket_prepared]))] s.heap.size = A at hD ⊢
  have hA : ∀ q : Nat, s.heap.size ≤ q → A q := fun q h => by rw [← hAe]; exact Or.inr h
  clear hAe hD0
  have hS : va_S A s.heap s.heap [] := va_S.rf
  have S : CallFix p m c cX9_removeBigon 4 s (([.ref a_this, .int v1, .int v2] : List Value).toArray) wsX9_removeBigon RX9 := ⟨hx, hb, hml, hown, hts⟩
  have hl := lv_entry ([.ref a_this, .int v1, .int v2]) (n := 4) (Nat.le_of_ble_eq_true rfl)
  rw [lg_entry_eq]
  generalize (lg_sl ([.ref a_this, .int v1, .int v2]) ++ List.replicate (4 - (lg_sl ([.ref a_this, .int v1, .int v2])).length) Slot.unset).toArray = ls at hl ⊢
  replace hl : lv_has ls 4 [(0, .ref a_this), (1, .int v1), (2, .int v2)] := hl
  generalize ([] : List Loc) = locs at hS ⊢
  delta kX9_removeBigon at hf
  obtain ⟨H, hH⟩ : ∃ H, H = s.heap := ⟨_, rfl⟩
  have hS : va_S A s.heap H locs := by rw [hH]; exact hS
  have hP : va_P D vwCl [(a_this, .inr (6, [.ref a_text, .ref a_reader, .ref a_diagram, .ref a_draft, .ref a_shelf, .ref a_bracket, .ref a_colouring, .int i_savedStates, .int i_newestPlace])), (a_diagram, .inr (2, [.int i_diagram_crossings, .int i_diagram_circles, .ref a_diagram_arcs])), (a_diagram_arcs, .inl (cyI, 32, .inl f_diagram_arcs)), (a_draft, .inr (2, [.int i_draft_crossings, .int i_draft_circles, .ref a_draft_arcs])), (a_draft_arcs, .inl (cyI, 32, .inl f_draft_arcs)), (a_shelf, .inr (4, [.ref a_shelf_cells, .ref a_shelf_filled])), (a_shelf_cells, .inl (cyI, 340, .inl f_shelf_cells)), (a_shelf_filled, .inl (cyZ, 10, .inl f_shelf_filled)), (a_bracket, .inr (0, [.ref a_bracket_otherEnds, .ref a_bracket_tally, .ref a_bracket_coefficients, .ref a_bracket_product, .int i_bracket_prepared]))] H := by rw [hH]; exact hP
  suffices hgo : W p l e (headSpec wsX9_removeBigon rmX9_removeBigon).room s m (([.ref a_this, .int v1, .int v2] : List Value).toArray) below meth c H locs 0 0 (MQ below (kQi D cyI cyZ A [(a_this, .inr (6, [.ref a_text, .ref a_reader, .ref a_diagram, .ref a_draft, .ref a_shelf, .ref a_bracket, .ref a_colouring, .int o_savedStates, .int o_newestPlace])), (a_diagram, .inr (2, [.int o_diagram_crossings, .int o_diagram_circles, .ref a_diagram_arcs])), (a_diagram_arcs, .inl (cyI, 32, .inl o_diagram_arcs)), (a_draft, .inr (2, [.int o_draft_crossings, .int o_draft_circles, .ref a_draft_arcs])), (a_draft_arcs, .inl (cyI, 32, .inl o_draft_arcs)), (a_shelf, .inr (4, [.ref a_shelf_cells, .ref a_shelf_filled])), (a_shelf_cells, .inl (cyI, 340, .inl o_shelf_cells)), (a_shelf_filled, .inl (cyZ, 10, .inl o_shelf_filled)), (a_bracket, .inr (0, [.ref a_bracket_otherEnds, .ref a_bracket_tally, .ref a_bracket_coefficients, .ref a_bracket_product, .int o_bracket_prepared]))] r) (([.ref a_this, .int v1, .int v2] : List Value).toArray) s 0 0 A) (F0 m 0 ls []) by rw [hH] at hgo; exact hgo
  clear hH
  refine lv_aload_n hx hb dX9_removeBigon_0 rfl (lv_at hl 0 rfl) ?_
  refine va_get (D := D) (ci := 6) (v := .ref a_diagram) (C := RX9) (T := TX9) (N := 9) hx hb hts qX9_removeBigon_X9 hown hK hP 0 rfl rfl 2 (Nat.le_of_ble_eq_true rfl) (hts (.fieldLink RX9 26 "KnotDiagram" "diagram" "LKnotDiagram$Diagram;") qX9_removeBigon_0) (fun _ h9 => h9) rfl dX9_removeBigon_1 ?_
  refine lv_iload_n hx hb dX9_removeBigon_4 rfl (lv_at hl 1 rfl) ?_
  obtain ⟨r_1, hc_1, hf⟩ := bnd1_s hf
  refine kcVi (As := [.int v1]) (rest := []) (w2 := [(a_this, .inr (6, [.ref a_text, .ref a_reader, .ref a_diagram, .ref a_draft, .ref a_shelf, .ref a_bracket, .ref a_colouring, .int i_savedStates, .int i_newestPlace])), (a_diagram, .inr (2, [.int i_diagram_crossings, .int i_diagram_circles, .ref a_diagram_arcs])), (a_diagram_arcs, .inl (cyI, 32, .inl f_diagram_arcs)), (a_draft, .inr (2, [.int i_draft_crossings, .int i_draft_circles, .ref a_draft_arcs])), (a_draft_arcs, .inl (cyI, 32, .inl f_draft_arcs)), (a_shelf, .inr (4, [.ref a_shelf_cells, .ref a_shelf_filled])), (a_shelf_cells, .inl (cyI, 340, .inl f_shelf_cells)), (a_shelf_filled, .inl (cyZ, 10, .inl f_shelf_filled)), (a_bracket, .inr (0, [.ref a_bracket_otherEnds, .ref a_bracket_tally, .ref a_bracket_coefficients, .ref a_bracket_product, .int i_bracket_prepared]))]) S hK hP hD hS hA hN (mX2_hasCrossing l D cyI cyZ H.size a_diagram a_diagram_arcs v1 i_diagram_crossings i_diagram_circles r_1 hc_1) (cwV 1 hts gX9_removeBigon_X2_hasCrossing rfl rfl rfl (by decide +kernel) ⟨Nat.le_of_ble_eq_true rfl, Nat.le_of_ble_eq_true rfl⟩) 2 1 rfl rfl [1] [0, 2, 3, 4, 5, 6, 7, 8] [0, 8, 1, 2, 3, 4, 5, 6, 7] rfl rfl rfl rfl (by decide) rfl rfl hl.1 (Nat.le_of_ble_eq_true rfl) dX9_removeBigon_5 ⟨Nat.le_of_ble_eq_true rfl, Nat.le_of_ble_eq_true rfl⟩ (fun H locs hP hD hS => ?_)
  refine lv_if_eq (tgt := 27) hx hb dX9_removeBigon_8 (by decide) (fun c_10 => ?_) (fun c_10 => ?_)
  · replace hf := kt_p hf c_10
    refine lv_ldc (v := (-1000001)) hx hb hown (hts (.constant RX9 58 (-1000001)) qX9_removeBigon_1) dX9_removeBigon_27 ?_
    obtain ⟨rfl, rfl, rfl, rfl, rfl, rfl, rfl, rfl, rfl, rfl, rfl, rfl⟩ := some12_s hf
    exact kRi hx hb hr hlocks hP hK hD hS rfl dX9_removeBigon_29
  · replace hf := kt_n hf c_10
    refine lv_aload_n hx hb dX9_removeBigon_11 rfl (lv_at hl 0 rfl) ?_
    refine va_get (D := D) (ci := 6) (v := .ref a_diagram) (C := RX9) (T := TX9) (N := 9) hx hb hts qX9_removeBigon_X9 hown hK hP 0 rfl rfl 2 (Nat.le_of_ble_eq_true rfl) (hts (.fieldLink RX9 26 "KnotDiagram" "diagram" "LKnotDiagram$Diagram;") qX9_removeBigon_0) (fun _ h9 => h9) rfl dX9_removeBigon_12 ?_
    refine lv_iload_n hx hb dX9_removeBigon_15 rfl (lv_at hl 2 rfl) ?_
    obtain ⟨r_2, hc_2, hf⟩ := bnd1_s hf
    refine kcVi (As := [.int v2]) (rest := []) (w2 := [(a_this, .inr (6, [.ref a_text, .ref a_reader, .ref a_diagram, .ref a_draft, .ref a_shelf, .ref a_bracket, .ref a_colouring, .int i_savedStates, .int i_newestPlace])), (a_diagram, .inr (2, [.int i_diagram_crossings, .int i_diagram_circles, .ref a_diagram_arcs])), (a_diagram_arcs, .inl (cyI, 32, .inl f_diagram_arcs)), (a_draft, .inr (2, [.int i_draft_crossings, .int i_draft_circles, .ref a_draft_arcs])), (a_draft_arcs, .inl (cyI, 32, .inl f_draft_arcs)), (a_shelf, .inr (4, [.ref a_shelf_cells, .ref a_shelf_filled])), (a_shelf_cells, .inl (cyI, 340, .inl f_shelf_cells)), (a_shelf_filled, .inl (cyZ, 10, .inl f_shelf_filled)), (a_bracket, .inr (0, [.ref a_bracket_otherEnds, .ref a_bracket_tally, .ref a_bracket_coefficients, .ref a_bracket_product, .int i_bracket_prepared]))]) S hK hP hD hS hA hN (mX2_hasCrossing l D cyI cyZ H.size a_diagram a_diagram_arcs v2 i_diagram_crossings i_diagram_circles r_2 hc_2) (cwV 1 hts gX9_removeBigon_X2_hasCrossing rfl rfl rfl (by decide +kernel) ⟨Nat.le_of_ble_eq_true rfl, Nat.le_of_ble_eq_true rfl⟩) 2 1 rfl rfl [1] [0, 2, 3, 4, 5, 6, 7, 8] [0, 8, 1, 2, 3, 4, 5, 6, 7] rfl rfl rfl rfl (by decide) rfl rfl hl.1 (Nat.le_of_ble_eq_true rfl) dX9_removeBigon_16 ⟨Nat.le_of_ble_eq_true rfl, Nat.le_of_ble_eq_true rfl⟩ (fun H locs hP hD hS => ?_)
    refine lv_if_eq (tgt := 27) hx hb dX9_removeBigon_19 (by decide) (fun c_9 => ?_) (fun c_9 => ?_)
    · replace hf := kt_p hf c_9
      refine lv_ldc (v := (-1000001)) hx hb hown (hts (.constant RX9 58 (-1000001)) qX9_removeBigon_1) dX9_removeBigon_27 ?_
      obtain ⟨rfl, rfl, rfl, rfl, rfl, rfl, rfl, rfl, rfl, rfl, rfl, rfl⟩ := some12_s hf
      exact kRi hx hb hr hlocks hP hK hD hS rfl dX9_removeBigon_29
    · replace hf := kt_n hf c_9
      refine lv_iload_n hx hb dX9_removeBigon_22 rfl (lv_at hl 1 rfl) ?_
      refine lv_iload_n hx hb dX9_removeBigon_23 rfl (lv_at hl 2 rfl) ?_
      refine lv_icmp_ne (tgt := 30) hx hb dX9_removeBigon_24 (by decide) (fun c_8 => ?_) (fun c_8 => ?_)
      · replace hf := kt_n hf c_8
        refine lv_aload_n hx hb dX9_removeBigon_30 rfl (lv_at hl 0 rfl) ?_
        refine va_get (D := D) (ci := 6) (v := .ref a_diagram) (C := RX9) (T := TX9) (N := 9) hx hb hts qX9_removeBigon_X9 hown hK hP 0 rfl rfl 2 (Nat.le_of_ble_eq_true rfl) (hts (.fieldLink RX9 26 "KnotDiagram" "diagram" "LKnotDiagram$Diagram;") qX9_removeBigon_0) (fun _ h9 => h9) rfl dX9_removeBigon_31 ?_
        refine lv_iload_n hx hb dX9_removeBigon_34 rfl (lv_at hl 1 rfl) ?_
        refine lv_iload_n hx hb dX9_removeBigon_35 rfl (lv_at hl 2 rfl) ?_
        obtain ⟨r_3, hc_3, hf⟩ := bnd1_s hf
        refine kcSi (As := [.ref a_diagram, .int v1, .int v2]) (rest := []) (w2 := [(a_this, .inr (6, [.ref a_text, .ref a_reader, .ref a_diagram, .ref a_draft, .ref a_shelf, .ref a_bracket, .ref a_colouring, .int i_savedStates, .int i_newestPlace])), (a_diagram, .inr (2, [.int i_diagram_crossings, .int i_diagram_circles, .ref a_diagram_arcs])), (a_diagram_arcs, .inl (cyI, 32, .inl f_diagram_arcs)), (a_draft, .inr (2, [.int i_draft_crossings, .int i_draft_circles, .ref a_draft_arcs])), (a_draft_arcs, .inl (cyI, 32, .inl f_draft_arcs)), (a_shelf, .inr (4, [.ref a_shelf_cells, .ref a_shelf_filled])), (a_shelf_cells, .inl (cyI, 340, .inl f_shelf_cells)), (a_shelf_filled, .inl (cyZ, 10, .inl f_shelf_filled)), (a_bracket, .inr (0, [.ref a_bracket_otherEnds, .ref a_bracket_tally, .ref a_bracket_coefficients, .ref a_bracket_product, .int i_bracket_prepared]))]) S hK hP hD hS hA hN (mX3_bigonCorner l D cyI cyZ H.size a_diagram a_diagram_arcs v1 v2 i_diagram_crossings i_diagram_circles f_diagram_arcs r_3 hc_3) (va_cwS 3 hts gX9_removeBigon_X3_bigonCorner rfl rfl rfl (by decide +kernel) ⟨Nat.le_of_ble_eq_true rfl, Nat.le_of_ble_eq_true rfl⟩) [1, 2] [0, 3, 4, 5, 6, 7, 8] [0, 7, 8, 1, 2, 3, 4, 5, 6] rfl rfl rfl rfl (by decide) rfl rfl hl.1 (Nat.le_of_ble_eq_true rfl) dX9_removeBigon_36 ⟨Nat.le_of_ble_eq_true rfl, Nat.le_of_ble_eq_true rfl⟩ (fun H locs hP hD hS => ?_)
        refine lv_istore_n (lv' := [(3, .int r_3), (0, .ref a_this), (1, .int v1), (2, .int v2)]) hx hb dX9_removeBigon_39 rfl hl (by decide) rfl (fun ls hl => ?_)
        refine lv_iload_n hx hb dX9_removeBigon_40 rfl (lv_at hl 0 rfl) ?_
        refine lv_if_ge (tgt := 47) hx hb dX9_removeBigon_41 (by decide) (fun c_7 => ?_) (fun c_7 => ?_)
        · replace hf := kt_p hf c_7
          refine lv_aload_n hx hb dX9_removeBigon_47 rfl (lv_at hl 1 rfl) ?_
          refine va_get (D := D) (ci := 6) (v := .ref a_draft) (C := RX9) (T := TX9) (N := 9) hx hb hts qX9_removeBigon_X9 hown hK hP 0 rfl rfl 3 (Nat.le_of_ble_eq_true rfl) (hts (.fieldLink RX9 30 "KnotDiagram" "draft" "LKnotDiagram$Diagram;") qX9_removeBigon_2) (fun _ h9 => h9) rfl dX9_removeBigon_48 ?_
          refine lv_aload_n hx hb dX9_removeBigon_51 rfl (lv_at hl 1 rfl) ?_
          refine va_get (D := D) (ci := 6) (v := .ref a_diagram) (C := RX9) (T := TX9) (N := 9) hx hb hts qX9_removeBigon_X9 hown hK hP 0 rfl rfl 2 (Nat.le_of_ble_eq_true rfl) (hts (.fieldLink RX9 26 "KnotDiagram" "diagram" "LKnotDiagram$Diagram;") qX9_removeBigon_0) (fun _ h9 => h9) rfl dX9_removeBigon_52 ?_
          obtain ⟨o_crossings_4, o_circles_4, o_arcs_4, hc_4, hf⟩ := bnd3_s hf
          refine kcVv (As := [.ref a_diagram]) (rest := []) (w2 := [(a_this, .inr (6, [.ref a_text, .ref a_reader, .ref a_diagram, .ref a_draft, .ref a_shelf, .ref a_bracket, .ref a_colouring, .int i_savedStates, .int i_newestPlace])), (a_diagram, .inr (2, [.int i_diagram_crossings, .int i_diagram_circles, .ref a_diagram_arcs])), (a_diagram_arcs, .inl (cyI, 32, .inl f_diagram_arcs)), (a_draft, .inr (2, [.int o_crossings_4, .int o_circles_4, .ref a_draft_arcs])), (a_draft_arcs, .inl (cyI, 32, .inl o_arcs_4)), (a_shelf, .inr (4, [.ref a_shelf_cells, .ref a_shelf_filled])), (a_shelf_cells, .inl (cyI, 340, .inl f_shelf_cells)), (a_shelf_filled, .inl (cyZ, 10, .inl f_shelf_filled)), (a_bracket, .inr (0, [.ref a_bracket_otherEnds, .ref a_bracket_tally, .ref a_bracket_coefficients, .ref a_bracket_product, .int i_bracket_prepared]))]) S hK hP hD hS hA hN (mX2_copyFrom l D cyI cyZ H.size a_draft a_diagram a_draft_arcs a_diagram_arcs i_draft_crossings i_draft_circles f_draft_arcs i_diagram_crossings i_diagram_circles f_diagram_arcs o_crossings_4 o_circles_4 o_arcs_4 hc_4) (cwV 1 hts gX9_removeBigon_X2_copyFrom rfl rfl rfl (by decide +kernel) ⟨Nat.le_of_ble_eq_true rfl, Nat.le_of_ble_eq_true rfl⟩) 2 3 rfl rfl [3, 4, 1, 2] [0, 5, 6, 7, 8] [0, 7, 8, 5, 6, 1, 2, 3, 4] rfl rfl rfl rfl (by decide) rfl rfl hl.1 (Nat.le_of_ble_eq_true rfl) dX9_removeBigon_55 ⟨Nat.le_of_ble_eq_true rfl, Nat.le_of_ble_eq_true rfl⟩ (fun H locs hP hD hS => ?_)
          refine lv_aload_n hx hb dX9_removeBigon_58 rfl (lv_at hl 1 rfl) ?_
          refine va_get (D := D) (ci := 6) (v := .ref a_draft) (C := RX9) (T := TX9) (N := 9) hx hb hts qX9_removeBigon_X9 hown hK hP 0 rfl rfl 3 (Nat.le_of_ble_eq_true rfl) (hts (.fieldLink RX9 30 "KnotDiagram" "draft" "LKnotDiagram$Diagram;") qX9_removeBigon_2) (fun _ h9 => h9) rfl dX9_removeBigon_59 ?_
          refine lv_iload_n hx hb dX9_removeBigon_62 rfl (lv_at hl 2 rfl) ?_
          refine lv_iload_n hx hb dX9_removeBigon_63 rfl (lv_at hl 3 rfl) ?_
          refine lv_iload_n hx hb dX9_removeBigon_64 rfl (lv_at hl 0 rfl) ?_
          obtain ⟨o_p0_crossings_5, o_p0_circles_5, o_p0_arcs_5, hc_5, hf⟩ := bnd3_s hf
          refine kcSv (As := [.ref a_draft, .int v1, .int v2, .int r_3]) (rest := []) (w2 := [(a_this, .inr (6, [.ref a_text, .ref a_reader, .ref a_diagram, .ref a_draft, .ref a_shelf, .ref a_bracket, .ref a_colouring, .int i_savedStates, .int i_newestPlace])), (a_diagram, .inr (2, [.int i_diagram_crossings, .int i_diagram_circles, .ref a_diagram_arcs])), (a_diagram_arcs, .inl (cyI, 32, .inl f_diagram_arcs)), (a_draft, .inr (2, [.int o_p0_crossings_5, .int o_p0_circles_5, .ref a_draft_arcs])), (a_draft_arcs, .inl (cyI, 32, .inl o_p0_arcs_5)), (a_shelf, .inr (4, [.ref a_shelf_cells, .ref a_shelf_filled])), (a_shelf_cells, .inl (cyI, 340, .inl f_shelf_cells)), (a_shelf_filled, .inl (cyZ, 10, .inl f_shelf_filled)), (a_bracket, .inr (0, [.ref a_bracket_otherEnds, .ref a_bracket_tally, .ref a_bracket_coefficients, .ref a_bracket_product, .int i_bracket_prepared]))]) S hK hP hD hS hA hN (mX3_dissolveBigon l D cyI cyZ H.size a_draft a_draft_arcs v1 v2 r_3 o_crossings_4 o_circles_4 o_arcs_4 o_p0_crossings_5 o_p0_circles_5 o_p0_arcs_5 hc_5) (va_cwS 4 hts gX9_removeBigon_X3_dissolveBigon rfl rfl rfl (by decide +kernel) ⟨Nat.le_of_ble_eq_true rfl, Nat.le_of_ble_eq_true rfl⟩) [3, 4] [0, 1, 2, 5, 6, 7, 8] [0, 1, 2, 7, 8, 3, 4, 5, 6] rfl rfl rfl rfl (by decide) rfl rfl hl.1 (Nat.le_of_ble_eq_true rfl) dX9_removeBigon_65 ⟨Nat.le_of_ble_eq_true rfl, Nat.le_of_ble_eq_true rfl⟩ (fun H locs hP hD hS => ?_)
          refine lv_aload_n hx hb dX9_removeBigon_68 rfl (lv_at hl 1 rfl) ?_
          obtain ⟨r_6, o_savedStates_6, o_newestPlace_6, o_diagram_crossings_6, o_diagram_circles_6, o_diagram_arcs_6, o_shelf_cells_6, o_shelf_filled_6, o_bracket_prepared_6, hc_6, hf⟩ := bnd9_s hf
          refine kcVi (As := []) (rest := []) (w2 := [(a_this, .inr (6, [.ref a_text, .ref a_reader, .ref a_diagram, .ref a_draft, .ref a_shelf, .ref a_bracket, .ref a_colouring, .int o_savedStates_6, .int o_newestPlace_6])), (a_diagram, .inr (2, [.int o_diagram_crossings_6, .int o_diagram_circles_6, .ref a_diagram_arcs])), (a_diagram_arcs, .inl (cyI, 32, .inl o_diagram_arcs_6)), (a_draft, .inr (2, [.int o_p0_crossings_5, .int o_p0_circles_5, .ref a_draft_arcs])), (a_draft_arcs, .inl (cyI, 32, .inl o_p0_arcs_5)), (a_shelf, .inr (4, [.ref a_shelf_cells, .ref a_shelf_filled])), (a_shelf_cells, .inl (cyI, 340, .inl o_shelf_cells_6)), (a_shelf_filled, .inl (cyZ, 10, .inl o_shelf_filled_6)), (a_bracket, .inr (0, [.ref a_bracket_otherEnds, .ref a_bracket_tally, .ref a_bracket_coefficients, .ref a_bracket_product, .int o_bracket_prepared_6]))]) S hK hP hD hS hA hN (mX9_finishRemoval l D cyI cyZ H.size a_this a_text a_reader a_diagram a_draft a_shelf a_bracket a_colouring a_diagram_arcs a_draft_arcs a_shelf_cells a_shelf_filled a_bracket_otherEnds a_bracket_tally a_bracket_coefficients a_bracket_product i_savedStates i_newestPlace i_diagram_crossings i_diagram_circles f_diagram_arcs o_p0_crossings_5 o_p0_circles_5 o_p0_arcs_5 f_shelf_cells f_shelf_filled i_bracket_prepared r_6 o_savedStates_6 o_newestPlace_6 o_diagram_crossings_6 o_diagram_circles_6 o_diagram_arcs_6 o_shelf_cells_6 o_shelf_filled_6 o_bracket_prepared_6 hc_6) (cwV 0 hts gX9_removeBigon_X9_finishRemoval rfl rfl rfl (by decide +kernel) ⟨Nat.le_of_ble_eq_true rfl, Nat.le_of_ble_eq_true rfl⟩) 6 0 rfl rfl [0, 1, 2, 3, 4, 5, 6, 7, 8] [] [0, 1, 2, 3, 4, 5, 6, 7, 8] rfl rfl rfl rfl (by decide) rfl rfl hl.1 (Nat.le_of_ble_eq_true rfl) dX9_removeBigon_69 ⟨Nat.le_of_ble_eq_true rfl, Nat.le_of_ble_eq_true rfl⟩ (fun H locs hP hD hS => ?_)
          obtain ⟨rfl, rfl, rfl, rfl, rfl, rfl, rfl, rfl, rfl, rfl, rfl, rfl⟩ := some12_s hf
          exact kRi hx hb hr hlocks hP hK hD hS rfl dX9_removeBigon_72
        · replace hf := kt_n hf c_7
          refine lv_ldc (v := (-1000002)) hx hb hown (hts (.constant RX9 102 (-1000002)) qX9_removeBigon_3) dX9_removeBigon_44 ?_
          obtain ⟨rfl, rfl, rfl, rfl, rfl, rfl, rfl, rfl, rfl, rfl, rfl, rfl⟩ := some12_s hf
          exact kRi hx hb hr hlocks hP hK hD hS rfl dX9_removeBigon_46
      · replace hf := kt_p hf c_8
        refine lv_ldc (v := (-1000001)) hx hb hown (hts (.constant RX9 58 (-1000001)) qX9_removeBigon_1) dX9_removeBigon_27 ?_
        obtain ⟨rfl, rfl, rfl, rfl, rfl, rfl, rfl, rfl, rfl, rfl, rfl, rfl⟩ := some12_s hf
        exact kRi hx hb hr hlocks hP hK hD hS rfl dX9_removeBigon_29
def kX9_isKink (v1 : Int32) (i_diagram_crossings : Int32) (f_diagram_arcs : Nat → Int32) : Option (Int32) :=
  bnd1 (kX2_hasCrossing v1 i_diagram_crossings) (fun r_1 => if r_1 = 0 then some (-1000001) else bnd1 (kX3_kinkEnd v1 f_diagram_arcs) (fun r_2 => if 0 ≤ r_2 then some 1 else some 0))
def rmX9_isKink : Room := { frames := 2, cells := 0, slots := 0, locals := 43 }
theorem qX9_isKink_0 : (.fieldLink RX9 26 "KnotDiagram" "diagram" "LKnotDiagram$Diagram;" : Cond) ∈ wsX9_isKink := by decide +kernel
theorem qX9_isKink_1 : (.constant RX9 58 (-1000001) : Cond) ∈ wsX9_isKink := by decide +kernel
theorem qX9_isKink_X9 : ∀ w ∈ wsX90, w ∈ wsX9_isKink := by decide +kernel
set_option maxHeartbeats 4000000 in
set_option maxRecDepth 100000 in
theorem mX9_isKink (l : Launch) (D : va_G) (cyI cyZ : ClassId) (sz : Nat) (a_this a_text a_reader a_diagram a_draft a_shelf a_bracket a_colouring a_diagram_arcs : Nat) (v1 : Int32) (i_savedStates : Int32) (i_newestPlace : Int32) (i_diagram_crossings : Int32) (i_diagram_circles : Int32) (f_diagram_arcs : Nat → Int32) (r : Int32) (hf : kX9_isKink v1 i_diagram_crossings f_diagram_arcs = some r) : Met l yX9_isKink wsX9_isKink rmX9_isKink (kPre D cyI cyZ [.ref a_this, .int v1] [(a_this, .inr (6, [.ref a_text, .ref a_reader, .ref a_diagram, .ref a_draft, .ref a_shelf, .ref a_bracket, .ref a_colouring, .int i_savedStates, .int i_newestPlace])), (a_diagram, .inr (2, [.int i_diagram_crossings, .int i_diagram_circles, .ref a_diagram_arcs])), (a_diagram_arcs, .inl (cyI, 32, .inl f_diagram_arcs))] sz) (kQi D cyI cyZ (va_A [(a_this, .inr (6, [.ref a_text, .ref a_reader, .ref a_diagram, .ref a_draft, .ref a_shelf, .ref a_bracket, .ref a_colouring, .int i_savedStates, .int i_newestPlace])), (a_diagram, .inr (2, [.int i_diagram_crossings, .int i_diagram_circles, .ref a_diagram_arcs])), (a_diagram_arcs, .inl (cyI, 32, .inl f_diagram_arcs))] sz) [(a_this, .inr (6, [.ref a_text, .ref a_reader, .ref a_diagram, .ref a_draft, .ref a_shelf, .ref a_bracket, .ref a_colouring, .int i_savedStates, .int i_newestPlace])), (a_diagram, .inr (2, [.int i_diagram_crossings, .int i_diagram_circles, .ref a_diagram_arcs])), (a_diagram_arcs, .inl (cyI, 32, .inl f_diagram_arcs))] r) 0 0 (va_A [(a_this, .inr (6, [.ref a_text, .ref a_reader, .ref a_diagram, .ref a_draft, .ref a_shelf, .ref a_bracket, .ref a_colouring, .int i_savedStates, .int i_newestPlace])), (a_diagram, .inr (2, [.int i_diagram_crossings, .int i_diagram_circles, .ref a_diagram_arcs])), (a_diagram_arcs, .inl (cyI, 32, .inl f_diagram_arcs))] sz) := by
  refine Met.ofW (cc := cX9_isKink) (maxL := 2) (ret := (some .int)) (by decide) rfl ?_
  intro p e s m args below meth c s₁ B hml hv
  obtain ⟨rfl, hsz, hP, hK, hD0, hN⟩ := hv
  have hx := B.exec
  have hb := B.bytes
  have hr := B.returns
  have hts := atoms_spec (ws := wsX9_isKink) B.pre
  have hown : s.vm.findClass RX9 = some m.cls := findClass_of_methodNamed B.named
  have hlocks := B.notSynchronized
  subst hsz
  have hD := hD0.self (sz := s.heap.size)
  generalize hAe : va_A [(a_this, .inr (6, [.ref a_text, .ref a_reader, .ref a_diagram, .ref a_draft, .ref a_shelf, .ref a_bracket, .ref a_colouring, .int i_savedStates, .int i_newestPlace])), (a_diagram, .inr (2, [.int i_diagram_crossings, .int i_diagram_circles, .ref a_diagram_arcs])), (a_diagram_arcs, .inl (cyI, 32, .inl f_diagram_arcs))] s.heap.size = A at hD ⊢
  have hA : ∀ q : Nat, s.heap.size ≤ q → A q := fun q h => by rw [← hAe]; exact Or.inr h
  clear hAe hD0
  have hS : va_S A s.heap s.heap [] := va_S.rf
  have S : CallFix p m c cX9_isKink 2 s (([.ref a_this, .int v1] : List Value).toArray) wsX9_isKink RX9 := ⟨hx, hb, hml, hown, hts⟩
  have hl := lv_entry ([.ref a_this, .int v1]) (n := 2) (Nat.le_of_ble_eq_true rfl)
  rw [lg_entry_eq]
  generalize (lg_sl ([.ref a_this, .int v1]) ++ List.replicate (2 - (lg_sl ([.ref a_this, .int v1])).length) Slot.unset).toArray = ls at hl ⊢
  replace hl : lv_has ls 2 [(0, .ref a_this), (1, .int v1)] := hl
  generalize ([] : List Loc) = locs at hS ⊢
  delta kX9_isKink at hf
  obtain ⟨H, hH⟩ : ∃ H, H = s.heap := ⟨_, rfl⟩
  have hS : va_S A s.heap H locs := by rw [hH]; exact hS
  have hP : va_P D vwCl [(a_this, .inr (6, [.ref a_text, .ref a_reader, .ref a_diagram, .ref a_draft, .ref a_shelf, .ref a_bracket, .ref a_colouring, .int i_savedStates, .int i_newestPlace])), (a_diagram, .inr (2, [.int i_diagram_crossings, .int i_diagram_circles, .ref a_diagram_arcs])), (a_diagram_arcs, .inl (cyI, 32, .inl f_diagram_arcs))] H := by rw [hH]; exact hP
  suffices hgo : W p l e (headSpec wsX9_isKink rmX9_isKink).room s m (([.ref a_this, .int v1] : List Value).toArray) below meth c H locs 0 0 (MQ below (kQi D cyI cyZ A [(a_this, .inr (6, [.ref a_text, .ref a_reader, .ref a_diagram, .ref a_draft, .ref a_shelf, .ref a_bracket, .ref a_colouring, .int i_savedStates, .int i_newestPlace])), (a_diagram, .inr (2, [.int i_diagram_crossings, .int i_diagram_circles, .ref a_diagram_arcs])), (a_diagram_arcs, .inl (cyI, 32, .inl f_diagram_arcs))] r) (([.ref a_this, .int v1] : List Value).toArray) s 0 0 A) (F0 m 0 ls []) by rw [hH] at hgo; exact hgo
  clear hH
  refine lv_aload_n hx hb dX9_isKink_0 rfl (lv_at hl 0 rfl) ?_
  refine va_get (D := D) (ci := 6) (v := .ref a_diagram) (C := RX9) (T := TX9) (N := 9) hx hb hts qX9_isKink_X9 hown hK hP 0 rfl rfl 2 (Nat.le_of_ble_eq_true rfl) (hts (.fieldLink RX9 26 "KnotDiagram" "diagram" "LKnotDiagram$Diagram;") qX9_isKink_0) (fun _ h9 => h9) rfl dX9_isKink_1 ?_
  refine lv_iload_n hx hb dX9_isKink_4 rfl (lv_at hl 1 rfl) ?_
  obtain ⟨r_1, hc_1, hf⟩ := bnd1_s hf
  refine kcVi (As := [.int v1]) (rest := []) (w2 := [(a_this, .inr (6, [.ref a_text, .ref a_reader, .ref a_diagram, .ref a_draft, .ref a_shelf, .ref a_bracket, .ref a_colouring, .int i_savedStates, .int i_newestPlace])), (a_diagram, .inr (2, [.int i_diagram_crossings, .int i_diagram_circles, .ref a_diagram_arcs])), (a_diagram_arcs, .inl (cyI, 32, .inl f_diagram_arcs))]) S hK hP hD hS hA hN (mX2_hasCrossing l D cyI cyZ H.size a_diagram a_diagram_arcs v1 i_diagram_crossings i_diagram_circles r_1 hc_1) (cwV 1 hts gX9_isKink_X2_hasCrossing rfl rfl rfl (by decide +kernel) ⟨Nat.le_of_ble_eq_true rfl, Nat.le_of_ble_eq_true rfl⟩) 2 1 rfl rfl [1] [0, 2] [0, 2, 1] rfl rfl rfl rfl (by decide) rfl rfl hl.1 (Nat.le_of_ble_eq_true rfl) dX9_isKink_5 ⟨Nat.le_of_ble_eq_true rfl, Nat.le_of_ble_eq_true rfl⟩ (fun H locs hP hD hS => ?_)
  refine lv_if_ne (tgt := 14) hx hb dX9_isKink_8 (by decide) (fun c_4 => ?_) (fun c_4 => ?_)
  · replace hf := kt_n hf c_4
    refine lv_aload_n hx hb dX9_isKink_14 rfl (lv_at hl 0 rfl) ?_
    refine va_get (D := D) (ci := 6) (v := .ref a_diagram) (C := RX9) (T := TX9) (N := 9) hx hb hts qX9_isKink_X9 hown hK hP 0 rfl rfl 2 (Nat.le_of_ble_eq_true rfl) (hts (.fieldLink RX9 26 "KnotDiagram" "diagram" "LKnotDiagram$Diagram;") qX9_isKink_0) (fun _ h9 => h9) rfl dX9_isKink_15 ?_
    refine lv_iload_n hx hb dX9_isKink_18 rfl (lv_at hl 1 rfl) ?_
    obtain ⟨r_2, hc_2, hf⟩ := bnd1_s hf
    refine kcSi (As := [.ref a_diagram, .int v1]) (rest := []) (w2 := [(a_this, .inr (6, [.ref a_text, .ref a_reader, .ref a_diagram, .ref a_draft, .ref a_shelf, .ref a_bracket, .ref a_colouring, .int i_savedStates, .int i_newestPlace])), (a_diagram, .inr (2, [.int i_diagram_crossings, .int i_diagram_circles, .ref a_diagram_arcs])), (a_diagram_arcs, .inl (cyI, 32, .inl f_diagram_arcs))]) S hK hP hD hS hA hN (mX3_kinkEnd l D cyI cyZ H.size a_diagram a_diagram_arcs v1 i_diagram_crossings i_diagram_circles f_diagram_arcs r_2 hc_2) (va_cwS 2 hts gX9_isKink_X3_kinkEnd rfl rfl rfl (by decide +kernel) ⟨Nat.le_of_ble_eq_true rfl, Nat.le_of_ble_eq_true rfl⟩) [1, 2] [0] [0, 1, 2] rfl rfl rfl rfl (by decide) rfl rfl hl.1 (Nat.le_of_ble_eq_true rfl) dX9_isKink_19 ⟨Nat.le_of_ble_eq_true rfl, Nat.le_of_ble_eq_true rfl⟩ (fun H locs hP hD hS => ?_)
    refine lv_if_ge (tgt := 29) hx hb dX9_isKink_22 (by decide) (fun c_3 => ?_) (fun c_3 => ?_)
    · replace hf := kt_p hf c_3
      refine lv_iconst (v := 1) hx hb dX9_isKink_29 (by decide) ?_
      obtain rfl := some1_s hf
      exact kRi hx hb hr hlocks hP hK hD hS rfl dX9_isKink_30
    · replace hf := kt_n hf c_3
      refine lv_iconst (v := 0) hx hb dX9_isKink_25 (by decide) ?_
      refine lv_goto (tgt := 30) hx hb dX9_isKink_26 (by decide) ?_
      obtain rfl := some1_s hf
      exact kRi hx hb hr hlocks hP hK hD hS rfl dX9_isKink_30
  · replace hf := kt_p hf c_4
    refine lv_ldc (v := (-1000001)) hx hb hown (hts (.constant RX9 58 (-1000001)) qX9_isKink_1) dX9_isKink_11 ?_
    obtain rfl := some1_s hf
    exact kRi hx hb hr hlocks hP hK hD hS rfl dX9_isKink_13
def kX9_bigonPartner_L1 (i_diagram_crossings : Int32) (v1 : Int32) (f_diagram_arcs : Nat → Int32) (K_1 : Int32 → Option (Int32)) (v3_1 : Int32) : Option (Int32) :=
  if i_diagram_crossings ≤ v3_1 then some (-1000009) else if v3_1 = v1 then K_1 (v3_1 + 1) else bnd1 (kX3_bigonCorner v1 v3_1 f_diagram_arcs) (fun r_2 => if r_2 < 0 then K_1 (v3_1 + 1) else some v3_1)
def kX9_bigonPartner (v1 : Int32) (i_diagram_crossings : Int32) (f_diagram_arcs : Nat → Int32) : Option (Int32) :=
  bnd1 (kX2_hasCrossing v1 i_diagram_crossings) (fun r_1 => if r_1 = 0 then some (-1000001) else it1 (kX9_bigonPartner_L1 i_diagram_crossings v1 f_diagram_arcs) 400 0)
def rmX9_bigonPartner : Room := { frames := 3, cells := 0, slots := 0, locals := 68 }
theorem qX9_bigonPartner_0 : (.fieldLink RX9 26 "KnotDiagram" "diagram" "LKnotDiagram$Diagram;" : Cond) ∈ wsX9_bigonPartner := by decide +kernel
theorem qX9_bigonPartner_1 : (.fieldLink RX9 74 "KnotDiagram$Diagram" "crossings" "I" : Cond) ∈ wsX9_bigonPartner := by decide +kernel
theorem qX9_bigonPartner_2 : (.constant RX9 128 (-1000009) : Cond) ∈ wsX9_bigonPartner := by decide +kernel
theorem qX9_bigonPartner_3 : (.constant RX9 58 (-1000001) : Cond) ∈ wsX9_bigonPartner := by decide +kernel
theorem qX9_bigonPartner_X9 : ∀ w ∈ wsX90, w ∈ wsX9_bigonPartner := by decide +kernel
theorem qX9_bigonPartner_X2 : ∀ w ∈ wsX20, w ∈ wsX9_bigonPartner := by decide +kernel
set_option maxHeartbeats 4000000 in
set_option maxRecDepth 100000 in
theorem mX9_bigonPartner (l : Launch) (D : va_G) (cyI cyZ : ClassId) (sz : Nat) (a_this a_text a_reader a_diagram a_draft a_shelf a_bracket a_colouring a_diagram_arcs : Nat) (v1 : Int32) (i_savedStates : Int32) (i_newestPlace : Int32) (i_diagram_crossings : Int32) (i_diagram_circles : Int32) (f_diagram_arcs : Nat → Int32) (r : Int32) (hf : kX9_bigonPartner v1 i_diagram_crossings f_diagram_arcs = some r) : Met l yX9_bigonPartner wsX9_bigonPartner rmX9_bigonPartner (kPre D cyI cyZ [.ref a_this, .int v1] [(a_this, .inr (6, [.ref a_text, .ref a_reader, .ref a_diagram, .ref a_draft, .ref a_shelf, .ref a_bracket, .ref a_colouring, .int i_savedStates, .int i_newestPlace])), (a_diagram, .inr (2, [.int i_diagram_crossings, .int i_diagram_circles, .ref a_diagram_arcs])), (a_diagram_arcs, .inl (cyI, 32, .inl f_diagram_arcs))] sz) (kQi D cyI cyZ (va_A [(a_this, .inr (6, [.ref a_text, .ref a_reader, .ref a_diagram, .ref a_draft, .ref a_shelf, .ref a_bracket, .ref a_colouring, .int i_savedStates, .int i_newestPlace])), (a_diagram, .inr (2, [.int i_diagram_crossings, .int i_diagram_circles, .ref a_diagram_arcs])), (a_diagram_arcs, .inl (cyI, 32, .inl f_diagram_arcs))] sz) [(a_this, .inr (6, [.ref a_text, .ref a_reader, .ref a_diagram, .ref a_draft, .ref a_shelf, .ref a_bracket, .ref a_colouring, .int i_savedStates, .int i_newestPlace])), (a_diagram, .inr (2, [.int i_diagram_crossings, .int i_diagram_circles, .ref a_diagram_arcs])), (a_diagram_arcs, .inl (cyI, 32, .inl f_diagram_arcs))] r) 0 0 (va_A [(a_this, .inr (6, [.ref a_text, .ref a_reader, .ref a_diagram, .ref a_draft, .ref a_shelf, .ref a_bracket, .ref a_colouring, .int i_savedStates, .int i_newestPlace])), (a_diagram, .inr (2, [.int i_diagram_crossings, .int i_diagram_circles, .ref a_diagram_arcs])), (a_diagram_arcs, .inl (cyI, 32, .inl f_diagram_arcs))] sz) := by
  refine Met.ofW (cc := cX9_bigonPartner) (maxL := 4) (ret := (some .int)) (by decide) rfl ?_
  intro p e s m args below meth c s₁ B hml hv
  obtain ⟨rfl, hsz, hP, hK, hD0, hN⟩ := hv
  have hx := B.exec
  have hb := B.bytes
  have hr := B.returns
  have hts := atoms_spec (ws := wsX9_bigonPartner) B.pre
  have hown : s.vm.findClass RX9 = some m.cls := findClass_of_methodNamed B.named
  have hlocks := B.notSynchronized
  subst hsz
  have hD := hD0.self (sz := s.heap.size)
  generalize hAe : va_A [(a_this, .inr (6, [.ref a_text, .ref a_reader, .ref a_diagram, .ref a_draft, .ref a_shelf, .ref a_bracket, .ref a_colouring, .int i_savedStates, .int i_newestPlace])), (a_diagram, .inr (2, [.int i_diagram_crossings, .int i_diagram_circles, .ref a_diagram_arcs])), (a_diagram_arcs, .inl (cyI, 32, .inl f_diagram_arcs))] s.heap.size = A at hD ⊢
  have hA : ∀ q : Nat, s.heap.size ≤ q → A q := fun q h => by rw [← hAe]; exact Or.inr h
  clear hAe hD0
  have hS : va_S A s.heap s.heap [] := va_S.rf
  have S : CallFix p m c cX9_bigonPartner 4 s (([.ref a_this, .int v1] : List Value).toArray) wsX9_bigonPartner RX9 := ⟨hx, hb, hml, hown, hts⟩
  have hl := lv_entry ([.ref a_this, .int v1]) (n := 4) (Nat.le_of_ble_eq_true rfl)
  rw [lg_entry_eq]
  generalize (lg_sl ([.ref a_this, .int v1]) ++ List.replicate (4 - (lg_sl ([.ref a_this, .int v1])).length) Slot.unset).toArray = ls at hl ⊢
  replace hl : lv_has ls 4 [(0, .ref a_this), (1, .int v1)] := hl
  generalize ([] : List Loc) = locs at hS ⊢
  delta kX9_bigonPartner at hf
  obtain ⟨H, hH⟩ : ∃ H, H = s.heap := ⟨_, rfl⟩
  have hS : va_S A s.heap H locs := by rw [hH]; exact hS
  have hP : va_P D vwCl [(a_this, .inr (6, [.ref a_text, .ref a_reader, .ref a_diagram, .ref a_draft, .ref a_shelf, .ref a_bracket, .ref a_colouring, .int i_savedStates, .int i_newestPlace])), (a_diagram, .inr (2, [.int i_diagram_crossings, .int i_diagram_circles, .ref a_diagram_arcs])), (a_diagram_arcs, .inl (cyI, 32, .inl f_diagram_arcs))] H := by rw [hH]; exact hP
  suffices hgo : W p l e (headSpec wsX9_bigonPartner rmX9_bigonPartner).room s m (([.ref a_this, .int v1] : List Value).toArray) below meth c H locs 0 0 (MQ below (kQi D cyI cyZ A [(a_this, .inr (6, [.ref a_text, .ref a_reader, .ref a_diagram, .ref a_draft, .ref a_shelf, .ref a_bracket, .ref a_colouring, .int i_savedStates, .int i_newestPlace])), (a_diagram, .inr (2, [.int i_diagram_crossings, .int i_diagram_circles, .ref a_diagram_arcs])), (a_diagram_arcs, .inl (cyI, 32, .inl f_diagram_arcs))] r) (([.ref a_this, .int v1] : List Value).toArray) s 0 0 A) (F0 m 0 ls []) by rw [hH] at hgo; exact hgo
  clear hH
  refine lv_aload_n hx hb dX9_bigonPartner_0 rfl (lv_at hl 0 rfl) ?_
  refine va_get (D := D) (ci := 6) (v := .ref a_diagram) (C := RX9) (T := TX9) (N := 9) hx hb hts qX9_bigonPartner_X9 hown hK hP 0 rfl rfl 2 (Nat.le_of_ble_eq_true rfl) (hts (.fieldLink RX9 26 "KnotDiagram" "diagram" "LKnotDiagram$Diagram;") qX9_bigonPartner_0) (fun _ h9 => h9) rfl dX9_bigonPartner_1 ?_
  refine lv_iload_n hx hb dX9_bigonPartner_4 rfl (lv_at hl 1 rfl) ?_
  obtain ⟨r_1, hc_1, hf⟩ := bnd1_s hf
  refine kcVi (As := [.int v1]) (rest := []) (w2 := [(a_this, .inr (6, [.ref a_text, .ref a_reader, .ref a_diagram, .ref a_draft, .ref a_shelf, .ref a_bracket, .ref a_colouring, .int i_savedStates, .int i_newestPlace])), (a_diagram, .inr (2, [.int i_diagram_crossings, .int i_diagram_circles, .ref a_diagram_arcs])), (a_diagram_arcs, .inl (cyI, 32, .inl f_diagram_arcs))]) S hK hP hD hS hA hN (mX2_hasCrossing l D cyI cyZ H.size a_diagram a_diagram_arcs v1 i_diagram_crossings i_diagram_circles r_1 hc_1) (cwV 1 hts gX9_bigonPartner_X2_hasCrossing rfl rfl rfl (by decide +kernel) ⟨Nat.le_of_ble_eq_true rfl, Nat.le_of_ble_eq_true rfl⟩) 2 1 rfl rfl [1] [0, 2] [0, 2, 1] rfl rfl rfl rfl (by decide) rfl rfl hl.1 (Nat.le_of_ble_eq_true rfl) dX9_bigonPartner_5 ⟨Nat.le_of_ble_eq_true rfl, Nat.le_of_ble_eq_true rfl⟩ (fun H locs hP hD hS => ?_)
  refine lv_if_ne (tgt := 14) hx hb dX9_bigonPartner_8 (by decide) (fun c_6 => ?_) (fun c_6 => ?_)
  · replace hf := kt_n hf c_6
    refine lv_aload_n hx hb dX9_bigonPartner_14 rfl (lv_at hl 0 rfl) ?_
    refine va_get (D := D) (ci := 6) (v := .ref a_diagram) (C := RX9) (T := TX9) (N := 9) hx hb hts qX9_bigonPartner_X9 hown hK hP 0 rfl rfl 2 (Nat.le_of_ble_eq_true rfl) (hts (.fieldLink RX9 26 "KnotDiagram" "diagram" "LKnotDiagram$Diagram;") qX9_bigonPartner_0) (fun _ h9 => h9) rfl dX9_bigonPartner_15 ?_
    refine va_get (D := D) (ci := 2) (v := .int i_diagram_crossings) (C := RX2) (T := TX2) (N := 3) hx hb hts qX9_bigonPartner_X2 hown hK hP 1 rfl rfl 0 (Nat.le_of_ble_eq_true rfl) (hts (.fieldLink RX9 74 "KnotDiagram$Diagram" "crossings" "I") qX9_bigonPartner_1) (fun _ h9 => h9) rfl dX9_bigonPartner_18 ?_
    refine lv_istore_n (lv' := [(2, .int i_diagram_crossings), (0, .ref a_this), (1, .int v1)]) hx hb dX9_bigonPartner_21 rfl hl (by decide) rfl (fun ls hl => ?_)
    refine lv_iconst (v := 0) hx hb dX9_bigonPartner_22 (by decide) ?_
    refine lv_istore_n (lv' := [(3, .int 0), (2, .int i_diagram_crossings), (0, .ref a_this), (1, .int v1)]) hx hb dX9_bigonPartner_23 rfl hl (by decide) rfl (fun ls hl => ?_)
    have hL_1 : ∀ (n : Nat) (v3_1 : Int32) (H : Heap) (locs : List Loc) (ls : Array Slot), it1 (kX9_bigonPartner_L1 i_diagram_crossings v1 f_diagram_arcs) n v3_1 = some r → va_P D vwCl [(a_this, .inr (6, [.ref a_text, .ref a_reader, .ref a_diagram, .ref a_draft, .ref a_shelf, .ref a_bracket, .ref a_colouring, .int i_savedStates, .int i_newestPlace])), (a_diagram, .inr (2, [.int i_diagram_crossings, .int i_diagram_circles, .ref a_diagram_arcs])), (a_diagram_arcs, .inl (cyI, 32, .inl f_diagram_arcs))] H → va_D A [(a_this, .inr (6, [.ref a_text, .ref a_reader, .ref a_diagram, .ref a_draft, .ref a_shelf, .ref a_bracket, .ref a_colouring, .int i_savedStates, .int i_newestPlace])), (a_diagram, .inr (2, [.int i_diagram_crossings, .int i_diagram_circles, .ref a_diagram_arcs])), (a_diagram_arcs, .inl (cyI, 32, .inl f_diagram_arcs))] → va_S A s.heap H locs → lv_has ls 4 [(0, .ref a_this), (1, .int v1), (2, .int i_diagram_crossings), (3, .int v3_1)] → W p l e (headSpec wsX9_bigonPartner rmX9_bigonPartner).room s m (([.ref a_this, .int v1] : List Value).toArray) below meth c H locs 0 0 (MQ below (kQi D cyI cyZ A [(a_this, .inr (6, [.ref a_text, .ref a_reader, .ref a_diagram, .ref a_draft, .ref a_shelf, .ref a_bracket, .ref a_colouring, .int i_savedStates, .int i_newestPlace])), (a_diagram, .inr (2, [.int i_diagram_crossings, .int i_diagram_circles, .ref a_diagram_arcs])), (a_diagram_arcs, .inl (cyI, 32, .inl f_diagram_arcs))] r) (([.ref a_this, .int v1] : List Value).toArray) s 0 0 A) (F0 m 24 ls []) := by
      intro n_1
      induction n_1 with
      | zero =>
        intro _ _ _ _ hf
        exact (it1_z hf).elim
      | succ n_1 ih_1 =>
        intro v3_1 H locs ls hf hP hD hS hl
        replace hf := it1_s hf
        rw [kX9_bigonPartner_L1] at hf
        refine lv_iload_n hx hb dX9_bigonPartner_24 rfl (lv_at hl 3 rfl) ?_
        refine lv_iload_n hx hb dX9_bigonPartner_25 rfl (lv_at hl 2 rfl) ?_
        refine lv_icmp_ge (tgt := 54) hx hb dX9_bigonPartner_26 (by decide) (fun c_5 => ?_) (fun c_5 => ?_)
        · replace hf := kt_p hf c_5
          refine lv_ldc (v := (-1000009)) hx hb hown (hts (.constant RX9 128 (-1000009)) qX9_bigonPartner_2) dX9_bigonPartner_54 ?_
          obtain rfl := some1_s hf
          exact kRi hx hb hr hlocks hP hK hD hS rfl dX9_bigonPartner_56
        · replace hf := kt_n hf c_5
          refine lv_iload_n hx hb dX9_bigonPartner_29 rfl (lv_at hl 3 rfl) ?_
          refine lv_iload_n hx hb dX9_bigonPartner_30 rfl (lv_at hl 1 rfl) ?_
          refine lv_icmp_eq (tgt := 48) hx hb dX9_bigonPartner_31 (by decide) (fun c_4 => ?_) (fun c_4 => ?_)
          · replace hf := kt_p hf c_4
            refine lv_iinc (v := (v3_1 + 1)) (lv' := [(3, .int (v3_1 + 1)), (0, .ref a_this), (1, .int v1), (2, .int i_diagram_crossings)]) hx hb dX9_bigonPartner_48 hl (k := 3) rfl rfl (by decide) rfl (fun ls hl => ?_)
            refine lv_goto (tgt := 24) hx hb dX9_bigonPartner_51 (by decide) ?_
            exact ih_1 (v3_1 + 1) H locs ls hf hP hD hS (lv_sub hl [1, 2, 3, 0] rfl)
          · replace hf := kt_n hf c_4
            refine lv_aload_n hx hb dX9_bigonPartner_34 rfl (lv_at hl 0 rfl) ?_
            refine va_get (D := D) (ci := 6) (v := .ref a_diagram) (C := RX9) (T := TX9) (N := 9) hx hb hts qX9_bigonPartner_X9 hown hK hP 0 rfl rfl 2 (Nat.le_of_ble_eq_true rfl) (hts (.fieldLink RX9 26 "KnotDiagram" "diagram" "LKnotDiagram$Diagram;") qX9_bigonPartner_0) (fun _ h9 => h9) rfl dX9_bigonPartner_35 ?_
            refine lv_iload_n hx hb dX9_bigonPartner_38 rfl (lv_at hl 1 rfl) ?_
            refine lv_iload_n hx hb dX9_bigonPartner_39 rfl (lv_at hl 3 rfl) ?_
            obtain ⟨r_2, hc_2, hf⟩ := bnd1_s hf
            refine kcSi (As := [.ref a_diagram, .int v1, .int v3_1]) (rest := []) (w2 := [(a_this, .inr (6, [.ref a_text, .ref a_reader, .ref a_diagram, .ref a_draft, .ref a_shelf, .ref a_bracket, .ref a_colouring, .int i_savedStates, .int i_newestPlace])), (a_diagram, .inr (2, [.int i_diagram_crossings, .int i_diagram_circles, .ref a_diagram_arcs])), (a_diagram_arcs, .inl (cyI, 32, .inl f_diagram_arcs))]) S hK hP hD hS hA hN (mX3_bigonCorner l D cyI cyZ H.size a_diagram a_diagram_arcs v1 v3_1 i_diagram_crossings i_diagram_circles f_diagram_arcs r_2 hc_2) (va_cwS 3 hts gX9_bigonPartner_X3_bigonCorner rfl rfl rfl (by decide +kernel) ⟨Nat.le_of_ble_eq_true rfl, Nat.le_of_ble_eq_true rfl⟩) [1, 2] [0] [0, 1, 2] rfl rfl rfl rfl (by decide) rfl rfl hl.1 (Nat.le_of_ble_eq_true rfl) dX9_bigonPartner_40 ⟨Nat.le_of_ble_eq_true rfl, Nat.le_of_ble_eq_true rfl⟩ (fun H locs hP hD hS => ?_)
            refine lv_if_lt (tgt := 48) hx hb dX9_bigonPartner_43 (by decide) (fun c_3 => ?_) (fun c_3 => ?_)
            · replace hf := kt_p hf c_3
              refine lv_iinc (v := (v3_1 + 1)) (lv' := [(3, .int (v3_1 + 1)), (0, .ref a_this), (1, .int v1), (2, .int i_diagram_crossings)]) hx hb dX9_bigonPartner_48 hl (k := 3) rfl rfl (by decide) rfl (fun ls hl => ?_)
              refine lv_goto (tgt := 24) hx hb dX9_bigonPartner_51 (by decide) ?_
              exact ih_1 (v3_1 + 1) H locs ls hf hP hD hS (lv_sub hl [1, 2, 3, 0] rfl)
            · replace hf := kt_n hf c_3
              refine lv_iload_n hx hb dX9_bigonPartner_46 rfl (lv_at hl 3 rfl) ?_
              obtain rfl := some1_s hf
              exact kRi hx hb hr hlocks hP hK hD hS rfl dX9_bigonPartner_47
    exact hL_1 400 0 H locs ls hf hP hD hS (lv_sub hl [2, 3, 1, 0] rfl)
  · replace hf := kt_p hf c_6
    refine lv_ldc (v := (-1000001)) hx hb hown (hts (.constant RX9 58 (-1000001)) qX9_bigonPartner_3) dX9_bigonPartner_11 ?_
    obtain rfl := some1_s hf
    exact kRi hx hb hr hlocks hP hK hD hS rfl dX9_bigonPartner_13
def kX9_componentCount (i_diagram_crossings : Int32) (i_diagram_circles : Int32) (f_diagram_arcs : Nat → Int32) : Option (Int32) :=
  bnd1 (kX7_count i_diagram_crossings f_diagram_arcs) (fun r_1 => some (r_1 + i_diagram_circles))
def rmX9_componentCount : Room := { frames := 4, cells := 0, slots := 0, locals := 94 }
theorem qX9_componentCount_0 : (.fieldLink RX9 26 "KnotDiagram" "diagram" "LKnotDiagram$Diagram;" : Cond) ∈ wsX9_componentCount := by decide +kernel
theorem qX9_componentCount_1 : (.fieldLink RX9 54 "KnotDiagram$Diagram" "circles" "I" : Cond) ∈ wsX9_componentCount := by decide +kernel
theorem qX9_componentCount_X9 : ∀ w ∈ wsX90, w ∈ wsX9_componentCount := by decide +kernel
theorem qX9_componentCount_X2 : ∀ w ∈ wsX20, w ∈ wsX9_componentCount := by decide +kernel
set_option maxHeartbeats 4000000 in
set_option maxRecDepth 100000 in
theorem mX9_componentCount (l : Launch) (D : va_G) (cyI cyZ : ClassId) (sz : Nat) (a_this a_text a_reader a_diagram a_draft a_shelf a_bracket a_colouring a_diagram_arcs : Nat) (i_savedStates : Int32) (i_newestPlace : Int32) (i_diagram_crossings : Int32) (i_diagram_circles : Int32) (f_diagram_arcs : Nat → Int32) (r : Int32) (hf : kX9_componentCount i_diagram_crossings i_diagram_circles f_diagram_arcs = some r) : Met l yX9_componentCount wsX9_componentCount rmX9_componentCount (kPre D cyI cyZ [.ref a_this] [(a_this, .inr (6, [.ref a_text, .ref a_reader, .ref a_diagram, .ref a_draft, .ref a_shelf, .ref a_bracket, .ref a_colouring, .int i_savedStates, .int i_newestPlace])), (a_diagram, .inr (2, [.int i_diagram_crossings, .int i_diagram_circles, .ref a_diagram_arcs])), (a_diagram_arcs, .inl (cyI, 32, .inl f_diagram_arcs))] sz) (kQi D cyI cyZ (va_A [(a_this, .inr (6, [.ref a_text, .ref a_reader, .ref a_diagram, .ref a_draft, .ref a_shelf, .ref a_bracket, .ref a_colouring, .int i_savedStates, .int i_newestPlace])), (a_diagram, .inr (2, [.int i_diagram_crossings, .int i_diagram_circles, .ref a_diagram_arcs])), (a_diagram_arcs, .inl (cyI, 32, .inl f_diagram_arcs))] sz) [(a_this, .inr (6, [.ref a_text, .ref a_reader, .ref a_diagram, .ref a_draft, .ref a_shelf, .ref a_bracket, .ref a_colouring, .int i_savedStates, .int i_newestPlace])), (a_diagram, .inr (2, [.int i_diagram_crossings, .int i_diagram_circles, .ref a_diagram_arcs])), (a_diagram_arcs, .inl (cyI, 32, .inl f_diagram_arcs))] r) 0 0 (va_A [(a_this, .inr (6, [.ref a_text, .ref a_reader, .ref a_diagram, .ref a_draft, .ref a_shelf, .ref a_bracket, .ref a_colouring, .int i_savedStates, .int i_newestPlace])), (a_diagram, .inr (2, [.int i_diagram_crossings, .int i_diagram_circles, .ref a_diagram_arcs])), (a_diagram_arcs, .inl (cyI, 32, .inl f_diagram_arcs))] sz) := by
  refine Met.ofW (cc := cX9_componentCount) (maxL := 1) (ret := (some .int)) (by decide) rfl ?_
  intro p e s m args below meth c s₁ B hml hv
  obtain ⟨rfl, hsz, hP, hK, hD0, hN⟩ := hv
  have hx := B.exec
  have hb := B.bytes
  have hr := B.returns
  have hts := atoms_spec (ws := wsX9_componentCount) B.pre
  have hown : s.vm.findClass RX9 = some m.cls := findClass_of_methodNamed B.named
  have hlocks := B.notSynchronized
  subst hsz
  have hD := hD0.self (sz := s.heap.size)
  generalize hAe : va_A [(a_this, .inr (6, [.ref a_text, .ref a_reader, .ref a_diagram, .ref a_draft, .ref a_shelf, .ref a_bracket, .ref a_colouring, .int i_savedStates, .int i_newestPlace])), (a_diagram, .inr (2, [.int i_diagram_crossings, .int i_diagram_circles, .ref a_diagram_arcs])), (a_diagram_arcs, .inl (cyI, 32, .inl f_diagram_arcs))] s.heap.size = A at hD ⊢
  have hA : ∀ q : Nat, s.heap.size ≤ q → A q := fun q h => by rw [← hAe]; exact Or.inr h
  clear hAe hD0
  have hS : va_S A s.heap s.heap [] := va_S.rf
  have S : CallFix p m c cX9_componentCount 1 s (([.ref a_this] : List Value).toArray) wsX9_componentCount RX9 := ⟨hx, hb, hml, hown, hts⟩
  have hl := lv_entry ([.ref a_this]) (n := 1) (Nat.le_of_ble_eq_true rfl)
  rw [lg_entry_eq]
  generalize (lg_sl ([.ref a_this]) ++ List.replicate (1 - (lg_sl ([.ref a_this])).length) Slot.unset).toArray = ls at hl ⊢
  replace hl : lv_has ls 1 [(0, .ref a_this)] := hl
  generalize ([] : List Loc) = locs at hS ⊢
  delta kX9_componentCount at hf
  obtain ⟨H, hH⟩ : ∃ H, H = s.heap := ⟨_, rfl⟩
  have hS : va_S A s.heap H locs := by rw [hH]; exact hS
  have hP : va_P D vwCl [(a_this, .inr (6, [.ref a_text, .ref a_reader, .ref a_diagram, .ref a_draft, .ref a_shelf, .ref a_bracket, .ref a_colouring, .int i_savedStates, .int i_newestPlace])), (a_diagram, .inr (2, [.int i_diagram_crossings, .int i_diagram_circles, .ref a_diagram_arcs])), (a_diagram_arcs, .inl (cyI, 32, .inl f_diagram_arcs))] H := by rw [hH]; exact hP
  suffices hgo : W p l e (headSpec wsX9_componentCount rmX9_componentCount).room s m (([.ref a_this] : List Value).toArray) below meth c H locs 0 0 (MQ below (kQi D cyI cyZ A [(a_this, .inr (6, [.ref a_text, .ref a_reader, .ref a_diagram, .ref a_draft, .ref a_shelf, .ref a_bracket, .ref a_colouring, .int i_savedStates, .int i_newestPlace])), (a_diagram, .inr (2, [.int i_diagram_crossings, .int i_diagram_circles, .ref a_diagram_arcs])), (a_diagram_arcs, .inl (cyI, 32, .inl f_diagram_arcs))] r) (([.ref a_this] : List Value).toArray) s 0 0 A) (F0 m 0 ls []) by rw [hH] at hgo; exact hgo
  clear hH
  refine lv_aload_n hx hb dX9_componentCount_0 rfl (lv_at hl 0 rfl) ?_
  refine va_get (D := D) (ci := 6) (v := .ref a_diagram) (C := RX9) (T := TX9) (N := 9) hx hb hts qX9_componentCount_X9 hown hK hP 0 rfl rfl 2 (Nat.le_of_ble_eq_true rfl) (hts (.fieldLink RX9 26 "KnotDiagram" "diagram" "LKnotDiagram$Diagram;") qX9_componentCount_0) (fun _ h9 => h9) rfl dX9_componentCount_1 ?_
  obtain ⟨r_1, hc_1, hf⟩ := bnd1_s hf
  refine kcSi (As := [.ref a_diagram]) (rest := []) (w2 := [(a_this, .inr (6, [.ref a_text, .ref a_reader, .ref a_diagram, .ref a_draft, .ref a_shelf, .ref a_bracket, .ref a_colouring, .int i_savedStates, .int i_newestPlace])), (a_diagram, .inr (2, [.int i_diagram_crossings, .int i_diagram_circles, .ref a_diagram_arcs])), (a_diagram_arcs, .inl (cyI, 32, .inl f_diagram_arcs))]) S hK hP hD hS hA hN (mX7_count l D cyI cyZ H.size a_diagram a_diagram_arcs i_diagram_crossings i_diagram_circles f_diagram_arcs r_1 hc_1) (va_cwS 1 hts gX9_componentCount_X7_count rfl rfl rfl (by decide +kernel) ⟨Nat.le_of_ble_eq_true rfl, Nat.le_of_ble_eq_true rfl⟩) [1, 2] [0] [0, 1, 2] rfl rfl rfl rfl (by decide) rfl rfl hl.1 (Nat.le_of_ble_eq_true rfl) dX9_componentCount_4 ⟨Nat.le_of_ble_eq_true rfl, Nat.le_of_ble_eq_true rfl⟩ (fun H locs hP hD hS => ?_)
  refine lv_aload_n hx hb dX9_componentCount_7 rfl (lv_at hl 0 rfl) ?_
  refine va_get (D := D) (ci := 6) (v := .ref a_diagram) (C := RX9) (T := TX9) (N := 9) hx hb hts qX9_componentCount_X9 hown hK hP 0 rfl rfl 2 (Nat.le_of_ble_eq_true rfl) (hts (.fieldLink RX9 26 "KnotDiagram" "diagram" "LKnotDiagram$Diagram;") qX9_componentCount_0) (fun _ h9 => h9) rfl dX9_componentCount_8 ?_
  refine va_get (D := D) (ci := 2) (v := .int i_diagram_circles) (C := RX2) (T := TX2) (N := 3) hx hb hts qX9_componentCount_X2 hown hK hP 1 rfl rfl 1 (Nat.le_of_ble_eq_true rfl) (hts (.fieldLink RX9 54 "KnotDiagram$Diagram" "circles" "I") qX9_componentCount_1) (fun _ h9 => h9) rfl dX9_componentCount_11 ?_
  refine lv_iadd hx hb dX9_componentCount_14 ?_
  obtain rfl := some1_s hf
  exact kRi hx hb hr hlocks hP hK hD hS rfl dX9_componentCount_15
def kX9_partCount (i_diagram_crossings : Int32) (i_diagram_circles : Int32) (f_diagram_arcs : Nat → Int32) : Option (Int32) :=
  bnd1 (kX5_crossingParts i_diagram_crossings f_diagram_arcs) (fun r_1 => some (r_1 + i_diagram_circles))
def rmX9_partCount : Room := { frames := 4, cells := 0, slots := 0, locals := 95 }
theorem qX9_partCount_0 : (.fieldLink RX9 26 "KnotDiagram" "diagram" "LKnotDiagram$Diagram;" : Cond) ∈ wsX9_partCount := by decide +kernel
theorem qX9_partCount_1 : (.fieldLink RX9 54 "KnotDiagram$Diagram" "circles" "I" : Cond) ∈ wsX9_partCount := by decide +kernel
theorem qX9_partCount_X9 : ∀ w ∈ wsX90, w ∈ wsX9_partCount := by decide +kernel
theorem qX9_partCount_X2 : ∀ w ∈ wsX20, w ∈ wsX9_partCount := by decide +kernel
set_option maxHeartbeats 4000000 in
set_option maxRecDepth 100000 in
theorem mX9_partCount (l : Launch) (D : va_G) (cyI cyZ : ClassId) (sz : Nat) (a_this a_text a_reader a_diagram a_draft a_shelf a_bracket a_colouring a_diagram_arcs : Nat) (i_savedStates : Int32) (i_newestPlace : Int32) (i_diagram_crossings : Int32) (i_diagram_circles : Int32) (f_diagram_arcs : Nat → Int32) (r : Int32) (hf : kX9_partCount i_diagram_crossings i_diagram_circles f_diagram_arcs = some r) : Met l yX9_partCount wsX9_partCount rmX9_partCount (kPre D cyI cyZ [.ref a_this] [(a_this, .inr (6, [.ref a_text, .ref a_reader, .ref a_diagram, .ref a_draft, .ref a_shelf, .ref a_bracket, .ref a_colouring, .int i_savedStates, .int i_newestPlace])), (a_diagram, .inr (2, [.int i_diagram_crossings, .int i_diagram_circles, .ref a_diagram_arcs])), (a_diagram_arcs, .inl (cyI, 32, .inl f_diagram_arcs))] sz) (kQi D cyI cyZ (va_A [(a_this, .inr (6, [.ref a_text, .ref a_reader, .ref a_diagram, .ref a_draft, .ref a_shelf, .ref a_bracket, .ref a_colouring, .int i_savedStates, .int i_newestPlace])), (a_diagram, .inr (2, [.int i_diagram_crossings, .int i_diagram_circles, .ref a_diagram_arcs])), (a_diagram_arcs, .inl (cyI, 32, .inl f_diagram_arcs))] sz) [(a_this, .inr (6, [.ref a_text, .ref a_reader, .ref a_diagram, .ref a_draft, .ref a_shelf, .ref a_bracket, .ref a_colouring, .int i_savedStates, .int i_newestPlace])), (a_diagram, .inr (2, [.int i_diagram_crossings, .int i_diagram_circles, .ref a_diagram_arcs])), (a_diagram_arcs, .inl (cyI, 32, .inl f_diagram_arcs))] r) 0 0 (va_A [(a_this, .inr (6, [.ref a_text, .ref a_reader, .ref a_diagram, .ref a_draft, .ref a_shelf, .ref a_bracket, .ref a_colouring, .int i_savedStates, .int i_newestPlace])), (a_diagram, .inr (2, [.int i_diagram_crossings, .int i_diagram_circles, .ref a_diagram_arcs])), (a_diagram_arcs, .inl (cyI, 32, .inl f_diagram_arcs))] sz) := by
  refine Met.ofW (cc := cX9_partCount) (maxL := 1) (ret := (some .int)) (by decide) rfl ?_
  intro p e s m args below meth c s₁ B hml hv
  obtain ⟨rfl, hsz, hP, hK, hD0, hN⟩ := hv
  have hx := B.exec
  have hb := B.bytes
  have hr := B.returns
  have hts := atoms_spec (ws := wsX9_partCount) B.pre
  have hown : s.vm.findClass RX9 = some m.cls := findClass_of_methodNamed B.named
  have hlocks := B.notSynchronized
  subst hsz
  have hD := hD0.self (sz := s.heap.size)
  generalize hAe : va_A [(a_this, .inr (6, [.ref a_text, .ref a_reader, .ref a_diagram, .ref a_draft, .ref a_shelf, .ref a_bracket, .ref a_colouring, .int i_savedStates, .int i_newestPlace])), (a_diagram, .inr (2, [.int i_diagram_crossings, .int i_diagram_circles, .ref a_diagram_arcs])), (a_diagram_arcs, .inl (cyI, 32, .inl f_diagram_arcs))] s.heap.size = A at hD ⊢
  have hA : ∀ q : Nat, s.heap.size ≤ q → A q := fun q h => by rw [← hAe]; exact Or.inr h
  clear hAe hD0
  have hS : va_S A s.heap s.heap [] := va_S.rf
  have S : CallFix p m c cX9_partCount 1 s (([.ref a_this] : List Value).toArray) wsX9_partCount RX9 := ⟨hx, hb, hml, hown, hts⟩
  have hl := lv_entry ([.ref a_this]) (n := 1) (Nat.le_of_ble_eq_true rfl)
  rw [lg_entry_eq]
  generalize (lg_sl ([.ref a_this]) ++ List.replicate (1 - (lg_sl ([.ref a_this])).length) Slot.unset).toArray = ls at hl ⊢
  replace hl : lv_has ls 1 [(0, .ref a_this)] := hl
  generalize ([] : List Loc) = locs at hS ⊢
  delta kX9_partCount at hf
  obtain ⟨H, hH⟩ : ∃ H, H = s.heap := ⟨_, rfl⟩
  have hS : va_S A s.heap H locs := by rw [hH]; exact hS
  have hP : va_P D vwCl [(a_this, .inr (6, [.ref a_text, .ref a_reader, .ref a_diagram, .ref a_draft, .ref a_shelf, .ref a_bracket, .ref a_colouring, .int i_savedStates, .int i_newestPlace])), (a_diagram, .inr (2, [.int i_diagram_crossings, .int i_diagram_circles, .ref a_diagram_arcs])), (a_diagram_arcs, .inl (cyI, 32, .inl f_diagram_arcs))] H := by rw [hH]; exact hP
  suffices hgo : W p l e (headSpec wsX9_partCount rmX9_partCount).room s m (([.ref a_this] : List Value).toArray) below meth c H locs 0 0 (MQ below (kQi D cyI cyZ A [(a_this, .inr (6, [.ref a_text, .ref a_reader, .ref a_diagram, .ref a_draft, .ref a_shelf, .ref a_bracket, .ref a_colouring, .int i_savedStates, .int i_newestPlace])), (a_diagram, .inr (2, [.int i_diagram_crossings, .int i_diagram_circles, .ref a_diagram_arcs])), (a_diagram_arcs, .inl (cyI, 32, .inl f_diagram_arcs))] r) (([.ref a_this] : List Value).toArray) s 0 0 A) (F0 m 0 ls []) by rw [hH] at hgo; exact hgo
  clear hH
  refine lv_aload_n hx hb dX9_partCount_0 rfl (lv_at hl 0 rfl) ?_
  refine va_get (D := D) (ci := 6) (v := .ref a_diagram) (C := RX9) (T := TX9) (N := 9) hx hb hts qX9_partCount_X9 hown hK hP 0 rfl rfl 2 (Nat.le_of_ble_eq_true rfl) (hts (.fieldLink RX9 26 "KnotDiagram" "diagram" "LKnotDiagram$Diagram;") qX9_partCount_0) (fun _ h9 => h9) rfl dX9_partCount_1 ?_
  obtain ⟨r_1, hc_1, hf⟩ := bnd1_s hf
  refine kcSi (As := [.ref a_diagram]) (rest := []) (w2 := [(a_this, .inr (6, [.ref a_text, .ref a_reader, .ref a_diagram, .ref a_draft, .ref a_shelf, .ref a_bracket, .ref a_colouring, .int i_savedStates, .int i_newestPlace])), (a_diagram, .inr (2, [.int i_diagram_crossings, .int i_diagram_circles, .ref a_diagram_arcs])), (a_diagram_arcs, .inl (cyI, 32, .inl f_diagram_arcs))]) S hK hP hD hS hA hN (mX5_crossingParts l D cyI cyZ H.size a_diagram a_diagram_arcs i_diagram_crossings i_diagram_circles f_diagram_arcs r_1 hc_1) (va_cwS 1 hts gX9_partCount_X5_crossingParts rfl rfl rfl (by decide +kernel) ⟨Nat.le_of_ble_eq_true rfl, Nat.le_of_ble_eq_true rfl⟩) [1, 2] [0] [0, 1, 2] rfl rfl rfl rfl (by decide) rfl rfl hl.1 (Nat.le_of_ble_eq_true rfl) dX9_partCount_4 ⟨Nat.le_of_ble_eq_true rfl, Nat.le_of_ble_eq_true rfl⟩ (fun H locs hP hD hS => ?_)
  refine lv_aload_n hx hb dX9_partCount_7 rfl (lv_at hl 0 rfl) ?_
  refine va_get (D := D) (ci := 6) (v := .ref a_diagram) (C := RX9) (T := TX9) (N := 9) hx hb hts qX9_partCount_X9 hown hK hP 0 rfl rfl 2 (Nat.le_of_ble_eq_true rfl) (hts (.fieldLink RX9 26 "KnotDiagram" "diagram" "LKnotDiagram$Diagram;") qX9_partCount_0) (fun _ h9 => h9) rfl dX9_partCount_8 ?_
  refine va_get (D := D) (ci := 2) (v := .int i_diagram_circles) (C := RX2) (T := TX2) (N := 3) hx hb hts qX9_partCount_X2 hown hK hP 1 rfl rfl 1 (Nat.le_of_ble_eq_true rfl) (hts (.fieldLink RX9 54 "KnotDiagram$Diagram" "circles" "I") qX9_partCount_1) (fun _ h9 => h9) rfl dX9_partCount_11 ?_
  refine lv_iadd hx hb dX9_partCount_14 ?_
  obtain rfl := some1_s hf
  exact kRi hx hb hr hlocks hP hK hD hS rfl dX9_partCount_15
def kX9_faceCount (i_diagram_crossings : Int32) (i_diagram_circles : Int32) (f_diagram_arcs : Nat → Int32) : Option (Int32) :=
  bnd1 (kX5_endCycles i_diagram_crossings f_diagram_arcs) (fun r_1 => some (r_1 + (2 * i_diagram_circles)))
def rmX9_faceCount : Room := { frames := 4, cells := 0, slots := 0, locals := 94 }
theorem qX9_faceCount_0 : (.fieldLink RX9 26 "KnotDiagram" "diagram" "LKnotDiagram$Diagram;" : Cond) ∈ wsX9_faceCount := by decide +kernel
theorem qX9_faceCount_1 : (.fieldLink RX9 54 "KnotDiagram$Diagram" "circles" "I" : Cond) ∈ wsX9_faceCount := by decide +kernel
theorem qX9_faceCount_X9 : ∀ w ∈ wsX90, w ∈ wsX9_faceCount := by decide +kernel
theorem qX9_faceCount_X2 : ∀ w ∈ wsX20, w ∈ wsX9_faceCount := by decide +kernel
set_option maxHeartbeats 4000000 in
set_option maxRecDepth 100000 in
theorem mX9_faceCount (l : Launch) (D : va_G) (cyI cyZ : ClassId) (sz : Nat) (a_this a_text a_reader a_diagram a_draft a_shelf a_bracket a_colouring a_diagram_arcs : Nat) (i_savedStates : Int32) (i_newestPlace : Int32) (i_diagram_crossings : Int32) (i_diagram_circles : Int32) (f_diagram_arcs : Nat → Int32) (r : Int32) (hf : kX9_faceCount i_diagram_crossings i_diagram_circles f_diagram_arcs = some r) : Met l yX9_faceCount wsX9_faceCount rmX9_faceCount (kPre D cyI cyZ [.ref a_this] [(a_this, .inr (6, [.ref a_text, .ref a_reader, .ref a_diagram, .ref a_draft, .ref a_shelf, .ref a_bracket, .ref a_colouring, .int i_savedStates, .int i_newestPlace])), (a_diagram, .inr (2, [.int i_diagram_crossings, .int i_diagram_circles, .ref a_diagram_arcs])), (a_diagram_arcs, .inl (cyI, 32, .inl f_diagram_arcs))] sz) (kQi D cyI cyZ (va_A [(a_this, .inr (6, [.ref a_text, .ref a_reader, .ref a_diagram, .ref a_draft, .ref a_shelf, .ref a_bracket, .ref a_colouring, .int i_savedStates, .int i_newestPlace])), (a_diagram, .inr (2, [.int i_diagram_crossings, .int i_diagram_circles, .ref a_diagram_arcs])), (a_diagram_arcs, .inl (cyI, 32, .inl f_diagram_arcs))] sz) [(a_this, .inr (6, [.ref a_text, .ref a_reader, .ref a_diagram, .ref a_draft, .ref a_shelf, .ref a_bracket, .ref a_colouring, .int i_savedStates, .int i_newestPlace])), (a_diagram, .inr (2, [.int i_diagram_crossings, .int i_diagram_circles, .ref a_diagram_arcs])), (a_diagram_arcs, .inl (cyI, 32, .inl f_diagram_arcs))] r) 0 0 (va_A [(a_this, .inr (6, [.ref a_text, .ref a_reader, .ref a_diagram, .ref a_draft, .ref a_shelf, .ref a_bracket, .ref a_colouring, .int i_savedStates, .int i_newestPlace])), (a_diagram, .inr (2, [.int i_diagram_crossings, .int i_diagram_circles, .ref a_diagram_arcs])), (a_diagram_arcs, .inl (cyI, 32, .inl f_diagram_arcs))] sz) := by
  refine Met.ofW (cc := cX9_faceCount) (maxL := 1) (ret := (some .int)) (by decide) rfl ?_
  intro p e s m args below meth c s₁ B hml hv
  obtain ⟨rfl, hsz, hP, hK, hD0, hN⟩ := hv
  have hx := B.exec
  have hb := B.bytes
  have hr := B.returns
  have hts := atoms_spec (ws := wsX9_faceCount) B.pre
  have hown : s.vm.findClass RX9 = some m.cls := findClass_of_methodNamed B.named
  have hlocks := B.notSynchronized
  subst hsz
  have hD := hD0.self (sz := s.heap.size)
  generalize hAe : va_A [(a_this, .inr (6, [.ref a_text, .ref a_reader, .ref a_diagram, .ref a_draft, .ref a_shelf, .ref a_bracket, .ref a_colouring, .int i_savedStates, .int i_newestPlace])), (a_diagram, .inr (2, [.int i_diagram_crossings, .int i_diagram_circles, .ref a_diagram_arcs])), (a_diagram_arcs, .inl (cyI, 32, .inl f_diagram_arcs))] s.heap.size = A at hD ⊢
  have hA : ∀ q : Nat, s.heap.size ≤ q → A q := fun q h => by rw [← hAe]; exact Or.inr h
  clear hAe hD0
  have hS : va_S A s.heap s.heap [] := va_S.rf
  have S : CallFix p m c cX9_faceCount 1 s (([.ref a_this] : List Value).toArray) wsX9_faceCount RX9 := ⟨hx, hb, hml, hown, hts⟩
  have hl := lv_entry ([.ref a_this]) (n := 1) (Nat.le_of_ble_eq_true rfl)
  rw [lg_entry_eq]
  generalize (lg_sl ([.ref a_this]) ++ List.replicate (1 - (lg_sl ([.ref a_this])).length) Slot.unset).toArray = ls at hl ⊢
  replace hl : lv_has ls 1 [(0, .ref a_this)] := hl
  generalize ([] : List Loc) = locs at hS ⊢
  delta kX9_faceCount at hf
  obtain ⟨H, hH⟩ : ∃ H, H = s.heap := ⟨_, rfl⟩
  have hS : va_S A s.heap H locs := by rw [hH]; exact hS
  have hP : va_P D vwCl [(a_this, .inr (6, [.ref a_text, .ref a_reader, .ref a_diagram, .ref a_draft, .ref a_shelf, .ref a_bracket, .ref a_colouring, .int i_savedStates, .int i_newestPlace])), (a_diagram, .inr (2, [.int i_diagram_crossings, .int i_diagram_circles, .ref a_diagram_arcs])), (a_diagram_arcs, .inl (cyI, 32, .inl f_diagram_arcs))] H := by rw [hH]; exact hP
  suffices hgo : W p l e (headSpec wsX9_faceCount rmX9_faceCount).room s m (([.ref a_this] : List Value).toArray) below meth c H locs 0 0 (MQ below (kQi D cyI cyZ A [(a_this, .inr (6, [.ref a_text, .ref a_reader, .ref a_diagram, .ref a_draft, .ref a_shelf, .ref a_bracket, .ref a_colouring, .int i_savedStates, .int i_newestPlace])), (a_diagram, .inr (2, [.int i_diagram_crossings, .int i_diagram_circles, .ref a_diagram_arcs])), (a_diagram_arcs, .inl (cyI, 32, .inl f_diagram_arcs))] r) (([.ref a_this] : List Value).toArray) s 0 0 A) (F0 m 0 ls []) by rw [hH] at hgo; exact hgo
  clear hH
  refine lv_aload_n hx hb dX9_faceCount_0 rfl (lv_at hl 0 rfl) ?_
  refine va_get (D := D) (ci := 6) (v := .ref a_diagram) (C := RX9) (T := TX9) (N := 9) hx hb hts qX9_faceCount_X9 hown hK hP 0 rfl rfl 2 (Nat.le_of_ble_eq_true rfl) (hts (.fieldLink RX9 26 "KnotDiagram" "diagram" "LKnotDiagram$Diagram;") qX9_faceCount_0) (fun _ h9 => h9) rfl dX9_faceCount_1 ?_
  obtain ⟨r_1, hc_1, hf⟩ := bnd1_s hf
  refine kcSi (As := [.ref a_diagram]) (rest := []) (w2 := [(a_this, .inr (6, [.ref a_text, .ref a_reader, .ref a_diagram, .ref a_draft, .ref a_shelf, .ref a_bracket, .ref a_colouring, .int i_savedStates, .int i_newestPlace])), (a_diagram, .inr (2, [.int i_diagram_crossings, .int i_diagram_circles, .ref a_diagram_arcs])), (a_diagram_arcs, .inl (cyI, 32, .inl f_diagram_arcs))]) S hK hP hD hS hA hN (mX5_endCycles l D cyI cyZ H.size a_diagram a_diagram_arcs i_diagram_crossings i_diagram_circles f_diagram_arcs r_1 hc_1) (va_cwS 1 hts gX9_faceCount_X5_endCycles rfl rfl rfl (by decide +kernel) ⟨Nat.le_of_ble_eq_true rfl, Nat.le_of_ble_eq_true rfl⟩) [1, 2] [0] [0, 1, 2] rfl rfl rfl rfl (by decide) rfl rfl hl.1 (Nat.le_of_ble_eq_true rfl) dX9_faceCount_4 ⟨Nat.le_of_ble_eq_true rfl, Nat.le_of_ble_eq_true rfl⟩ (fun H locs hP hD hS => ?_)
  refine lv_iconst (v := 2) hx hb dX9_faceCount_7 (by decide) ?_
  refine lv_aload_n hx hb dX9_faceCount_8 rfl (lv_at hl 0 rfl) ?_
  refine va_get (D := D) (ci := 6) (v := .ref a_diagram) (C := RX9) (T := TX9) (N := 9) hx hb hts qX9_faceCount_X9 hown hK hP 0 rfl rfl 2 (Nat.le_of_ble_eq_true rfl) (hts (.fieldLink RX9 26 "KnotDiagram" "diagram" "LKnotDiagram$Diagram;") qX9_faceCount_0) (fun _ h9 => h9) rfl dX9_faceCount_9 ?_
  refine va_get (D := D) (ci := 2) (v := .int i_diagram_circles) (C := RX2) (T := TX2) (N := 3) hx hb hts qX9_faceCount_X2 hown hK hP 1 rfl rfl 1 (Nat.le_of_ble_eq_true rfl) (hts (.fieldLink RX9 54 "KnotDiagram$Diagram" "circles" "I") qX9_faceCount_1) (fun _ h9 => h9) rfl dX9_faceCount_12 ?_
  refine lv_imul hx hb dX9_faceCount_15 ?_
  refine lv_iadd hx hb dX9_faceCount_16 ?_
  obtain rfl := some1_s hf
  exact kRi hx hb hr hlocks hP hK hD hS rfl dX9_faceCount_17
def kX9_genus (i_diagram_crossings : Int32) (i_diagram_circles : Int32) (f_diagram_arcs : Nat → Int32) : Option (Int32) :=
  bnd1 (kX9_partCount i_diagram_crossings i_diagram_circles f_diagram_arcs) (fun r_1 => bnd1 (kX9_faceCount i_diagram_crossings i_diagram_circles f_diagram_arcs) (fun r_2 => some (((i_diagram_crossings + (2 * r_1)) - r_2) / 2)))
def rmX9_genus : Room := { frames := 5, cells := 0, slots := 0, locals := 115 }
theorem qX9_genus_0 : (.fieldLink RX9 26 "KnotDiagram" "diagram" "LKnotDiagram$Diagram;" : Cond) ∈ wsX9_genus := by decide +kernel
theorem qX9_genus_1 : (.fieldLink RX9 74 "KnotDiagram$Diagram" "crossings" "I" : Cond) ∈ wsX9_genus := by decide +kernel
theorem qX9_genus_X9 : ∀ w ∈ wsX90, w ∈ wsX9_genus := by decide +kernel
theorem qX9_genus_X2 : ∀ w ∈ wsX20, w ∈ wsX9_genus := by decide +kernel
set_option maxHeartbeats 4000000 in
set_option maxRecDepth 100000 in
theorem mX9_genus (l : Launch) (D : va_G) (cyI cyZ : ClassId) (sz : Nat) (a_this a_text a_reader a_diagram a_draft a_shelf a_bracket a_colouring a_diagram_arcs : Nat) (i_savedStates : Int32) (i_newestPlace : Int32) (i_diagram_crossings : Int32) (i_diagram_circles : Int32) (f_diagram_arcs : Nat → Int32) (r : Int32) (hf : kX9_genus i_diagram_crossings i_diagram_circles f_diagram_arcs = some r) : Met l yX9_genus wsX9_genus rmX9_genus (kPre D cyI cyZ [.ref a_this] [(a_this, .inr (6, [.ref a_text, .ref a_reader, .ref a_diagram, .ref a_draft, .ref a_shelf, .ref a_bracket, .ref a_colouring, .int i_savedStates, .int i_newestPlace])), (a_diagram, .inr (2, [.int i_diagram_crossings, .int i_diagram_circles, .ref a_diagram_arcs])), (a_diagram_arcs, .inl (cyI, 32, .inl f_diagram_arcs))] sz) (kQi D cyI cyZ (va_A [(a_this, .inr (6, [.ref a_text, .ref a_reader, .ref a_diagram, .ref a_draft, .ref a_shelf, .ref a_bracket, .ref a_colouring, .int i_savedStates, .int i_newestPlace])), (a_diagram, .inr (2, [.int i_diagram_crossings, .int i_diagram_circles, .ref a_diagram_arcs])), (a_diagram_arcs, .inl (cyI, 32, .inl f_diagram_arcs))] sz) [(a_this, .inr (6, [.ref a_text, .ref a_reader, .ref a_diagram, .ref a_draft, .ref a_shelf, .ref a_bracket, .ref a_colouring, .int i_savedStates, .int i_newestPlace])), (a_diagram, .inr (2, [.int i_diagram_crossings, .int i_diagram_circles, .ref a_diagram_arcs])), (a_diagram_arcs, .inl (cyI, 32, .inl f_diagram_arcs))] r) 0 0 (va_A [(a_this, .inr (6, [.ref a_text, .ref a_reader, .ref a_diagram, .ref a_draft, .ref a_shelf, .ref a_bracket, .ref a_colouring, .int i_savedStates, .int i_newestPlace])), (a_diagram, .inr (2, [.int i_diagram_crossings, .int i_diagram_circles, .ref a_diagram_arcs])), (a_diagram_arcs, .inl (cyI, 32, .inl f_diagram_arcs))] sz) := by
  refine Met.ofW (cc := cX9_genus) (maxL := 1) (ret := (some .int)) (by decide) rfl ?_
  intro p e s m args below meth c s₁ B hml hv
  obtain ⟨rfl, hsz, hP, hK, hD0, hN⟩ := hv
  have hx := B.exec
  have hb := B.bytes
  have hr := B.returns
  have hts := atoms_spec (ws := wsX9_genus) B.pre
  have hown : s.vm.findClass RX9 = some m.cls := findClass_of_methodNamed B.named
  have hlocks := B.notSynchronized
  subst hsz
  have hD := hD0.self (sz := s.heap.size)
  generalize hAe : va_A [(a_this, .inr (6, [.ref a_text, .ref a_reader, .ref a_diagram, .ref a_draft, .ref a_shelf, .ref a_bracket, .ref a_colouring, .int i_savedStates, .int i_newestPlace])), (a_diagram, .inr (2, [.int i_diagram_crossings, .int i_diagram_circles, .ref a_diagram_arcs])), (a_diagram_arcs, .inl (cyI, 32, .inl f_diagram_arcs))] s.heap.size = A at hD ⊢
  have hA : ∀ q : Nat, s.heap.size ≤ q → A q := fun q h => by rw [← hAe]; exact Or.inr h
  clear hAe hD0
  have hS : va_S A s.heap s.heap [] := va_S.rf
  have S : CallFix p m c cX9_genus 1 s (([.ref a_this] : List Value).toArray) wsX9_genus RX9 := ⟨hx, hb, hml, hown, hts⟩
  have hl := lv_entry ([.ref a_this]) (n := 1) (Nat.le_of_ble_eq_true rfl)
  rw [lg_entry_eq]
  generalize (lg_sl ([.ref a_this]) ++ List.replicate (1 - (lg_sl ([.ref a_this])).length) Slot.unset).toArray = ls at hl ⊢
  replace hl : lv_has ls 1 [(0, .ref a_this)] := hl
  generalize ([] : List Loc) = locs at hS ⊢
  delta kX9_genus at hf
  obtain ⟨H, hH⟩ : ∃ H, H = s.heap := ⟨_, rfl⟩
  have hS : va_S A s.heap H locs := by rw [hH]; exact hS
  have hP : va_P D vwCl [(a_this, .inr (6, [.ref a_text, .ref a_reader, .ref a_diagram, .ref a_draft, .ref a_shelf, .ref a_bracket, .ref a_colouring, .int i_savedStates, .int i_newestPlace])), (a_diagram, .inr (2, [.int i_diagram_crossings, .int i_diagram_circles, .ref a_diagram_arcs])), (a_diagram_arcs, .inl (cyI, 32, .inl f_diagram_arcs))] H := by rw [hH]; exact hP
  suffices hgo : W p l e (headSpec wsX9_genus rmX9_genus).room s m (([.ref a_this] : List Value).toArray) below meth c H locs 0 0 (MQ below (kQi D cyI cyZ A [(a_this, .inr (6, [.ref a_text, .ref a_reader, .ref a_diagram, .ref a_draft, .ref a_shelf, .ref a_bracket, .ref a_colouring, .int i_savedStates, .int i_newestPlace])), (a_diagram, .inr (2, [.int i_diagram_crossings, .int i_diagram_circles, .ref a_diagram_arcs])), (a_diagram_arcs, .inl (cyI, 32, .inl f_diagram_arcs))] r) (([.ref a_this] : List Value).toArray) s 0 0 A) (F0 m 0 ls []) by rw [hH] at hgo; exact hgo
  clear hH
  refine lv_aload_n hx hb dX9_genus_0 rfl (lv_at hl 0 rfl) ?_
  refine va_get (D := D) (ci := 6) (v := .ref a_diagram) (C := RX9) (T := TX9) (N := 9) hx hb hts qX9_genus_X9 hown hK hP 0 rfl rfl 2 (Nat.le_of_ble_eq_true rfl) (hts (.fieldLink RX9 26 "KnotDiagram" "diagram" "LKnotDiagram$Diagram;") qX9_genus_0) (fun _ h9 => h9) rfl dX9_genus_1 ?_
  refine va_get (D := D) (ci := 2) (v := .int i_diagram_crossings) (C := RX2) (T := TX2) (N := 3) hx hb hts qX9_genus_X2 hown hK hP 1 rfl rfl 0 (Nat.le_of_ble_eq_true rfl) (hts (.fieldLink RX9 74 "KnotDiagram$Diagram" "crossings" "I") qX9_genus_1) (fun _ h9 => h9) rfl dX9_genus_4 ?_
  refine lv_iconst (v := 2) hx hb dX9_genus_7 (by decide) ?_
  refine lv_aload_n hx hb dX9_genus_8 rfl (lv_at hl 0 rfl) ?_
  obtain ⟨r_1, hc_1, hf⟩ := bnd1_s hf
  refine kcVi (As := []) (rest := [.int 2, .int i_diagram_crossings]) (w2 := [(a_this, .inr (6, [.ref a_text, .ref a_reader, .ref a_diagram, .ref a_draft, .ref a_shelf, .ref a_bracket, .ref a_colouring, .int i_savedStates, .int i_newestPlace])), (a_diagram, .inr (2, [.int i_diagram_crossings, .int i_diagram_circles, .ref a_diagram_arcs])), (a_diagram_arcs, .inl (cyI, 32, .inl f_diagram_arcs))]) S hK hP hD hS hA hN (mX9_partCount l D cyI cyZ H.size a_this a_text a_reader a_diagram a_draft a_shelf a_bracket a_colouring a_diagram_arcs i_savedStates i_newestPlace i_diagram_crossings i_diagram_circles f_diagram_arcs r_1 hc_1) (cwV 0 hts gX9_genus_X9_partCount rfl rfl rfl (by decide +kernel) ⟨Nat.le_of_ble_eq_true rfl, Nat.le_of_ble_eq_true rfl⟩) 6 0 rfl rfl [0, 1, 2] [] [0, 1, 2] rfl rfl rfl rfl (by decide) rfl rfl hl.1 (Nat.le_of_ble_eq_true rfl) dX9_genus_9 ⟨Nat.le_of_ble_eq_true rfl, Nat.le_of_ble_eq_true rfl⟩ (fun H locs hP hD hS => ?_)
  refine lv_imul hx hb dX9_genus_12 ?_
  refine lv_iadd hx hb dX9_genus_13 ?_
  refine lv_aload_n hx hb dX9_genus_14 rfl (lv_at hl 0 rfl) ?_
  obtain ⟨r_2, hc_2, hf⟩ := bnd1_s hf
  refine kcVi (As := []) (rest := [.int (i_diagram_crossings + (2 * r_1))]) (w2 := [(a_this, .inr (6, [.ref a_text, .ref a_reader, .ref a_diagram, .ref a_draft, .ref a_shelf, .ref a_bracket, .ref a_colouring, .int i_savedStates, .int i_newestPlace])), (a_diagram, .inr (2, [.int i_diagram_crossings, .int i_diagram_circles, .ref a_diagram_arcs])), (a_diagram_arcs, .inl (cyI, 32, .inl f_diagram_arcs))]) S hK hP hD hS hA hN (mX9_faceCount l D cyI cyZ H.size a_this a_text a_reader a_diagram a_draft a_shelf a_bracket a_colouring a_diagram_arcs i_savedStates i_newestPlace i_diagram_crossings i_diagram_circles f_diagram_arcs r_2 hc_2) (cwV 0 hts gX9_genus_X9_faceCount rfl rfl rfl (by decide +kernel) ⟨Nat.le_of_ble_eq_true rfl, Nat.le_of_ble_eq_true rfl⟩) 6 0 rfl rfl [0, 1, 2] [] [0, 1, 2] rfl rfl rfl rfl (by decide) rfl rfl hl.1 (Nat.le_of_ble_eq_true rfl) dX9_genus_15 ⟨Nat.le_of_ble_eq_true rfl, Nat.le_of_ble_eq_true rfl⟩ (fun H locs hP hD hS => ?_)
  refine lv_isub hx hb dX9_genus_18 ?_
  refine lv_iconst (v := 2) hx hb dX9_genus_19 (by decide) ?_
  refine lv_idiv hx hb dX9_genus_20 (by decide) ?_
  obtain rfl := some1_s hf
  exact kRi hx hb hr hlocks hP hK hD hS rfl dX9_genus_21
def kX9_isAlternating (i_diagram_crossings : Int32) (f_diagram_arcs : Nat → Int32) : Option (Int32) :=
  bnd1 (kX5_alternates i_diagram_crossings f_diagram_arcs) (fun r_1 => if r_1 = 0 then some 0 else some 1)
def rmX9_isAlternating : Room := { frames := 3, cells := 0, slots := 0, locals := 67 }
theorem qX9_isAlternating_0 : (.fieldLink RX9 26 "KnotDiagram" "diagram" "LKnotDiagram$Diagram;" : Cond) ∈ wsX9_isAlternating := by decide +kernel
theorem qX9_isAlternating_X9 : ∀ w ∈ wsX90, w ∈ wsX9_isAlternating := by decide +kernel
set_option maxHeartbeats 4000000 in
set_option maxRecDepth 100000 in
theorem mX9_isAlternating (l : Launch) (D : va_G) (cyI cyZ : ClassId) (sz : Nat) (a_this a_text a_reader a_diagram a_draft a_shelf a_bracket a_colouring a_diagram_arcs : Nat) (i_savedStates : Int32) (i_newestPlace : Int32) (i_diagram_crossings : Int32) (i_diagram_circles : Int32) (f_diagram_arcs : Nat → Int32) (r : Int32) (hf : kX9_isAlternating i_diagram_crossings f_diagram_arcs = some r) : Met l yX9_isAlternating wsX9_isAlternating rmX9_isAlternating (kPre D cyI cyZ [.ref a_this] [(a_this, .inr (6, [.ref a_text, .ref a_reader, .ref a_diagram, .ref a_draft, .ref a_shelf, .ref a_bracket, .ref a_colouring, .int i_savedStates, .int i_newestPlace])), (a_diagram, .inr (2, [.int i_diagram_crossings, .int i_diagram_circles, .ref a_diagram_arcs])), (a_diagram_arcs, .inl (cyI, 32, .inl f_diagram_arcs))] sz) (kQi D cyI cyZ (va_A [(a_this, .inr (6, [.ref a_text, .ref a_reader, .ref a_diagram, .ref a_draft, .ref a_shelf, .ref a_bracket, .ref a_colouring, .int i_savedStates, .int i_newestPlace])), (a_diagram, .inr (2, [.int i_diagram_crossings, .int i_diagram_circles, .ref a_diagram_arcs])), (a_diagram_arcs, .inl (cyI, 32, .inl f_diagram_arcs))] sz) [(a_this, .inr (6, [.ref a_text, .ref a_reader, .ref a_diagram, .ref a_draft, .ref a_shelf, .ref a_bracket, .ref a_colouring, .int i_savedStates, .int i_newestPlace])), (a_diagram, .inr (2, [.int i_diagram_crossings, .int i_diagram_circles, .ref a_diagram_arcs])), (a_diagram_arcs, .inl (cyI, 32, .inl f_diagram_arcs))] r) 0 0 (va_A [(a_this, .inr (6, [.ref a_text, .ref a_reader, .ref a_diagram, .ref a_draft, .ref a_shelf, .ref a_bracket, .ref a_colouring, .int i_savedStates, .int i_newestPlace])), (a_diagram, .inr (2, [.int i_diagram_crossings, .int i_diagram_circles, .ref a_diagram_arcs])), (a_diagram_arcs, .inl (cyI, 32, .inl f_diagram_arcs))] sz) := by
  refine Met.ofW (cc := cX9_isAlternating) (maxL := 1) (ret := (some .int)) (by decide) rfl ?_
  intro p e s m args below meth c s₁ B hml hv
  obtain ⟨rfl, hsz, hP, hK, hD0, hN⟩ := hv
  have hx := B.exec
  have hb := B.bytes
  have hr := B.returns
  have hts := atoms_spec (ws := wsX9_isAlternating) B.pre
  have hown : s.vm.findClass RX9 = some m.cls := findClass_of_methodNamed B.named
  have hlocks := B.notSynchronized
  subst hsz
  have hD := hD0.self (sz := s.heap.size)
  generalize hAe : va_A [(a_this, .inr (6, [.ref a_text, .ref a_reader, .ref a_diagram, .ref a_draft, .ref a_shelf, .ref a_bracket, .ref a_colouring, .int i_savedStates, .int i_newestPlace])), (a_diagram, .inr (2, [.int i_diagram_crossings, .int i_diagram_circles, .ref a_diagram_arcs])), (a_diagram_arcs, .inl (cyI, 32, .inl f_diagram_arcs))] s.heap.size = A at hD ⊢
  have hA : ∀ q : Nat, s.heap.size ≤ q → A q := fun q h => by rw [← hAe]; exact Or.inr h
  clear hAe hD0
  have hS : va_S A s.heap s.heap [] := va_S.rf
  have S : CallFix p m c cX9_isAlternating 1 s (([.ref a_this] : List Value).toArray) wsX9_isAlternating RX9 := ⟨hx, hb, hml, hown, hts⟩
  have hl := lv_entry ([.ref a_this]) (n := 1) (Nat.le_of_ble_eq_true rfl)
  rw [lg_entry_eq]
  generalize (lg_sl ([.ref a_this]) ++ List.replicate (1 - (lg_sl ([.ref a_this])).length) Slot.unset).toArray = ls at hl ⊢
  replace hl : lv_has ls 1 [(0, .ref a_this)] := hl
  generalize ([] : List Loc) = locs at hS ⊢
  delta kX9_isAlternating at hf
  obtain ⟨H, hH⟩ : ∃ H, H = s.heap := ⟨_, rfl⟩
  have hS : va_S A s.heap H locs := by rw [hH]; exact hS
  have hP : va_P D vwCl [(a_this, .inr (6, [.ref a_text, .ref a_reader, .ref a_diagram, .ref a_draft, .ref a_shelf, .ref a_bracket, .ref a_colouring, .int i_savedStates, .int i_newestPlace])), (a_diagram, .inr (2, [.int i_diagram_crossings, .int i_diagram_circles, .ref a_diagram_arcs])), (a_diagram_arcs, .inl (cyI, 32, .inl f_diagram_arcs))] H := by rw [hH]; exact hP
  suffices hgo : W p l e (headSpec wsX9_isAlternating rmX9_isAlternating).room s m (([.ref a_this] : List Value).toArray) below meth c H locs 0 0 (MQ below (kQi D cyI cyZ A [(a_this, .inr (6, [.ref a_text, .ref a_reader, .ref a_diagram, .ref a_draft, .ref a_shelf, .ref a_bracket, .ref a_colouring, .int i_savedStates, .int i_newestPlace])), (a_diagram, .inr (2, [.int i_diagram_crossings, .int i_diagram_circles, .ref a_diagram_arcs])), (a_diagram_arcs, .inl (cyI, 32, .inl f_diagram_arcs))] r) (([.ref a_this] : List Value).toArray) s 0 0 A) (F0 m 0 ls []) by rw [hH] at hgo; exact hgo
  clear hH
  refine lv_aload_n hx hb dX9_isAlternating_0 rfl (lv_at hl 0 rfl) ?_
  refine va_get (D := D) (ci := 6) (v := .ref a_diagram) (C := RX9) (T := TX9) (N := 9) hx hb hts qX9_isAlternating_X9 hown hK hP 0 rfl rfl 2 (Nat.le_of_ble_eq_true rfl) (hts (.fieldLink RX9 26 "KnotDiagram" "diagram" "LKnotDiagram$Diagram;") qX9_isAlternating_0) (fun _ h9 => h9) rfl dX9_isAlternating_1 ?_
  obtain ⟨r_1, hc_1, hf⟩ := bnd1_s hf
  refine kcSi (As := [.ref a_diagram]) (rest := []) (w2 := [(a_this, .inr (6, [.ref a_text, .ref a_reader, .ref a_diagram, .ref a_draft, .ref a_shelf, .ref a_bracket, .ref a_colouring, .int i_savedStates, .int i_newestPlace])), (a_diagram, .inr (2, [.int i_diagram_crossings, .int i_diagram_circles, .ref a_diagram_arcs])), (a_diagram_arcs, .inl (cyI, 32, .inl f_diagram_arcs))]) S hK hP hD hS hA hN (mX5_alternates l D cyI cyZ H.size a_diagram a_diagram_arcs i_diagram_crossings i_diagram_circles f_diagram_arcs r_1 hc_1) (va_cwS 1 hts gX9_isAlternating_X5_alternates rfl rfl rfl (by decide +kernel) ⟨Nat.le_of_ble_eq_true rfl, Nat.le_of_ble_eq_true rfl⟩) [1, 2] [0] [0, 1, 2] rfl rfl rfl rfl (by decide) rfl rfl hl.1 (Nat.le_of_ble_eq_true rfl) dX9_isAlternating_4 ⟨Nat.le_of_ble_eq_true rfl, Nat.le_of_ble_eq_true rfl⟩ (fun H locs hP hD hS => ?_)
  refine lv_if_eq (tgt := 14) hx hb dX9_isAlternating_7 (by decide) (fun c_2 => ?_) (fun c_2 => ?_)
  · replace hf := kt_p hf c_2
    refine lv_iconst (v := 0) hx hb dX9_isAlternating_14 (by decide) ?_
    obtain rfl := some1_s hf
    exact kRi hx hb hr hlocks hP hK hD hS rfl dX9_isAlternating_15
  · replace hf := kt_n hf c_2
    refine lv_iconst (v := 1) hx hb dX9_isAlternating_10 (by decide) ?_
    refine lv_goto (tgt := 15) hx hb dX9_isAlternating_11 (by decide) ?_
    obtain rfl := some1_s hf
    exact kRi hx hb hr hlocks hP hK hD hS rfl dX9_isAlternating_15
def kX9_crossingSign (v1 : Int32) (i_diagram_crossings : Int32) (f_diagram_arcs : Nat → Int32) : Option (Int32) :=
  bnd1 (kX2_hasCrossing v1 i_diagram_crossings) (fun r_1 => if r_1 = 0 then some (-1000001) else bnd1 (kX7_enteredEnds i_diagram_crossings f_diagram_arcs) (fun r_2 => bnd1 (kX7_sign v1 r_2) (fun r_3 => some r_3)))
def rmX9_crossingSign : Room := { frames := 4, cells := 0, slots := 0, locals := 94 }
theorem qX9_crossingSign_0 : (.fieldLink RX9 26 "KnotDiagram" "diagram" "LKnotDiagram$Diagram;" : Cond) ∈ wsX9_crossingSign := by decide +kernel
theorem qX9_crossingSign_1 : (.constant RX9 58 (-1000001) : Cond) ∈ wsX9_crossingSign := by decide +kernel
theorem qX9_crossingSign_X9 : ∀ w ∈ wsX90, w ∈ wsX9_crossingSign := by decide +kernel
set_option maxHeartbeats 4000000 in
set_option maxRecDepth 100000 in
theorem mX9_crossingSign (l : Launch) (D : va_G) (cyI cyZ : ClassId) (sz : Nat) (a_this a_text a_reader a_diagram a_draft a_shelf a_bracket a_colouring a_diagram_arcs : Nat) (v1 : Int32) (i_savedStates : Int32) (i_newestPlace : Int32) (i_diagram_crossings : Int32) (i_diagram_circles : Int32) (f_diagram_arcs : Nat → Int32) (r : Int32) (hf : kX9_crossingSign v1 i_diagram_crossings f_diagram_arcs = some r) : Met l yX9_crossingSign wsX9_crossingSign rmX9_crossingSign (kPre D cyI cyZ [.ref a_this, .int v1] [(a_this, .inr (6, [.ref a_text, .ref a_reader, .ref a_diagram, .ref a_draft, .ref a_shelf, .ref a_bracket, .ref a_colouring, .int i_savedStates, .int i_newestPlace])), (a_diagram, .inr (2, [.int i_diagram_crossings, .int i_diagram_circles, .ref a_diagram_arcs])), (a_diagram_arcs, .inl (cyI, 32, .inl f_diagram_arcs))] sz) (kQi D cyI cyZ (va_A [(a_this, .inr (6, [.ref a_text, .ref a_reader, .ref a_diagram, .ref a_draft, .ref a_shelf, .ref a_bracket, .ref a_colouring, .int i_savedStates, .int i_newestPlace])), (a_diagram, .inr (2, [.int i_diagram_crossings, .int i_diagram_circles, .ref a_diagram_arcs])), (a_diagram_arcs, .inl (cyI, 32, .inl f_diagram_arcs))] sz) [(a_this, .inr (6, [.ref a_text, .ref a_reader, .ref a_diagram, .ref a_draft, .ref a_shelf, .ref a_bracket, .ref a_colouring, .int i_savedStates, .int i_newestPlace])), (a_diagram, .inr (2, [.int i_diagram_crossings, .int i_diagram_circles, .ref a_diagram_arcs])), (a_diagram_arcs, .inl (cyI, 32, .inl f_diagram_arcs))] r) 0 0 (va_A [(a_this, .inr (6, [.ref a_text, .ref a_reader, .ref a_diagram, .ref a_draft, .ref a_shelf, .ref a_bracket, .ref a_colouring, .int i_savedStates, .int i_newestPlace])), (a_diagram, .inr (2, [.int i_diagram_crossings, .int i_diagram_circles, .ref a_diagram_arcs])), (a_diagram_arcs, .inl (cyI, 32, .inl f_diagram_arcs))] sz) := by
  refine Met.ofW (cc := cX9_crossingSign) (maxL := 2) (ret := (some .int)) (by decide) rfl ?_
  intro p e s m args below meth c s₁ B hml hv
  obtain ⟨rfl, hsz, hP, hK, hD0, hN⟩ := hv
  have hx := B.exec
  have hb := B.bytes
  have hr := B.returns
  have hts := atoms_spec (ws := wsX9_crossingSign) B.pre
  have hown : s.vm.findClass RX9 = some m.cls := findClass_of_methodNamed B.named
  have hlocks := B.notSynchronized
  subst hsz
  have hD := hD0.self (sz := s.heap.size)
  generalize hAe : va_A [(a_this, .inr (6, [.ref a_text, .ref a_reader, .ref a_diagram, .ref a_draft, .ref a_shelf, .ref a_bracket, .ref a_colouring, .int i_savedStates, .int i_newestPlace])), (a_diagram, .inr (2, [.int i_diagram_crossings, .int i_diagram_circles, .ref a_diagram_arcs])), (a_diagram_arcs, .inl (cyI, 32, .inl f_diagram_arcs))] s.heap.size = A at hD ⊢
  have hA : ∀ q : Nat, s.heap.size ≤ q → A q := fun q h => by rw [← hAe]; exact Or.inr h
  clear hAe hD0
  have hS : va_S A s.heap s.heap [] := va_S.rf
  have S : CallFix p m c cX9_crossingSign 2 s (([.ref a_this, .int v1] : List Value).toArray) wsX9_crossingSign RX9 := ⟨hx, hb, hml, hown, hts⟩
  have hl := lv_entry ([.ref a_this, .int v1]) (n := 2) (Nat.le_of_ble_eq_true rfl)
  rw [lg_entry_eq]
  generalize (lg_sl ([.ref a_this, .int v1]) ++ List.replicate (2 - (lg_sl ([.ref a_this, .int v1])).length) Slot.unset).toArray = ls at hl ⊢
  replace hl : lv_has ls 2 [(0, .ref a_this), (1, .int v1)] := hl
  generalize ([] : List Loc) = locs at hS ⊢
  delta kX9_crossingSign at hf
  obtain ⟨H, hH⟩ : ∃ H, H = s.heap := ⟨_, rfl⟩
  have hS : va_S A s.heap H locs := by rw [hH]; exact hS
  have hP : va_P D vwCl [(a_this, .inr (6, [.ref a_text, .ref a_reader, .ref a_diagram, .ref a_draft, .ref a_shelf, .ref a_bracket, .ref a_colouring, .int i_savedStates, .int i_newestPlace])), (a_diagram, .inr (2, [.int i_diagram_crossings, .int i_diagram_circles, .ref a_diagram_arcs])), (a_diagram_arcs, .inl (cyI, 32, .inl f_diagram_arcs))] H := by rw [hH]; exact hP
  suffices hgo : W p l e (headSpec wsX9_crossingSign rmX9_crossingSign).room s m (([.ref a_this, .int v1] : List Value).toArray) below meth c H locs 0 0 (MQ below (kQi D cyI cyZ A [(a_this, .inr (6, [.ref a_text, .ref a_reader, .ref a_diagram, .ref a_draft, .ref a_shelf, .ref a_bracket, .ref a_colouring, .int i_savedStates, .int i_newestPlace])), (a_diagram, .inr (2, [.int i_diagram_crossings, .int i_diagram_circles, .ref a_diagram_arcs])), (a_diagram_arcs, .inl (cyI, 32, .inl f_diagram_arcs))] r) (([.ref a_this, .int v1] : List Value).toArray) s 0 0 A) (F0 m 0 ls []) by rw [hH] at hgo; exact hgo
  clear hH
  refine lv_aload_n hx hb dX9_crossingSign_0 rfl (lv_at hl 0 rfl) ?_
  refine va_get (D := D) (ci := 6) (v := .ref a_diagram) (C := RX9) (T := TX9) (N := 9) hx hb hts qX9_crossingSign_X9 hown hK hP 0 rfl rfl 2 (Nat.le_of_ble_eq_true rfl) (hts (.fieldLink RX9 26 "KnotDiagram" "diagram" "LKnotDiagram$Diagram;") qX9_crossingSign_0) (fun _ h9 => h9) rfl dX9_crossingSign_1 ?_
  refine lv_iload_n hx hb dX9_crossingSign_4 rfl (lv_at hl 1 rfl) ?_
  obtain ⟨r_1, hc_1, hf⟩ := bnd1_s hf
  refine kcVi (As := [.int v1]) (rest := []) (w2 := [(a_this, .inr (6, [.ref a_text, .ref a_reader, .ref a_diagram, .ref a_draft, .ref a_shelf, .ref a_bracket, .ref a_colouring, .int i_savedStates, .int i_newestPlace])), (a_diagram, .inr (2, [.int i_diagram_crossings, .int i_diagram_circles, .ref a_diagram_arcs])), (a_diagram_arcs, .inl (cyI, 32, .inl f_diagram_arcs))]) S hK hP hD hS hA hN (mX2_hasCrossing l D cyI cyZ H.size a_diagram a_diagram_arcs v1 i_diagram_crossings i_diagram_circles r_1 hc_1) (cwV 1 hts gX9_crossingSign_X2_hasCrossing rfl rfl rfl (by decide +kernel) ⟨Nat.le_of_ble_eq_true rfl, Nat.le_of_ble_eq_true rfl⟩) 2 1 rfl rfl [1] [0, 2] [0, 2, 1] rfl rfl rfl rfl (by decide) rfl rfl hl.1 (Nat.le_of_ble_eq_true rfl) dX9_crossingSign_5 ⟨Nat.le_of_ble_eq_true rfl, Nat.le_of_ble_eq_true rfl⟩ (fun H locs hP hD hS => ?_)
  refine lv_if_ne (tgt := 14) hx hb dX9_crossingSign_8 (by decide) (fun c_4 => ?_) (fun c_4 => ?_)
  · replace hf := kt_n hf c_4
    refine lv_iload_n hx hb dX9_crossingSign_14 rfl (lv_at hl 1 rfl) ?_
    refine lv_aload_n hx hb dX9_crossingSign_15 rfl (lv_at hl 0 rfl) ?_
    refine va_get (D := D) (ci := 6) (v := .ref a_diagram) (C := RX9) (T := TX9) (N := 9) hx hb hts qX9_crossingSign_X9 hown hK hP 0 rfl rfl 2 (Nat.le_of_ble_eq_true rfl) (hts (.fieldLink RX9 26 "KnotDiagram" "diagram" "LKnotDiagram$Diagram;") qX9_crossingSign_0) (fun _ h9 => h9) rfl dX9_crossingSign_16 ?_
    obtain ⟨r_2, hc_2, hf⟩ := bnd1_s hf
    refine kcSi (As := [.ref a_diagram]) (rest := [.int v1]) (w2 := [(a_this, .inr (6, [.ref a_text, .ref a_reader, .ref a_diagram, .ref a_draft, .ref a_shelf, .ref a_bracket, .ref a_colouring, .int i_savedStates, .int i_newestPlace])), (a_diagram, .inr (2, [.int i_diagram_crossings, .int i_diagram_circles, .ref a_diagram_arcs])), (a_diagram_arcs, .inl (cyI, 32, .inl f_diagram_arcs))]) S hK hP hD hS hA hN (mX7_enteredEnds l D cyI cyZ H.size a_diagram a_diagram_arcs i_diagram_crossings i_diagram_circles f_diagram_arcs r_2 hc_2) (va_cwS 1 hts gX9_crossingSign_X7_enteredEnds rfl rfl rfl (by decide +kernel) ⟨Nat.le_of_ble_eq_true rfl, Nat.le_of_ble_eq_true rfl⟩) [1, 2] [0] [0, 1, 2] rfl rfl rfl rfl (by decide) rfl rfl hl.1 (Nat.le_of_ble_eq_true rfl) dX9_crossingSign_19 ⟨Nat.le_of_ble_eq_true rfl, Nat.le_of_ble_eq_true rfl⟩ (fun H locs hP hD hS => ?_)
    obtain ⟨r_3, hc_3, hf⟩ := bnd1_s hf
    refine kcSi (As := [.int v1, .int r_2]) (rest := []) (w2 := [(a_this, .inr (6, [.ref a_text, .ref a_reader, .ref a_diagram, .ref a_draft, .ref a_shelf, .ref a_bracket, .ref a_colouring, .int i_savedStates, .int i_newestPlace])), (a_diagram, .inr (2, [.int i_diagram_crossings, .int i_diagram_circles, .ref a_diagram_arcs])), (a_diagram_arcs, .inl (cyI, 32, .inl f_diagram_arcs))]) S hK hP hD hS hA hN (mX7_sign l D cyI cyZ H.size v1 r_2 r_3 hc_3) (va_cwS 2 hts gX9_crossingSign_X7_sign rfl rfl rfl (by decide +kernel) ⟨Nat.le_of_ble_eq_true rfl, Nat.le_of_ble_eq_true rfl⟩) [] [0, 1, 2] [0, 1, 2] rfl rfl rfl rfl (by decide) rfl rfl hl.1 (Nat.le_of_ble_eq_true rfl) dX9_crossingSign_22 ⟨Nat.le_of_ble_eq_true rfl, Nat.le_of_ble_eq_true rfl⟩ (fun H locs hP hD hS => ?_)
    obtain rfl := some1_s hf
    exact kRi hx hb hr hlocks hP hK hD hS rfl dX9_crossingSign_25
  · replace hf := kt_p hf c_4
    refine lv_ldc (v := (-1000001)) hx hb hown (hts (.constant RX9 58 (-1000001)) qX9_crossingSign_1) dX9_crossingSign_11 ?_
    obtain rfl := some1_s hf
    exact kRi hx hb hr hlocks hP hK hD hS rfl dX9_crossingSign_13
def kX9_writhe (i_diagram_crossings : Int32) (f_diagram_arcs : Nat → Int32) : Option (Int32) :=
  bnd1 (kX7_signSum i_diagram_crossings f_diagram_arcs) (fun r_1 => some r_1)
def rmX9_writhe : Room := { frames := 5, cells := 0, slots := 0, locals := 118 }
theorem qX9_writhe_0 : (.fieldLink RX9 26 "KnotDiagram" "diagram" "LKnotDiagram$Diagram;" : Cond) ∈ wsX9_writhe := by decide +kernel
theorem qX9_writhe_X9 : ∀ w ∈ wsX90, w ∈ wsX9_writhe := by decide +kernel
set_option maxHeartbeats 4000000 in
set_option maxRecDepth 100000 in
theorem mX9_writhe (l : Launch) (D : va_G) (cyI cyZ : ClassId) (sz : Nat) (a_this a_text a_reader a_diagram a_draft a_shelf a_bracket a_colouring a_diagram_arcs : Nat) (i_savedStates : Int32) (i_newestPlace : Int32) (i_diagram_crossings : Int32) (i_diagram_circles : Int32) (f_diagram_arcs : Nat → Int32) (r : Int32) (hf : kX9_writhe i_diagram_crossings f_diagram_arcs = some r) : Met l yX9_writhe wsX9_writhe rmX9_writhe (kPre D cyI cyZ [.ref a_this] [(a_this, .inr (6, [.ref a_text, .ref a_reader, .ref a_diagram, .ref a_draft, .ref a_shelf, .ref a_bracket, .ref a_colouring, .int i_savedStates, .int i_newestPlace])), (a_diagram, .inr (2, [.int i_diagram_crossings, .int i_diagram_circles, .ref a_diagram_arcs])), (a_diagram_arcs, .inl (cyI, 32, .inl f_diagram_arcs))] sz) (kQi D cyI cyZ (va_A [(a_this, .inr (6, [.ref a_text, .ref a_reader, .ref a_diagram, .ref a_draft, .ref a_shelf, .ref a_bracket, .ref a_colouring, .int i_savedStates, .int i_newestPlace])), (a_diagram, .inr (2, [.int i_diagram_crossings, .int i_diagram_circles, .ref a_diagram_arcs])), (a_diagram_arcs, .inl (cyI, 32, .inl f_diagram_arcs))] sz) [(a_this, .inr (6, [.ref a_text, .ref a_reader, .ref a_diagram, .ref a_draft, .ref a_shelf, .ref a_bracket, .ref a_colouring, .int i_savedStates, .int i_newestPlace])), (a_diagram, .inr (2, [.int i_diagram_crossings, .int i_diagram_circles, .ref a_diagram_arcs])), (a_diagram_arcs, .inl (cyI, 32, .inl f_diagram_arcs))] r) 0 0 (va_A [(a_this, .inr (6, [.ref a_text, .ref a_reader, .ref a_diagram, .ref a_draft, .ref a_shelf, .ref a_bracket, .ref a_colouring, .int i_savedStates, .int i_newestPlace])), (a_diagram, .inr (2, [.int i_diagram_crossings, .int i_diagram_circles, .ref a_diagram_arcs])), (a_diagram_arcs, .inl (cyI, 32, .inl f_diagram_arcs))] sz) := by
  refine Met.ofW (cc := cX9_writhe) (maxL := 1) (ret := (some .int)) (by decide) rfl ?_
  intro p e s m args below meth c s₁ B hml hv
  obtain ⟨rfl, hsz, hP, hK, hD0, hN⟩ := hv
  have hx := B.exec
  have hb := B.bytes
  have hr := B.returns
  have hts := atoms_spec (ws := wsX9_writhe) B.pre
  have hown : s.vm.findClass RX9 = some m.cls := findClass_of_methodNamed B.named
  have hlocks := B.notSynchronized
  subst hsz
  have hD := hD0.self (sz := s.heap.size)
  generalize hAe : va_A [(a_this, .inr (6, [.ref a_text, .ref a_reader, .ref a_diagram, .ref a_draft, .ref a_shelf, .ref a_bracket, .ref a_colouring, .int i_savedStates, .int i_newestPlace])), (a_diagram, .inr (2, [.int i_diagram_crossings, .int i_diagram_circles, .ref a_diagram_arcs])), (a_diagram_arcs, .inl (cyI, 32, .inl f_diagram_arcs))] s.heap.size = A at hD ⊢
  have hA : ∀ q : Nat, s.heap.size ≤ q → A q := fun q h => by rw [← hAe]; exact Or.inr h
  clear hAe hD0
  have hS : va_S A s.heap s.heap [] := va_S.rf
  have S : CallFix p m c cX9_writhe 1 s (([.ref a_this] : List Value).toArray) wsX9_writhe RX9 := ⟨hx, hb, hml, hown, hts⟩
  have hl := lv_entry ([.ref a_this]) (n := 1) (Nat.le_of_ble_eq_true rfl)
  rw [lg_entry_eq]
  generalize (lg_sl ([.ref a_this]) ++ List.replicate (1 - (lg_sl ([.ref a_this])).length) Slot.unset).toArray = ls at hl ⊢
  replace hl : lv_has ls 1 [(0, .ref a_this)] := hl
  generalize ([] : List Loc) = locs at hS ⊢
  delta kX9_writhe at hf
  obtain ⟨H, hH⟩ : ∃ H, H = s.heap := ⟨_, rfl⟩
  have hS : va_S A s.heap H locs := by rw [hH]; exact hS
  have hP : va_P D vwCl [(a_this, .inr (6, [.ref a_text, .ref a_reader, .ref a_diagram, .ref a_draft, .ref a_shelf, .ref a_bracket, .ref a_colouring, .int i_savedStates, .int i_newestPlace])), (a_diagram, .inr (2, [.int i_diagram_crossings, .int i_diagram_circles, .ref a_diagram_arcs])), (a_diagram_arcs, .inl (cyI, 32, .inl f_diagram_arcs))] H := by rw [hH]; exact hP
  suffices hgo : W p l e (headSpec wsX9_writhe rmX9_writhe).room s m (([.ref a_this] : List Value).toArray) below meth c H locs 0 0 (MQ below (kQi D cyI cyZ A [(a_this, .inr (6, [.ref a_text, .ref a_reader, .ref a_diagram, .ref a_draft, .ref a_shelf, .ref a_bracket, .ref a_colouring, .int i_savedStates, .int i_newestPlace])), (a_diagram, .inr (2, [.int i_diagram_crossings, .int i_diagram_circles, .ref a_diagram_arcs])), (a_diagram_arcs, .inl (cyI, 32, .inl f_diagram_arcs))] r) (([.ref a_this] : List Value).toArray) s 0 0 A) (F0 m 0 ls []) by rw [hH] at hgo; exact hgo
  clear hH
  refine lv_aload_n hx hb dX9_writhe_0 rfl (lv_at hl 0 rfl) ?_
  refine va_get (D := D) (ci := 6) (v := .ref a_diagram) (C := RX9) (T := TX9) (N := 9) hx hb hts qX9_writhe_X9 hown hK hP 0 rfl rfl 2 (Nat.le_of_ble_eq_true rfl) (hts (.fieldLink RX9 26 "KnotDiagram" "diagram" "LKnotDiagram$Diagram;") qX9_writhe_0) (fun _ h9 => h9) rfl dX9_writhe_1 ?_
  obtain ⟨r_1, hc_1, hf⟩ := bnd1_s hf
  refine kcSi (As := [.ref a_diagram]) (rest := []) (w2 := [(a_this, .inr (6, [.ref a_text, .ref a_reader, .ref a_diagram, .ref a_draft, .ref a_shelf, .ref a_bracket, .ref a_colouring, .int i_savedStates, .int i_newestPlace])), (a_diagram, .inr (2, [.int i_diagram_crossings, .int i_diagram_circles, .ref a_diagram_arcs])), (a_diagram_arcs, .inl (cyI, 32, .inl f_diagram_arcs))]) S hK hP hD hS hA hN (mX7_signSum l D cyI cyZ H.size a_diagram a_diagram_arcs i_diagram_crossings i_diagram_circles f_diagram_arcs r_1 hc_1) (va_cwS 1 hts gX9_writhe_X7_signSum rfl rfl rfl (by decide +kernel) ⟨Nat.le_of_ble_eq_true rfl, Nat.le_of_ble_eq_true rfl⟩) [1, 2] [0] [0, 1, 2] rfl rfl rfl rfl (by decide) rfl rfl hl.1 (Nat.le_of_ble_eq_true rfl) dX9_writhe_4 ⟨Nat.le_of_ble_eq_true rfl, Nat.le_of_ble_eq_true rfl⟩ (fun H locs hP hD hS => ?_)
  obtain rfl := some1_s hf
  exact kRi hx hb hr hlocks hP hK hD hS rfl dX9_writhe_7
def kX9_stateLoops (v1 : Int32) (i_diagram_crossings : Int32) (i_diagram_circles : Int32) (f_diagram_arcs : Nat → Int32) (f_bracket_otherEnds : Nat → Int32) : Option (Int32 × (Nat → Int32)) :=
  if v1 < 0 then some ((-1000001), f_bracket_otherEnds) else if v1 < (ishl 1 i_diagram_crossings) then bnd2 (kX0_loops v1 f_bracket_otherEnds i_diagram_crossings i_diagram_circles f_diagram_arcs) (fun r_1 o_otherEnds_1 => some (r_1, o_otherEnds_1)) else some ((-1000001), f_bracket_otherEnds)
def rmX9_stateLoops : Room := { frames := 4, cells := 0, slots := 0, locals := 96 }
theorem qX9_stateLoops_0 : (.constant RX9 58 (-1000001) : Cond) ∈ wsX9_stateLoops := by decide +kernel
theorem qX9_stateLoops_1 : (.fieldLink RX9 26 "KnotDiagram" "diagram" "LKnotDiagram$Diagram;" : Cond) ∈ wsX9_stateLoops := by decide +kernel
theorem qX9_stateLoops_2 : (.fieldLink RX9 74 "KnotDiagram$Diagram" "crossings" "I" : Cond) ∈ wsX9_stateLoops := by decide +kernel
theorem qX9_stateLoops_3 : (.fieldLink RX9 43 "KnotDiagram" "bracket" "LKnotDiagram$Bracket;" : Cond) ∈ wsX9_stateLoops := by decide +kernel
theorem qX9_stateLoops_X9 : ∀ w ∈ wsX90, w ∈ wsX9_stateLoops := by decide +kernel
theorem qX9_stateLoops_X2 : ∀ w ∈ wsX20, w ∈ wsX9_stateLoops := by decide +kernel
set_option maxHeartbeats 4000000 in
set_option maxRecDepth 100000 in
theorem mX9_stateLoops (l : Launch) (D : va_G) (cyI cyZ : ClassId) (sz : Nat) (a_this a_text a_reader a_diagram a_draft a_shelf a_bracket a_colouring a_diagram_arcs a_bracket_otherEnds a_bracket_tally a_bracket_coefficients a_bracket_product : Nat) (v1 : Int32) (i_savedStates : Int32) (i_newestPlace : Int32) (i_diagram_crossings : Int32) (i_diagram_circles : Int32) (f_diagram_arcs : Nat → Int32) (i_bracket_prepared : Int32) (f_bracket_otherEnds : Nat → Int32) (r : Int32) (o_bracket_otherEnds : Nat → Int32) (hf : kX9_stateLoops v1 i_diagram_crossings i_diagram_circles f_diagram_arcs f_bracket_otherEnds = some (r, o_bracket_otherEnds)) : Met l yX9_stateLoops wsX9_stateLoops rmX9_stateLoops (kPre D cyI cyZ [.ref a_this, .int v1] [(a_this, .inr (6, [.ref a_text, .ref a_reader, .ref a_diagram, .ref a_draft, .ref a_shelf, .ref a_bracket, .ref a_colouring, .int i_savedStates, .int i_newestPlace])), (a_diagram, .inr (2, [.int i_diagram_crossings, .int i_diagram_circles, .ref a_diagram_arcs])), (a_diagram_arcs, .inl (cyI, 32, .inl f_diagram_arcs)), (a_bracket, .inr (0, [.ref a_bracket_otherEnds, .ref a_bracket_tally, .ref a_bracket_coefficients, .ref a_bracket_product, .int i_bracket_prepared])), (a_bracket_otherEnds, .inl (cyI, 32, .inl f_bracket_otherEnds))] sz) (kQi D cyI cyZ (va_A [(a_this, .inr (6, [.ref a_text, .ref a_reader, .ref a_diagram, .ref a_draft, .ref a_shelf, .ref a_bracket, .ref a_colouring, .int i_savedStates, .int i_newestPlace])), (a_diagram, .inr (2, [.int i_diagram_crossings, .int i_diagram_circles, .ref a_diagram_arcs])), (a_diagram_arcs, .inl (cyI, 32, .inl f_diagram_arcs)), (a_bracket, .inr (0, [.ref a_bracket_otherEnds, .ref a_bracket_tally, .ref a_bracket_coefficients, .ref a_bracket_product, .int i_bracket_prepared])), (a_bracket_otherEnds, .inl (cyI, 32, .inl f_bracket_otherEnds))] sz) [(a_this, .inr (6, [.ref a_text, .ref a_reader, .ref a_diagram, .ref a_draft, .ref a_shelf, .ref a_bracket, .ref a_colouring, .int i_savedStates, .int i_newestPlace])), (a_diagram, .inr (2, [.int i_diagram_crossings, .int i_diagram_circles, .ref a_diagram_arcs])), (a_diagram_arcs, .inl (cyI, 32, .inl f_diagram_arcs)), (a_bracket, .inr (0, [.ref a_bracket_otherEnds, .ref a_bracket_tally, .ref a_bracket_coefficients, .ref a_bracket_product, .int i_bracket_prepared])), (a_bracket_otherEnds, .inl (cyI, 32, .inl o_bracket_otherEnds))] r) 0 0 (va_A [(a_this, .inr (6, [.ref a_text, .ref a_reader, .ref a_diagram, .ref a_draft, .ref a_shelf, .ref a_bracket, .ref a_colouring, .int i_savedStates, .int i_newestPlace])), (a_diagram, .inr (2, [.int i_diagram_crossings, .int i_diagram_circles, .ref a_diagram_arcs])), (a_diagram_arcs, .inl (cyI, 32, .inl f_diagram_arcs)), (a_bracket, .inr (0, [.ref a_bracket_otherEnds, .ref a_bracket_tally, .ref a_bracket_coefficients, .ref a_bracket_product, .int i_bracket_prepared])), (a_bracket_otherEnds, .inl (cyI, 32, .inl f_bracket_otherEnds))] sz) := by
  refine Met.ofW (cc := cX9_stateLoops) (maxL := 2) (ret := (some .int)) (by decide) rfl ?_
  intro p e s m args below meth c s₁ B hml hv
  obtain ⟨rfl, hsz, hP, hK, hD0, hN⟩ := hv
  have hx := B.exec
  have hb := B.bytes
  have hr := B.returns
  have hts := atoms_spec (ws := wsX9_stateLoops) B.pre
  have hown : s.vm.findClass RX9 = some m.cls := findClass_of_methodNamed B.named
  have hlocks := B.notSynchronized
  subst hsz
  have hD := hD0.self (sz := s.heap.size)
  generalize hAe : va_A [(a_this, .inr (6, [.ref a_text, .ref a_reader, .ref a_diagram, .ref a_draft, .ref a_shelf, .ref a_bracket, .ref a_colouring, .int i_savedStates, .int i_newestPlace])), (a_diagram, .inr (2, [.int i_diagram_crossings, .int i_diagram_circles, .ref a_diagram_arcs])), (a_diagram_arcs, .inl (cyI, 32, .inl f_diagram_arcs)), (a_bracket, .inr (0, [.ref a_bracket_otherEnds, .ref a_bracket_tally, .ref a_bracket_coefficients, .ref a_bracket_product, .int i_bracket_prepared])), (a_bracket_otherEnds, .inl (cyI, 32, .inl f_bracket_otherEnds))] s.heap.size = A at hD ⊢
  have hA : ∀ q : Nat, s.heap.size ≤ q → A q := fun q h => by rw [← hAe]; exact Or.inr h
  clear hAe hD0
  have hS : va_S A s.heap s.heap [] := va_S.rf
  have S : CallFix p m c cX9_stateLoops 2 s (([.ref a_this, .int v1] : List Value).toArray) wsX9_stateLoops RX9 := ⟨hx, hb, hml, hown, hts⟩
  have hl := lv_entry ([.ref a_this, .int v1]) (n := 2) (Nat.le_of_ble_eq_true rfl)
  rw [lg_entry_eq]
  generalize (lg_sl ([.ref a_this, .int v1]) ++ List.replicate (2 - (lg_sl ([.ref a_this, .int v1])).length) Slot.unset).toArray = ls at hl ⊢
  replace hl : lv_has ls 2 [(0, .ref a_this), (1, .int v1)] := hl
  generalize ([] : List Loc) = locs at hS ⊢
  delta kX9_stateLoops at hf
  obtain ⟨H, hH⟩ : ∃ H, H = s.heap := ⟨_, rfl⟩
  have hS : va_S A s.heap H locs := by rw [hH]; exact hS
  have hP : va_P D vwCl [(a_this, .inr (6, [.ref a_text, .ref a_reader, .ref a_diagram, .ref a_draft, .ref a_shelf, .ref a_bracket, .ref a_colouring, .int i_savedStates, .int i_newestPlace])), (a_diagram, .inr (2, [.int i_diagram_crossings, .int i_diagram_circles, .ref a_diagram_arcs])), (a_diagram_arcs, .inl (cyI, 32, .inl f_diagram_arcs)), (a_bracket, .inr (0, [.ref a_bracket_otherEnds, .ref a_bracket_tally, .ref a_bracket_coefficients, .ref a_bracket_product, .int i_bracket_prepared])), (a_bracket_otherEnds, .inl (cyI, 32, .inl f_bracket_otherEnds))] H := by rw [hH]; exact hP
  suffices hgo : W p l e (headSpec wsX9_stateLoops rmX9_stateLoops).room s m (([.ref a_this, .int v1] : List Value).toArray) below meth c H locs 0 0 (MQ below (kQi D cyI cyZ A [(a_this, .inr (6, [.ref a_text, .ref a_reader, .ref a_diagram, .ref a_draft, .ref a_shelf, .ref a_bracket, .ref a_colouring, .int i_savedStates, .int i_newestPlace])), (a_diagram, .inr (2, [.int i_diagram_crossings, .int i_diagram_circles, .ref a_diagram_arcs])), (a_diagram_arcs, .inl (cyI, 32, .inl f_diagram_arcs)), (a_bracket, .inr (0, [.ref a_bracket_otherEnds, .ref a_bracket_tally, .ref a_bracket_coefficients, .ref a_bracket_product, .int i_bracket_prepared])), (a_bracket_otherEnds, .inl (cyI, 32, .inl o_bracket_otherEnds))] r) (([.ref a_this, .int v1] : List Value).toArray) s 0 0 A) (F0 m 0 ls []) by rw [hH] at hgo; exact hgo
  clear hH
  refine lv_iload_n hx hb dX9_stateLoops_0 rfl (lv_at hl 1 rfl) ?_
  refine lv_if_lt (tgt := 17) hx hb dX9_stateLoops_1 (by decide) (fun c_3 => ?_) (fun c_3 => ?_)
  · replace hf := kt_p hf c_3
    refine lv_ldc (v := (-1000001)) hx hb hown (hts (.constant RX9 58 (-1000001)) qX9_stateLoops_0) dX9_stateLoops_17 ?_
    obtain ⟨rfl, rfl⟩ := some2_s hf
    exact kRi hx hb hr hlocks hP hK hD hS rfl dX9_stateLoops_19
  · replace hf := kt_n hf c_3
    refine lv_iload_n hx hb dX9_stateLoops_4 rfl (lv_at hl 1 rfl) ?_
    refine lv_iconst (v := 1) hx hb dX9_stateLoops_5 (by decide) ?_
    refine lv_aload_n hx hb dX9_stateLoops_6 rfl (lv_at hl 0 rfl) ?_
    refine va_get (D := D) (ci := 6) (v := .ref a_diagram) (C := RX9) (T := TX9) (N := 9) hx hb hts qX9_stateLoops_X9 hown hK hP 0 rfl rfl 2 (Nat.le_of_ble_eq_true rfl) (hts (.fieldLink RX9 26 "KnotDiagram" "diagram" "LKnotDiagram$Diagram;") qX9_stateLoops_1) (fun _ h9 => h9) rfl dX9_stateLoops_7 ?_
    refine va_get (D := D) (ci := 2) (v := .int i_diagram_crossings) (C := RX2) (T := TX2) (N := 3) hx hb hts qX9_stateLoops_X2 hown hK hP 1 rfl rfl 0 (Nat.le_of_ble_eq_true rfl) (hts (.fieldLink RX9 74 "KnotDiagram$Diagram" "crossings" "I") qX9_stateLoops_2) (fun _ h9 => h9) rfl dX9_stateLoops_10 ?_
    refine k_ishl hx hb dX9_stateLoops_13 ?_
    refine lv_icmp_lt (tgt := 20) hx hb dX9_stateLoops_14 (by decide) (fun c_2 => ?_) (fun c_2 => ?_)
    · replace hf := kt_p hf c_2
      refine lv_aload_n hx hb dX9_stateLoops_20 rfl (lv_at hl 0 rfl) ?_
      refine va_get (D := D) (ci := 6) (v := .ref a_bracket) (C := RX9) (T := TX9) (N := 9) hx hb hts qX9_stateLoops_X9 hown hK hP 0 rfl rfl 5 (Nat.le_of_ble_eq_true rfl) (hts (.fieldLink RX9 43 "KnotDiagram" "bracket" "LKnotDiagram$Bracket;") qX9_stateLoops_3) (fun _ h9 => h9) rfl dX9_stateLoops_21 ?_
      refine lv_aload_n hx hb dX9_stateLoops_24 rfl (lv_at hl 0 rfl) ?_
      refine va_get (D := D) (ci := 6) (v := .ref a_diagram) (C := RX9) (T := TX9) (N := 9) hx hb hts qX9_stateLoops_X9 hown hK hP 0 rfl rfl 2 (Nat.le_of_ble_eq_true rfl) (hts (.fieldLink RX9 26 "KnotDiagram" "diagram" "LKnotDiagram$Diagram;") qX9_stateLoops_1) (fun _ h9 => h9) rfl dX9_stateLoops_25 ?_
      refine lv_iload_n hx hb dX9_stateLoops_28 rfl (lv_at hl 1 rfl) ?_
      obtain ⟨r_1, o_otherEnds_1, hc_1, hf⟩ := bnd2_s hf
      refine kcVi (As := [.ref a_diagram, .int v1]) (rest := []) (w2 := [(a_this, .inr (6, [.ref a_text, .ref a_reader, .ref a_diagram, .ref a_draft, .ref a_shelf, .ref a_bracket, .ref a_colouring, .int i_savedStates, .int i_newestPlace])), (a_diagram, .inr (2, [.int i_diagram_crossings, .int i_diagram_circles, .ref a_diagram_arcs])), (a_diagram_arcs, .inl (cyI, 32, .inl f_diagram_arcs)), (a_bracket, .inr (0, [.ref a_bracket_otherEnds, .ref a_bracket_tally, .ref a_bracket_coefficients, .ref a_bracket_product, .int i_bracket_prepared])), (a_bracket_otherEnds, .inl (cyI, 32, .inl o_otherEnds_1))]) S hK hP hD hS hA hN (mX0_loops l D cyI cyZ H.size a_bracket a_diagram a_bracket_otherEnds a_bracket_tally a_bracket_coefficients a_bracket_product a_diagram_arcs v1 i_bracket_prepared f_bracket_otherEnds i_diagram_crossings i_diagram_circles f_diagram_arcs r_1 o_otherEnds_1 hc_1) (cwV 2 hts gX9_stateLoops_X0_loops rfl rfl rfl (by decide +kernel) ⟨Nat.le_of_ble_eq_true rfl, Nat.le_of_ble_eq_true rfl⟩) 0 3 rfl rfl [3, 4, 1, 2] [0] [0, 3, 4, 1, 2] rfl rfl rfl rfl (by decide) rfl rfl hl.1 (Nat.le_of_ble_eq_true rfl) dX9_stateLoops_29 ⟨Nat.le_of_ble_eq_true rfl, Nat.le_of_ble_eq_true rfl⟩ (fun H locs hP hD hS => ?_)
      obtain ⟨rfl, rfl⟩ := some2_s hf
      exact kRi hx hb hr hlocks hP hK hD hS rfl dX9_stateLoops_32
    · replace hf := kt_n hf c_2
      refine lv_ldc (v := (-1000001)) hx hb hown (hts (.constant RX9 58 (-1000001)) qX9_stateLoops_0) dX9_stateLoops_17 ?_
      obtain ⟨rfl, rfl⟩ := some2_s hf
      exact kRi hx hb hr hlocks hP hK hD hS rfl dX9_stateLoops_19
