theorem kArrI {s : State} {args : Array Value} (h : (Cond.arrayClass .int).before args s = true) : ∃ cA : ClassId, ArrOfT s cA .int ∧ va_RA s cA .int := by
  obtain ⟨cA, kA, comp, hfind, hk, hkind⟩ := Cond.arrayClass_spec h
  exact ⟨cA, fun n z => ⟨fun k h => (by cases h), kA, hk, comp, hkind⟩, hfind⟩
theorem kArrZ {s : State} {args : Array Value} (h : (Cond.arrayClass .boolean).before args s = true) : ∃ cA : ClassId, ArrOfT s cA .boolean ∧ va_RA s cA .boolean := by
  obtain ⟨cA, kA, comp, hfind, hk, hkind⟩ := Cond.arrayClass_spec h
  exact ⟨cA, fun n z => ⟨fun k h => (by cases h), kA, hk, comp, hkind⟩, hfind⟩
set_option maxRecDepth 100000 in
theorem whole_start {p : Program} {e : Env} {s : State} {m : MethodId} {below : List Frame} {meth : Method} {c : Code} (l : Launch) (hflags : l.flags = flags0) {b L : Nat} {xs : Nat → Int32} (hL : L ≤ 1536) (C0 : lw_At p s m meth c b L xs) : W p l e room_1 s m #[Value.ref b] below meth c s.heap [] 0 0 (lw_Z below #[Value.ref b] s) (entryFrame m ([Value.ref b] : List Value).toArray 4) := by
  obtain ⟨hx, hb, hr, hml, hown, hts0, hX, hbl, hlocks, hgv⟩ := id C0
  have hts : ∀ w ∈ wsL_law, w.before #[Value.ref b] s = true := fun w hw => hts0 w (wsL_law_in w hw)
  have hA : ∀ q : Nat, s.heap.size ≤ q → (fun q : Nat => s.heap.size ≤ q) q := fun _ h => h
  have hbA : ¬ (fun q : Nat => s.heap.size ≤ q) b := Nat.not_le.mpr hbl
  obtain ⟨c0, i0, K0⟩ := u_known (C := RX0) (T := TX0) (N := 5) (n := 5) hts0 inX0 (hts0 (.instantiable RX0 5) (by decide +kernel))
  obtain ⟨c1, i1, K1⟩ := u_known (C := RX1) (T := TX1) (N := 2) (n := 2) hts0 inX1 (hts0 (.instantiable RX1 2) (by decide +kernel))
  obtain ⟨c2, i2, K2⟩ := u_known (C := RX2) (T := TX2) (N := 3) (n := 3) hts0 inX2 (hts0 (.instantiable RX2 3) (by decide +kernel))
  obtain ⟨c3, i3, K3⟩ := u_known (C := RX4) (T := TX4) (N := 2) (n := 2) hts0 inX4 (hts0 (.instantiable RX4 2) (by decide +kernel))
  obtain ⟨c4, i4, K4⟩ := u_known (C := RX6) (T := TX6) (N := 2) (n := 2) hts0 inX6 (hts0 (.instantiable RX6 2) (by decide +kernel))
  obtain ⟨c5, i5, K5⟩ := u_known (C := RX8) (T := TX8) (N := 2) (n := 2) hts0 inX8 (hts0 (.instantiable RX8 2) (by decide +kernel))
  obtain ⟨c6, i6, K6⟩ := u_known (C := RX9) (T := TX9) (N := 9) (n := 9) hts0 inX9 (hts0 (.instantiable RX9 9) (by decide +kernel))
  obtain ⟨c7, i7, K7⟩ := u_known (C := RX10) (T := TX10) (N := 17) (n := 17) hts0 inX10 (hts0 (.instantiable RX10 17) (by decide +kernel))
  obtain ⟨cyI, aI, rI⟩ := kArrI (hts0 (.arrayClass .int) (by decide +kernel))
  obtain ⟨cyZ, aZ, rZ⟩ := kArrZ (hts0 (.arrayClass .boolean) (by decide +kernel))
  obtain ⟨dC, dI, hKc⟩ : ∃ (dC : Nat → ClassId) (dI : Nat → Nat → Nat), ∀ (k : Nat) (q : vw_C), vwCl[k]? = some q → u_Kn s q.1 q.2.1 q.2.2 (dC k) (dI k) := by
    refine ⟨fun k => match k with | 0 => c0 | 1 => c1 | 2 => c2 | 3 => c3 | 4 => c4 | 5 => c5 | 6 => c6 | _ => c7, fun k => match k with | 0 => i0 | 1 => i1 | 2 => i2 | 3 => i3 | 4 => i4 | 5 => i5 | 6 => i6 | _ => i7, ?_⟩
    intro k q hq
    match k, hq with
    | 0, hq => cases hq; exact K0
    | 1, hq => cases hq; exact K1
    | 2, hq => cases hq; exact K2
    | 3, hq => cases hq; exact K3
    | 4, hq => cases hq; exact K4
    | 5, hq => cases hq; exact K5
    | 6, hq => cases hq; exact K6
    | 7, hq => cases hq; exact K7
    | k + 8, hq => simp [vwCl] at hq
  have hK : va_K (dC, dI) vwCl (kTy cyI cyZ) s := ⟨hKc, fun k q h => by
    match k, h with
    | 0, h => cases h; exact ⟨aI, rI⟩
    | 1, h => cases h; exact ⟨aZ, rZ⟩
    | k + 2, h => simp [kTy] at h⟩
  have hN : kN s := ⟨va_Nw.of rfl (hts0 (.methodLinkNest RX7 15 yX9_contains RX9) (by decide +kernel)), va_Nw.of rfl (hts0 (.methodLinkNest RX7 32 yX9_bit RX9) (by decide +kernel)), va_Nw.of rfl (hts0 (.methodLinkNest RX5 15 yX9_contains RX9) (by decide +kernel)), va_Nw.of rfl (hts0 (.methodLinkNest RX5 25 yX9_bit RX9) (by decide +kernel)), va_Nw.of rfl (hts0 (.methodLinkNest RX0 72 yX9_contains RX9) (by decide +kernel)), va_Nw.of rfl (hts0 (.methodLinkNest RX0 80 yX9_bit RX9) (by decide +kernel))⟩
  have hI : kNI s := ⟨va_Nw.of rfl (hts0 (.methodLinkNest RX9 11 yX8_init RX9) (by decide +kernel)), va_Nw.of rfl (hts0 (.methodLinkNest RX9 18 yX4_init RX9) (by decide +kernel)), va_Nw.of rfl (hts0 (.methodLinkNest RX9 25 yX2_init RX9) (by decide +kernel)), va_Nw.of rfl (hts0 (.methodLinkNest RX9 35 yX6_init RX9) (by decide +kernel)), va_Nw.of rfl (hts0 (.methodLinkNest RX9 42 yX0_init RX9) (by decide +kernel)), va_Nw.of rfl (hts0 (.methodLinkNest RX9 49 yX1_init RX9) (by decide +kernel))⟩
  have hS : va_S (fun q : Nat => s.heap.size ≤ q) s.heap s.heap [] := va_S.rf
  have hP : va_P (dC, dI) vwCl [] s.heap := fun k q h => by simp at h
  have hD : va_D (fun q : Nat => s.heap.size ≤ q) [] := ⟨fun i j p q h => by simp at h, fun k q h => by simp at h⟩
  have hl := lv_entry ([.ref b]) (n := 4) (Nat.le_of_ble_eq_true rfl)
  rw [lg_entry_eq]
  generalize (lg_sl ([.ref b]) ++ List.replicate (4 - (lg_sl ([.ref b])).length) Slot.unset).toArray = ls at hl ⊢
  have hl : lv_has ls 4 [(0, .ref b)] := hl
  refine va_new (ci := 6) (fs := [.null, .null, .null, .null, .null, .null, .null, .int 0, .int 0]) (C := RX9) (T := TX9) (N := 9) hx hb hts0 inX9 tyX9 tyX9_ok hown (hts0 (.classLink RL 7 RX9) (by decide +kernel)) (hts0 (.instantiable RX9 9) (by decide +kernel)) (hts0 (.initialized RX9) (by decide +kernel)) hK hP hD hS hA rfl (fun j hj => by rcases (show j = 0 ∨ j = 1 ∨ j = 2 ∨ j = 3 ∨ j = 4 ∨ j = 5 ∨ j = 6 ∨ j = 7 ∨ j = 8 by omega) with rfl | rfl | rfl | rfl | rfl | rfl | rfl | rfl | rfl <;> rfl) (Nat.le_of_ble_eq_true rfl) (Nat.le_of_ble_eq_true rfl) dL_law_0 (fun g9 H hP hD hS => ?_)
  replace hP : va_P (dC, dI) vwCl [(g9, .inr (6, [.null, .null, .null, .null, .null, .null, .null, .int 0, .int 0]))] H := hP
  replace hD : va_D (fun q : Nat => s.heap.size ≤ q) [(g9, .inr (6, [.null, .null, .null, .null, .null, .null, .null, .int 0, .int 0]))] := hD
  refine W.widen (k := 1) (n := 9) (Nat.le_of_ble_eq_true rfl) (Nat.le_of_ble_eq_true rfl) ?_
  refine lv_dup hx hb dL_law_3 rfl ?_
  have hPc := hP.sub (ws' := [(g9, .inr (6, [.null, .null, .null, .null, .null, .null, .null, .int 0, .int 0]))]) [0] rfl
  have hDc := hD.sub (ws' := [(g9, .inr (6, [.null, .null, .null, .null, .null, .null, .null, .int 0, .int 0]))]) [0] (by decide) rfl
  have hFc := va_free (wc := [(g9, .inr (6, [.null, .null, .null, .null, .null, .null, .null, .int 0, .int 0]))]) hD hS hA [0] rfl
  refine va_callv (va_runI (As := []) (rest := [.ref g9]) ⟨hx, hb, hml, hown, hts⟩ (mX9_init l (dC, dI) cyI cyZ H.size g9) (cwI 0 hts gL_law_X9_init rfl rfl rfl (hts0 (.initialized RX9) (by decide +kernel)) (hts0 (.methodLink RL 9 yX9_init) (by decide +kernel)) (hts0 (.instanceMethod yX9_init) (by decide +kernel)) rfl (by decide +kernel) ⟨Nat.le_of_ble_eq_true rfl, Nat.le_of_ble_eq_true rfl⟩) ⟨kBlindI, fun U hU hW => ⟨rfl, by rw [hU], by rw [hU]; exact hPc, va_K.moved hW.alike hK, hDc.weaken (fun _ _ _ _ => trivial), hN.warm hW, hI.warm hW⟩⟩ rfl rfl hl.1 rfl (lv_room (Nat.le_of_ble_eq_true rfl)) dL_law_4 ⟨Nat.le_of_ble_eq_true rfl, Nat.le_of_ble_eq_true rfl⟩) hS (fun q _ h => hFc q h) hFc (fun u t H1 locs ht hvm hu hB hz1 hk1 hS => ?_)
  unfold kCX9 at hB
  obtain ⟨q5, q5a0, q16, q27, q27a0, q38, q38a0, q49, q49a0, q49a1, q60, q60a0, q60a1, q60a2, q60a3, q71, q71a0, q71a1, hP1, hK1, hD1⟩ := hB
  rw [ht] at hP1
  obtain ⟨hP, hD⟩ := va_join (wr := []) (w1 := [(g9, .inr (6, [.ref q5, .ref q16, .ref q27, .ref q38, .ref q49, .ref q60, .ref q71, .int 0, .int 0])), (q5, .inr (5, [.ref q5a0, .int 0])), (q5a0, .inl (cyI, 160, .inl zf)), (q16, .inr (3, [.int 0, .int 0])), (q27, .inr (2, [.int 0, .int 1, .ref q27a0])), (q27a0, .inl (cyI, 32, .inl zf)), (q38, .inr (2, [.int 0, .int 0, .ref q38a0])), (q38a0, .inl (cyI, 32, .inl zf)), (q49, .inr (4, [.ref q49a0, .ref q49a1])), (q49a0, .inl (cyI, 340, .inl zf)), (q49a1, .inl (cyZ, 10, .inl zf)), (q60, .inr (0, [.ref q60a0, .ref q60a1, .ref q60a2, .ref q60a3, .int 0])), (q60a0, .inl (cyI, 32, .inl zf)), (q60a1, .inl (cyI, 189, .inl zf)), (q60a2, .inl (cyI, 121, .inl zf)), (q60a3, .inl (cyI, 121, .inl zf)), (q71, .inr (1, [.ref q71a0, .ref q71a1])), (q71a0, .inl (cyI, 17, .inl zf)), (q71a1, .inl (cyI, 136, .inl zf))]) hP hD [0] [] rfl rfl (by decide) (by decide) hk1 hFc hP1 hD1
  clear hPc hDc hFc hP1 hK1 hD1 hk1 hz1 hvm hu
  generalize H1 = H at hP hS ⊢
  replace hP : va_P (dC, dI) vwCl [(g9, .inr (6, [.ref q5, .ref q16, .ref q27, .ref q38, .ref q49, .ref q60, .ref q71, .int 0, .int 0])), (q5, .inr (5, [.ref q5a0, .int 0])), (q5a0, .inl (cyI, 160, .inl zf)), (q16, .inr (3, [.int 0, .int 0])), (q27, .inr (2, [.int 0, .int 1, .ref q27a0])), (q27a0, .inl (cyI, 32, .inl zf)), (q38, .inr (2, [.int 0, .int 0, .ref q38a0])), (q38a0, .inl (cyI, 32, .inl zf)), (q49, .inr (4, [.ref q49a0, .ref q49a1])), (q49a0, .inl (cyI, 340, .inl zf)), (q49a1, .inl (cyZ, 10, .inl zf)), (q60, .inr (0, [.ref q60a0, .ref q60a1, .ref q60a2, .ref q60a3, .int 0])), (q60a0, .inl (cyI, 32, .inl zf)), (q60a1, .inl (cyI, 189, .inl zf)), (q60a2, .inl (cyI, 121, .inl zf)), (q60a3, .inl (cyI, 121, .inl zf)), (q71, .inr (1, [.ref q71a0, .ref q71a1])), (q71a0, .inl (cyI, 17, .inl zf)), (q71a1, .inl (cyI, 136, .inl zf))] H := hP
  replace hD : va_D (fun q : Nat => s.heap.size ≤ q) [(g9, .inr (6, [.ref q5, .ref q16, .ref q27, .ref q38, .ref q49, .ref q60, .ref q71, .int 0, .int 0])), (q5, .inr (5, [.ref q5a0, .int 0])), (q5a0, .inl (cyI, 160, .inl zf)), (q16, .inr (3, [.int 0, .int 0])), (q27, .inr (2, [.int 0, .int 1, .ref q27a0])), (q27a0, .inl (cyI, 32, .inl zf)), (q38, .inr (2, [.int 0, .int 0, .ref q38a0])), (q38a0, .inl (cyI, 32, .inl zf)), (q49, .inr (4, [.ref q49a0, .ref q49a1])), (q49a0, .inl (cyI, 340, .inl zf)), (q49a1, .inl (cyZ, 10, .inl zf)), (q60, .inr (0, [.ref q60a0, .ref q60a1, .ref q60a2, .ref q60a3, .int 0])), (q60a0, .inl (cyI, 32, .inl zf)), (q60a1, .inl (cyI, 189, .inl zf)), (q60a2, .inl (cyI, 121, .inl zf)), (q60a3, .inl (cyI, 121, .inl zf)), (q71, .inr (1, [.ref q71a0, .ref q71a1])), (q71a0, .inl (cyI, 17, .inl zf)), (q71a1, .inl (cyI, 136, .inl zf))] := hD
  refine lv_astore_n (lv' := [(1, .ref g9), (0, .ref b)]) hx hb dL_law_7 rfl hl (by decide) rfl (fun ls hl => ?_)
  refine va_new (ci := 7) (fs := [.null, .null, .int 0, .null, .null, .null, .int 0, .int 0, .null, .null, .null, .null, .null, .null, .null, .null, .null]) (C := RX10) (T := TX10) (N := 17) hx hb hts0 inX10 tyX10 tyX10_ok hown (hts0 (.classLink RL 10 RX10) (by decide +kernel)) (hts0 (.instantiable RX10 17) (by decide +kernel)) (hts0 (.initialized RX10) (by decide +kernel)) hK hP hD hS hA rfl (fun j hj => by rcases (show j = 0 ∨ j = 1 ∨ j = 2 ∨ j = 3 ∨ j = 4 ∨ j = 5 ∨ j = 6 ∨ j = 7 ∨ j = 8 ∨ j = 9 ∨ j = 10 ∨ j = 11 ∨ j = 12 ∨ j = 13 ∨ j = 14 ∨ j = 15 ∨ j = 16 by omega) with rfl | rfl | rfl | rfl | rfl | rfl | rfl | rfl | rfl | rfl | rfl | rfl | rfl | rfl | rfl | rfl | rfl <;> rfl) (Nat.le_of_ble_eq_true rfl) (Nat.le_of_ble_eq_true rfl) dL_law_8 (fun g10 H hP hD hS => ?_)
  replace hP : va_P (dC, dI) vwCl ([(g9, .inr (6, [.ref q5, .ref q16, .ref q27, .ref q38, .ref q49, .ref q60, .ref q71, .int 0, .int 0])), (q5, .inr (5, [.ref q5a0, .int 0])), (q5a0, .inl (cyI, 160, .inl zf)), (q16, .inr (3, [.int 0, .int 0])), (q27, .inr (2, [.int 0, .int 1, .ref q27a0])), (q27a0, .inl (cyI, 32, .inl zf)), (q38, .inr (2, [.int 0, .int 0, .ref q38a0])), (q38a0, .inl (cyI, 32, .inl zf)), (q49, .inr (4, [.ref q49a0, .ref q49a1])), (q49a0, .inl (cyI, 340, .inl zf)), (q49a1, .inl (cyZ, 10, .inl zf)), (q60, .inr (0, [.ref q60a0, .ref q60a1, .ref q60a2, .ref q60a3, .int 0])), (q60a0, .inl (cyI, 32, .inl zf)), (q60a1, .inl (cyI, 189, .inl zf)), (q60a2, .inl (cyI, 121, .inl zf)), (q60a3, .inl (cyI, 121, .inl zf)), (q71, .inr (1, [.ref q71a0, .ref q71a1])), (q71a0, .inl (cyI, 17, .inl zf)), (q71a1, .inl (cyI, 136, .inl zf))] ++ [(g10, .inr (7, [.null, .null, .int 0, .null, .null, .null, .int 0, .int 0, .null, .null, .null, .null, .null, .null, .null, .null, .null]))]) H := hP
  replace hD : va_D (fun q : Nat => s.heap.size ≤ q) ([(g9, .inr (6, [.ref q5, .ref q16, .ref q27, .ref q38, .ref q49, .ref q60, .ref q71, .int 0, .int 0])), (q5, .inr (5, [.ref q5a0, .int 0])), (q5a0, .inl (cyI, 160, .inl zf)), (q16, .inr (3, [.int 0, .int 0])), (q27, .inr (2, [.int 0, .int 1, .ref q27a0])), (q27a0, .inl (cyI, 32, .inl zf)), (q38, .inr (2, [.int 0, .int 0, .ref q38a0])), (q38a0, .inl (cyI, 32, .inl zf)), (q49, .inr (4, [.ref q49a0, .ref q49a1])), (q49a0, .inl (cyI, 340, .inl zf)), (q49a1, .inl (cyZ, 10, .inl zf)), (q60, .inr (0, [.ref q60a0, .ref q60a1, .ref q60a2, .ref q60a3, .int 0])), (q60a0, .inl (cyI, 32, .inl zf)), (q60a1, .inl (cyI, 189, .inl zf)), (q60a2, .inl (cyI, 121, .inl zf)), (q60a3, .inl (cyI, 121, .inl zf)), (q71, .inr (1, [.ref q71a0, .ref q71a1])), (q71a0, .inl (cyI, 17, .inl zf)), (q71a1, .inl (cyI, 136, .inl zf))] ++ [(g10, .inr (7, [.null, .null, .int 0, .null, .null, .null, .int 0, .int 0, .null, .null, .null, .null, .null, .null, .null, .null, .null]))]) := hD
  refine lv_dup hx hb dL_law_11 rfl ?_
  have hPc := hP.sub (ws' := [(g10, .inr (7, [.null, .null, .int 0, .null, .null, .null, .int 0, .int 0, .null, .null, .null, .null, .null, .null, .null, .null, .null]))]) [19] rfl
  have hDc := hD.sub (ws' := [(g10, .inr (7, [.null, .null, .int 0, .null, .null, .null, .int 0, .int 0, .null, .null, .null, .null, .null, .null, .null, .null, .null]))]) [19] (by decide) rfl
  have hFc := va_free (wc := [(g10, .inr (7, [.null, .null, .int 0, .null, .null, .null, .int 0, .int 0, .null, .null, .null, .null, .null, .null, .null, .null, .null]))]) hD hS hA [19] rfl
  refine va_callv (va_runI (As := []) (rest := [.ref g10]) ⟨hx, hb, hml, hown, hts⟩ (mX10_init l (dC, dI) cyI cyZ H.size g10) (cwI 0 hts gL_law_X10_init rfl rfl rfl (hts0 (.initialized RX10) (by decide +kernel)) (hts0 (.methodLink RL 12 yX10_init) (by decide +kernel)) (hts0 (.instanceMethod yX10_init) (by decide +kernel)) rfl (by decide +kernel) ⟨Nat.le_of_ble_eq_true rfl, Nat.le_of_ble_eq_true rfl⟩) ⟨kBlind, fun U hU hW => ⟨rfl, by rw [hU], by rw [hU]; exact hPc, va_K.moved hW.alike hK, hDc.weaken (fun _ _ _ _ => trivial), hN.warm hW⟩⟩ rfl rfl hl.1 rfl (lv_room (Nat.le_of_ble_eq_true rfl)) dL_law_12 ⟨Nat.le_of_ble_eq_true rfl, Nat.le_of_ble_eq_true rfl⟩) hS (fun q _ h => hFc q h) hFc (fun u t H1 locs ht hvm hu hB hz1 hk1 hS => ?_)
  unfold kCX10 at hB
  obtain ⟨rq7, rq16, rq24, rq31, rq40, rq48, rq56, rq64, rq72, rq80, rq88, rq96, rq104, rq113, hP1, hK1, hD1⟩ := hB
  rw [ht] at hP1
  obtain ⟨hP, hD⟩ := va_join (wr := [(g9, .inr (6, [.ref q5, .ref q16, .ref q27, .ref q38, .ref q49, .ref q60, .ref q71, .int 0, .int 0])), (q5, .inr (5, [.ref q5a0, .int 0])), (q5a0, .inl (cyI, 160, .inl zf)), (q16, .inr (3, [.int 0, .int 0])), (q27, .inr (2, [.int 0, .int 1, .ref q27a0])), (q27a0, .inl (cyI, 32, .inl zf)), (q38, .inr (2, [.int 0, .int 0, .ref q38a0])), (q38a0, .inl (cyI, 32, .inl zf)), (q49, .inr (4, [.ref q49a0, .ref q49a1])), (q49a0, .inl (cyI, 340, .inl zf)), (q49a1, .inl (cyZ, 10, .inl zf)), (q60, .inr (0, [.ref q60a0, .ref q60a1, .ref q60a2, .ref q60a3, .int 0])), (q60a0, .inl (cyI, 32, .inl zf)), (q60a1, .inl (cyI, 189, .inl zf)), (q60a2, .inl (cyI, 121, .inl zf)), (q60a3, .inl (cyI, 121, .inl zf)), (q71, .inr (1, [.ref q71a0, .ref q71a1])), (q71a0, .inl (cyI, 17, .inl zf)), (q71a1, .inl (cyI, 136, .inl zf))]) (w1 := [(g10, .inr (7, [.ref rq7, .ref rq16, .int 0, .ref rq24, .ref rq31, .ref rq40, .int 0, .int 0, .ref rq48, .ref rq56, .ref rq64, .ref rq72, .ref rq80, .ref rq88, .ref rq96, .ref rq104, .ref rq113])), (rq7, .inl (cyI, 34, .inl (upd zf (1 : Int32).toNatClampNeg 1))), (rq16, .inl (cyI, 272, .inl zf)), (rq24, .inl (cyI, 68, .inl zf)), (rq31, .inl (cyZ, 2, .inl zf)), (rq40, .inl (cyI, 160, .inl zf)), (rq48, .inl (cyI, 34, .inl zf)), (rq56, .inl (cyI, 17, .inl zf)), (rq64, .inl (cyI, 16, .inl zf)), (rq72, .inl (cyZ, 17, .inl zf)), (rq80, .inl (cyI, 34, .inl zf)), (rq88, .inl (cyI, 17, .inl zf)), (rq96, .inl (cyZ, 32, .inl zf)), (rq104, .inl (cyI, 121, .inl zf)), (rq113, .inl (cyI, 136, .inl zf))]) hP hD [19] [0, 1, 2, 3, 4, 5, 6, 7, 8, 9, 10, 11, 12, 13, 14, 15, 16, 17, 18] rfl rfl (by decide) (by decide) hk1 hFc hP1 hD1
  clear hPc hDc hFc hP1 hK1 hD1 hk1 hz1 hvm hu
  generalize H1 = H at hP hS ⊢
  refine W.widen (k := 34) (n := 2195) (Nat.le_of_ble_eq_true rfl) (Nat.le_of_ble_eq_true rfl) ?_
  refine lv_astore_n (lv' := [(2, .ref g10), (1, .ref g9), (0, .ref b)]) hx hb dL_law_15 rfl hl (by decide) rfl (fun ls hl => ?_)
  refine lv_iconst (v := 0) hx hb dL_law_16 (by decide) ?_
  refine lv_istore_n (lv' := [(3, .int 0), (2, .ref g10), (1, .ref g9), (0, .ref b)]) hx hb dL_law_17 rfl hl (by decide) rfl (fun ls hl => ?_)
  exact law_loop hL C0 ⟨hx, hb, hml, hown, hts⟩ hK hN (L + 4) 0 (Nat.zero_le _) (by omega) H _ ⟨_, _, _, _, _, _, _, _, _, _, _, _, _, _, _, _, _, _, _, _, _, _, _, _, _, _, _, _, _, _, _, _, _, _, _, _, _, _, SR0, TR0, hP, hD, hS⟩ ls (lv_sub hl [3, 2, 1, 0] rfl)
