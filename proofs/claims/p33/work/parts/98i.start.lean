/-! ===== the law's start ===== -/
theorem CS0 : CS 0 0 0 1 zf zf zf 0 zf (0, 1, fun _ => 0) [] (fun _ => none) :=
  ⟨⟨Nat.zero_le _, (show 1 ≤ 4 by omega), fun _ _ => rfl, fun e he => absurd he (Nat.not_lt_zero _), fun e he => absurd he (Nat.not_lt_zero _)⟩, rfl, rfl, ⟨fun e _ => rfl, fun e => Nat.zero_le _, fun e _ => rfl⟩, Or.inl rfl, rfl, Nat.zero_le _, ⟨0, rfl, by omega, fun j e h => by simp at h⟩, fun k hk => ⟨fun _ => rfl, fun e h => by cases h⟩⟩
theorem kArrI {s : State} {args : Array Value} (h : (Cond.arrayClass .int).before args s = true) : ∃ cA : ClassId, ArrOfT s cA .int ∧ va_RA s cA .int := by
  obtain ⟨cA, kA, comp, hfind, hk, hkind⟩ := Cond.arrayClass_spec h
  exact ⟨cA, fun n z => ⟨fun k h => (by cases h), kA, hk, comp, hkind⟩, hfind⟩
theorem kArrZ {s : State} {args : Array Value} (h : (Cond.arrayClass .boolean).before args s = true) : ∃ cA : ClassId, ArrOfT s cA .boolean ∧ va_RA s cA .boolean := by
  obtain ⟨cA, kA, comp, hfind, hk, hkind⟩ := Cond.arrayClass_spec h
  exact ⟨cA, fun n z => ⟨fun k h => (by cases h), kA, hk, comp, hkind⟩, hfind⟩
set_option maxRecDepth 100000 in
theorem whole_start {p : Program} {e : Env} {s : State} {m : MethodId} {below : List Frame} {meth : Method} {c : Code} (l : Launch) (hflags : l.flags = flags0) {b L : Nat} {xs : Nat → Int32} (hL : L ≤ 260) (C0 : lw_At p s m meth c b L xs) : W p l e room_1 s m #[Value.ref b] below meth c s.heap [] 0 0 (lw_Z below #[Value.ref b] s) (entryFrame m ([Value.ref b] : List Value).toArray 13) := by
  obtain ⟨hx, hb, hr, hml, hown, hts0, hX, hbl, hlocks, hgv⟩ := id C0
  have hts : ∀ w ∈ wsL_law, w.before #[Value.ref b] s = true := fun w hw => hts0 w (wsL_law_in w hw)
  have hA : ∀ q : Nat, s.heap.size ≤ q → (fun q : Nat => s.heap.size ≤ q) q := fun _ h => h
  have hbA : ¬ (fun q : Nat => s.heap.size ≤ q) b := Nat.not_le.mpr hbl
  obtain ⟨c0, i0, K0⟩ := u_known (C := RX0) (T := TX0) (N := 5) (n := 5) hts0 inX0 (hts0 (.instantiable RX0 5) (by decide +kernel))
  obtain ⟨c1, i1, K1⟩ := u_known (C := RX1) (T := TX1) (N := 2) (n := 2) hts0 inX1 (hts0 (.instantiable RX1 2) (by decide +kernel))
  obtain ⟨c2, i2, K2⟩ := u_known (C := RX2) (T := TX2) (N := 3) (n := 3) hts0 inX2 (hts0 (.instantiable RX2 3) (by decide +kernel))
  obtain ⟨c3, i3, K3⟩ := u_known (C := RX4) (T := TX4) (N := 2) (n := 2) hts0 inX4 (hts0 (.instantiable RX4 2) (by decide +kernel))
  obtain ⟨c4, i4, K4⟩ := u_known (C := RX6) (T := TX6) (N := 2) (n := 2) hts0 inX6 (hts0 (.instantiable RX6 2) (by decide +kernel))
  obtain ⟨c5, i5, K5⟩ := u_known (C := RX8) (T := TX8) (N := 2) (n := 2) hts0 inX8 (hts0 (.instantiable RX8 2) (by decide +kernel))
  obtain ⟨c6, i6, K6⟩ := u_known (C := RX9) (T := TX9) (N := 9) (n := 9) hts0 inX9 (hts0 (.instantiable RX9 9) (by decide +kernel))
  obtain ⟨cyI, aI, rI⟩ := kArrI (hts0 (.arrayClass .int) (by decide +kernel))
  obtain ⟨cyZ, aZ, rZ⟩ := kArrZ (hts0 (.arrayClass .boolean) (by decide +kernel))
  obtain ⟨dC, dI, hKc⟩ : ∃ (dC : Nat → ClassId) (dI : Nat → Nat → Nat), ∀ (k : Nat) (q : vw_C), vwCl[k]? = some q → u_Kn s q.1 q.2.1 q.2.2 (dC k) (dI k) := by
    refine ⟨fun k => match k with | 0 => c0 | 1 => c1 | 2 => c2 | 3 => c3 | 4 => c4 | 5 => c5 | _ => c6, fun k => match k with | 0 => i0 | 1 => i1 | 2 => i2 | 3 => i3 | 4 => i4 | 5 => i5 | _ => i6, ?_⟩
    intro k q hq
    match k, hq with
    | 0, hq => cases hq; exact K0
    | 1, hq => cases hq; exact K1
    | 2, hq => cases hq; exact K2
    | 3, hq => cases hq; exact K3
    | 4, hq => cases hq; exact K4
    | 5, hq => cases hq; exact K5
    | 6, hq => cases hq; exact K6
    | k + 7, hq => simp [vwCl] at hq
  have hK : va_K (dC, dI) vwCl (kTy cyI cyZ) s := ⟨hKc, fun k q h => by
    match k, h with
    | 0, h => cases h; exact ⟨aI, rI⟩
    | 1, h => cases h; exact ⟨aZ, rZ⟩
    | k + 2, h => simp [kTy] at h⟩
  have hN : kN s := ⟨va_Nw.of rfl (hts0 (.methodLinkNest RX7 15 yX9_contains RX9) (by decide +kernel)), va_Nw.of rfl (hts0 (.methodLinkNest RX7 32 yX9_bit RX9) (by decide +kernel)), va_Nw.of rfl (hts0 (.methodLinkNest RX5 15 yX9_contains RX9) (by decide +kernel)), va_Nw.of rfl (hts0 (.methodLinkNest RX5 25 yX9_bit RX9) (by decide +kernel)), va_Nw.of rfl (hts0 (.methodLinkNest RX0 72 yX9_contains RX9) (by decide +kernel)), va_Nw.of rfl (hts0 (.methodLinkNest RX0 80 yX9_bit RX9) (by decide +kernel))⟩
  have hI : kNI s := ⟨va_Nw.of rfl (hts0 (.methodLinkNest RX9 11 yX8_init RX9) (by decide +kernel)), va_Nw.of rfl (hts0 (.methodLinkNest RX9 18 yX4_init RX9) (by decide +kernel)), va_Nw.of rfl (hts0 (.methodLinkNest RX9 25 yX2_init RX9) (by decide +kernel)), va_Nw.of rfl (hts0 (.methodLinkNest RX9 35 yX6_init RX9) (by decide +kernel)), va_Nw.of rfl (hts0 (.methodLinkNest RX9 42 yX0_init RX9) (by decide +kernel)), va_Nw.of rfl (hts0 (.methodLinkNest RX9 49 yX1_init RX9) (by decide +kernel))⟩
  have hS : va_S (fun q : Nat => s.heap.size ≤ q) s.heap s.heap [] := va_S.rf
  have hP : va_P (dC, dI) vwCl [] s.heap := fun k q h => by simp at h
  have hD : va_D (fun q : Nat => s.heap.size ≤ q) [] := ⟨fun i j p q h => by simp at h, fun k q h => by simp at h⟩
  have hl := lv_entry ([.ref b]) (n := 13) (Nat.le_of_ble_eq_true rfl)
  rw [lg_entry_eq]
  generalize (lg_sl ([.ref b]) ++ List.replicate (13 - (lg_sl ([.ref b])).length) Slot.unset).toArray = ls at hl ⊢
  have hl : lv_has ls 13 [(0, .ref b)] := hl
  refine va_new (ci := 6) (fs := [.null, .null, .null, .null, .null, .null, .null, .int 0, .int 0]) (C := RX9) (T := TX9) (N := 9) hx hb hts0 inX9 tyX9 tyX9_ok hown (hts0 (.classLink RL 10 RX9) (by decide +kernel)) (hts0 (.instantiable RX9 9) (by decide +kernel)) (hts0 (.initialized RX9) (by decide +kernel)) hK hP hD hS hA rfl (fun j hj => by rcases (show j = 0 ∨ j = 1 ∨ j = 2 ∨ j = 3 ∨ j = 4 ∨ j = 5 ∨ j = 6 ∨ j = 7 ∨ j = 8 by omega) with rfl | rfl | rfl | rfl | rfl | rfl | rfl | rfl | rfl <;> rfl) (Nat.le_of_ble_eq_true rfl) (Nat.le_of_ble_eq_true rfl) dL_law_0 (fun g9 H hP hD hS => ?_)
  replace hP : va_P (dC, dI) vwCl [(g9, .inr (6, [.null, .null, .null, .null, .null, .null, .null, .int 0, .int 0]))] H := hP
  replace hD : va_D (fun q : Nat => s.heap.size ≤ q) [(g9, .inr (6, [.null, .null, .null, .null, .null, .null, .null, .int 0, .int 0]))] := hD
  refine W.widen (k := 1) (n := 9) (Nat.le_of_ble_eq_true rfl) (Nat.le_of_ble_eq_true rfl) ?_
  refine lv_dup hx hb dL_law_3 rfl ?_
  have hPc := hP.sub (ws' := [(g9, .inr (6, [.null, .null, .null, .null, .null, .null, .null, .int 0, .int 0]))]) [0] rfl
  have hDc := hD.sub (ws' := [(g9, .inr (6, [.null, .null, .null, .null, .null, .null, .null, .int 0, .int 0]))]) [0] (by decide) rfl
  have hFc := va_free (wc := [(g9, .inr (6, [.null, .null, .null, .null, .null, .null, .null, .int 0, .int 0]))]) hD hS hA [0] rfl
  refine va_callv (va_runI (As := []) (rest := [.ref g9]) ⟨hx, hb, hml, hown, hts⟩ (mX9_init l (dC, dI) cyI cyZ H.size g9) (cwI 0 hts gL_law_X9_init rfl rfl rfl (hts0 (.initialized RX9) (by decide +kernel)) (hts0 (.methodLink RL 133 yX9_init) (by decide +kernel)) (hts0 (.instanceMethod yX9_init) (by decide +kernel)) rfl (by decide +kernel) ⟨Nat.le_of_ble_eq_true rfl, Nat.le_of_ble_eq_true rfl⟩) ⟨kBlindI, fun U hU hW => ⟨rfl, by rw [hU], by rw [hU]; exact hPc, va_K.moved hW.alike hK, hDc.weaken (fun _ _ _ _ => trivial), hN.warm hW, hI.warm hW⟩⟩ rfl rfl hl.1 rfl (lv_room (Nat.le_of_ble_eq_true rfl)) dL_law_4 ⟨Nat.le_of_ble_eq_true rfl, Nat.le_of_ble_eq_true rfl⟩) hS (fun q _ h => hFc q h) hFc (fun u t H1 locs ht hvm hu hB hz1 hk1 hS => ?_)
  unfold kCX9 at hB
  obtain ⟨q5, q5a0, q16, q27, q27a0, q38, q38a0, q49, q49a0, q49a1, q60, q60a0, q60a1, q60a2, q60a3, q71, q71a0, q71a1, hP1, hK1, hD1⟩ := hB
  rw [ht] at hP1
  obtain ⟨hP, hD⟩ := va_join (wr := []) (w1 := [(g9, .inr (6, [.ref q5, .ref q16, .ref q27, .ref q38, .ref q49, .ref q60, .ref q71, .int 0, .int 0])), (q5, .inr (5, [.ref q5a0, .int 0])), (q5a0, .inl (cyI, 160, .inl zf)), (q16, .inr (3, [.int 0, .int 0])), (q27, .inr (2, [.int 0, .int 1, .ref q27a0])), (q27a0, .inl (cyI, 32, .inl zf)), (q38, .inr (2, [.int 0, .int 0, .ref q38a0])), (q38a0, .inl (cyI, 32, .inl zf)), (q49, .inr (4, [.ref q49a0, .ref q49a1])), (q49a0, .inl (cyI, 340, .inl zf)), (q49a1, .inl (cyZ, 10, .inl zf)), (q60, .inr (0, [.ref q60a0, .ref q60a1, .ref q60a2, .ref q60a3, .int 0])), (q60a0, .inl (cyI, 32, .inl zf)), (q60a1, .inl (cyI, 189, .inl zf)), (q60a2, .inl (cyI, 121, .inl zf)), (q60a3, .inl (cyI, 121, .inl zf)), (q71, .inr (1, [.ref q71a0, .ref q71a1])), (q71a0, .inl (cyI, 17, .inl zf)), (q71a1, .inl (cyI, 136, .inl zf))]) hP hD [0] [] rfl rfl (by decide) (by decide) hk1 hFc hP1 hD1
  clear hPc hDc hFc hP1 hK1 hD1 hk1 hz1 hvm hu
  generalize H1 = H at hP hS ⊢
  replace hP : va_P (dC, dI) vwCl [(g9, .inr (6, [.ref q5, .ref q16, .ref q27, .ref q38, .ref q49, .ref q60, .ref q71, .int 0, .int 0])), (q5, .inr (5, [.ref q5a0, .int 0])), (q5a0, .inl (cyI, 160, .inl zf)), (q16, .inr (3, [.int 0, .int 0])), (q27, .inr (2, [.int 0, .int 1, .ref q27a0])), (q27a0, .inl (cyI, 32, .inl zf)), (q38, .inr (2, [.int 0, .int 0, .ref q38a0])), (q38a0, .inl (cyI, 32, .inl zf)), (q49, .inr (4, [.ref q49a0, .ref q49a1])), (q49a0, .inl (cyI, 340, .inl zf)), (q49a1, .inl (cyZ, 10, .inl zf)), (q60, .inr (0, [.ref q60a0, .ref q60a1, .ref q60a2, .ref q60a3, .int 0])), (q60a0, .inl (cyI, 32, .inl zf)), (q60a1, .inl (cyI, 189, .inl zf)), (q60a2, .inl (cyI, 121, .inl zf)), (q60a3, .inl (cyI, 121, .inl zf)), (q71, .inr (1, [.ref q71a0, .ref q71a1])), (q71a0, .inl (cyI, 17, .inl zf)), (q71a1, .inl (cyI, 136, .inl zf))] H := hP
  replace hD : va_D (fun q : Nat => s.heap.size ≤ q) [(g9, .inr (6, [.ref q5, .ref q16, .ref q27, .ref q38, .ref q49, .ref q60, .ref q71, .int 0, .int 0])), (q5, .inr (5, [.ref q5a0, .int 0])), (q5a0, .inl (cyI, 160, .inl zf)), (q16, .inr (3, [.int 0, .int 0])), (q27, .inr (2, [.int 0, .int 1, .ref q27a0])), (q27a0, .inl (cyI, 32, .inl zf)), (q38, .inr (2, [.int 0, .int 0, .ref q38a0])), (q38a0, .inl (cyI, 32, .inl zf)), (q49, .inr (4, [.ref q49a0, .ref q49a1])), (q49a0, .inl (cyI, 340, .inl zf)), (q49a1, .inl (cyZ, 10, .inl zf)), (q60, .inr (0, [.ref q60a0, .ref q60a1, .ref q60a2, .ref q60a3, .int 0])), (q60a0, .inl (cyI, 32, .inl zf)), (q60a1, .inl (cyI, 189, .inl zf)), (q60a2, .inl (cyI, 121, .inl zf)), (q60a3, .inl (cyI, 121, .inl zf)), (q71, .inr (1, [.ref q71a0, .ref q71a1])), (q71a0, .inl (cyI, 17, .inl zf)), (q71a1, .inl (cyI, 136, .inl zf))] := hD
  refine W.widen (k := 19) (n := 1218) (Nat.le_of_ble_eq_true rfl) (Nat.le_of_ble_eq_true rfl) ?_
  refine lv_astore_n (lv' := [(1, .ref g9), (0, .ref b)]) hx hb dL_law_7 rfl hl (by decide) rfl (fun ls hl => ?_)
  refine lv_bipush (v := 64) hx hb dL_law_8 (by decide) ?_
  refine va_newa (atype := .int) (a0 := (64, .inl zf)) (N' := 64) hx hb (hts0 (.arrayClass .int) (by decide +kernel)) (ty := .int) rfl hK hP hD hS hA (kCellI 64) (by decide +kernel) (by decide +kernel) (by decide +kernel) (Nat.le_of_ble_eq_true rfl) (Nat.le_of_ble_eq_true rfl) dL_law_10 (fun r2 cA H hKn hP hD hS => ?_)
  have hcA := kSameI hKn
  rw [hcA] at hP hD
  clear hKn hcA
  replace hP : va_P (dC, dI) vwCl [(g9, .inr (6, [.ref q5, .ref q16, .ref q27, .ref q38, .ref q49, .ref q60, .ref q71, .int 0, .int 0])), (q5, .inr (5, [.ref q5a0, .int 0])), (q5a0, .inl (cyI, 160, .inl zf)), (q16, .inr (3, [.int 0, .int 0])), (q27, .inr (2, [.int 0, .int 1, .ref q27a0])), (q27a0, .inl (cyI, 32, .inl zf)), (q38, .inr (2, [.int 0, .int 0, .ref q38a0])), (q38a0, .inl (cyI, 32, .inl zf)), (q49, .inr (4, [.ref q49a0, .ref q49a1])), (q49a0, .inl (cyI, 340, .inl zf)), (q49a1, .inl (cyZ, 10, .inl zf)), (q60, .inr (0, [.ref q60a0, .ref q60a1, .ref q60a2, .ref q60a3, .int 0])), (q60a0, .inl (cyI, 32, .inl zf)), (q60a1, .inl (cyI, 189, .inl zf)), (q60a2, .inl (cyI, 121, .inl zf)), (q60a3, .inl (cyI, 121, .inl zf)), (q71, .inr (1, [.ref q71a0, .ref q71a1])), (q71a0, .inl (cyI, 17, .inl zf)), (q71a1, .inl (cyI, 136, .inl zf)), (r2, .inl (cyI, 64, .inl zf))] H := hP
  replace hD : va_D (fun q : Nat => s.heap.size ≤ q) [(g9, .inr (6, [.ref q5, .ref q16, .ref q27, .ref q38, .ref q49, .ref q60, .ref q71, .int 0, .int 0])), (q5, .inr (5, [.ref q5a0, .int 0])), (q5a0, .inl (cyI, 160, .inl zf)), (q16, .inr (3, [.int 0, .int 0])), (q27, .inr (2, [.int 0, .int 1, .ref q27a0])), (q27a0, .inl (cyI, 32, .inl zf)), (q38, .inr (2, [.int 0, .int 0, .ref q38a0])), (q38a0, .inl (cyI, 32, .inl zf)), (q49, .inr (4, [.ref q49a0, .ref q49a1])), (q49a0, .inl (cyI, 340, .inl zf)), (q49a1, .inl (cyZ, 10, .inl zf)), (q60, .inr (0, [.ref q60a0, .ref q60a1, .ref q60a2, .ref q60a3, .int 0])), (q60a0, .inl (cyI, 32, .inl zf)), (q60a1, .inl (cyI, 189, .inl zf)), (q60a2, .inl (cyI, 121, .inl zf)), (q60a3, .inl (cyI, 121, .inl zf)), (q71, .inr (1, [.ref q71a0, .ref q71a1])), (q71a0, .inl (cyI, 17, .inl zf)), (q71a1, .inl (cyI, 136, .inl zf)), (r2, .inl (cyI, 64, .inl zf))] := hD
  refine W.widen (k := 20) (n := 1282) (Nat.le_of_ble_eq_true rfl) (Nat.le_of_ble_eq_true rfl) ?_
  refine lv_astore_n (lv' := [(2, .ref r2), (1, .ref g9), (0, .ref b)]) hx hb dL_law_12 rfl hl (by decide) rfl (fun ls hl => ?_)
  refine lv_bipush (v := 64) hx hb dL_law_13 (by decide) ?_
  refine va_newa (atype := .int) (a0 := (64, .inl zf)) (N' := 64) hx hb (hts0 (.arrayClass .int) (by decide +kernel)) (ty := .int) rfl hK hP hD hS hA (kCellI 64) (by decide +kernel) (by decide +kernel) (by decide +kernel) (Nat.le_of_ble_eq_true rfl) (Nat.le_of_ble_eq_true rfl) dL_law_15 (fun r3 cA H hKn hP hD hS => ?_)
  have hcA := kSameI hKn
  rw [hcA] at hP hD
  clear hKn hcA
  replace hP : va_P (dC, dI) vwCl [(g9, .inr (6, [.ref q5, .ref q16, .ref q27, .ref q38, .ref q49, .ref q60, .ref q71, .int 0, .int 0])), (q5, .inr (5, [.ref q5a0, .int 0])), (q5a0, .inl (cyI, 160, .inl zf)), (q16, .inr (3, [.int 0, .int 0])), (q27, .inr (2, [.int 0, .int 1, .ref q27a0])), (q27a0, .inl (cyI, 32, .inl zf)), (q38, .inr (2, [.int 0, .int 0, .ref q38a0])), (q38a0, .inl (cyI, 32, .inl zf)), (q49, .inr (4, [.ref q49a0, .ref q49a1])), (q49a0, .inl (cyI, 340, .inl zf)), (q49a1, .inl (cyZ, 10, .inl zf)), (q60, .inr (0, [.ref q60a0, .ref q60a1, .ref q60a2, .ref q60a3, .int 0])), (q60a0, .inl (cyI, 32, .inl zf)), (q60a1, .inl (cyI, 189, .inl zf)), (q60a2, .inl (cyI, 121, .inl zf)), (q60a3, .inl (cyI, 121, .inl zf)), (q71, .inr (1, [.ref q71a0, .ref q71a1])), (q71a0, .inl (cyI, 17, .inl zf)), (q71a1, .inl (cyI, 136, .inl zf)), (r2, .inl (cyI, 64, .inl zf)), (r3, .inl (cyI, 64, .inl zf))] H := hP
  replace hD : va_D (fun q : Nat => s.heap.size ≤ q) [(g9, .inr (6, [.ref q5, .ref q16, .ref q27, .ref q38, .ref q49, .ref q60, .ref q71, .int 0, .int 0])), (q5, .inr (5, [.ref q5a0, .int 0])), (q5a0, .inl (cyI, 160, .inl zf)), (q16, .inr (3, [.int 0, .int 0])), (q27, .inr (2, [.int 0, .int 1, .ref q27a0])), (q27a0, .inl (cyI, 32, .inl zf)), (q38, .inr (2, [.int 0, .int 0, .ref q38a0])), (q38a0, .inl (cyI, 32, .inl zf)), (q49, .inr (4, [.ref q49a0, .ref q49a1])), (q49a0, .inl (cyI, 340, .inl zf)), (q49a1, .inl (cyZ, 10, .inl zf)), (q60, .inr (0, [.ref q60a0, .ref q60a1, .ref q60a2, .ref q60a3, .int 0])), (q60a0, .inl (cyI, 32, .inl zf)), (q60a1, .inl (cyI, 189, .inl zf)), (q60a2, .inl (cyI, 121, .inl zf)), (q60a3, .inl (cyI, 121, .inl zf)), (q71, .inr (1, [.ref q71a0, .ref q71a1])), (q71a0, .inl (cyI, 17, .inl zf)), (q71a1, .inl (cyI, 136, .inl zf)), (r2, .inl (cyI, 64, .inl zf)), (r3, .inl (cyI, 64, .inl zf))] := hD
  refine W.widen (k := 21) (n := 1346) (Nat.le_of_ble_eq_true rfl) (Nat.le_of_ble_eq_true rfl) ?_
  refine lv_astore_n (lv' := [(3, .ref r3), (2, .ref r2), (1, .ref g9), (0, .ref b)]) hx hb dL_law_17 rfl hl (by decide) rfl (fun ls hl => ?_)
  refine lv_bipush (v := 64) hx hb dL_law_18 (by decide) ?_
  refine va_newa (atype := .int) (a0 := (64, .inl zf)) (N' := 64) hx hb (hts0 (.arrayClass .int) (by decide +kernel)) (ty := .int) rfl hK hP hD hS hA (kCellI 64) (by decide +kernel) (by decide +kernel) (by decide +kernel) (Nat.le_of_ble_eq_true rfl) (Nat.le_of_ble_eq_true rfl) dL_law_20 (fun r4 cA H hKn hP hD hS => ?_)
  have hcA := kSameI hKn
  rw [hcA] at hP hD
  clear hKn hcA
  replace hP : va_P (dC, dI) vwCl [(g9, .inr (6, [.ref q5, .ref q16, .ref q27, .ref q38, .ref q49, .ref q60, .ref q71, .int 0, .int 0])), (q5, .inr (5, [.ref q5a0, .int 0])), (q5a0, .inl (cyI, 160, .inl zf)), (q16, .inr (3, [.int 0, .int 0])), (q27, .inr (2, [.int 0, .int 1, .ref q27a0])), (q27a0, .inl (cyI, 32, .inl zf)), (q38, .inr (2, [.int 0, .int 0, .ref q38a0])), (q38a0, .inl (cyI, 32, .inl zf)), (q49, .inr (4, [.ref q49a0, .ref q49a1])), (q49a0, .inl (cyI, 340, .inl zf)), (q49a1, .inl (cyZ, 10, .inl zf)), (q60, .inr (0, [.ref q60a0, .ref q60a1, .ref q60a2, .ref q60a3, .int 0])), (q60a0, .inl (cyI, 32, .inl zf)), (q60a1, .inl (cyI, 189, .inl zf)), (q60a2, .inl (cyI, 121, .inl zf)), (q60a3, .inl (cyI, 121, .inl zf)), (q71, .inr (1, [.ref q71a0, .ref q71a1])), (q71a0, .inl (cyI, 17, .inl zf)), (q71a1, .inl (cyI, 136, .inl zf)), (r2, .inl (cyI, 64, .inl zf)), (r3, .inl (cyI, 64, .inl zf)), (r4, .inl (cyI, 64, .inl zf))] H := hP
  replace hD : va_D (fun q : Nat => s.heap.size ≤ q) [(g9, .inr (6, [.ref q5, .ref q16, .ref q27, .ref q38, .ref q49, .ref q60, .ref q71, .int 0, .int 0])), (q5, .inr (5, [.ref q5a0, .int 0])), (q5a0, .inl (cyI, 160, .inl zf)), (q16, .inr (3, [.int 0, .int 0])), (q27, .inr (2, [.int 0, .int 1, .ref q27a0])), (q27a0, .inl (cyI, 32, .inl zf)), (q38, .inr (2, [.int 0, .int 0, .ref q38a0])), (q38a0, .inl (cyI, 32, .inl zf)), (q49, .inr (4, [.ref q49a0, .ref q49a1])), (q49a0, .inl (cyI, 340, .inl zf)), (q49a1, .inl (cyZ, 10, .inl zf)), (q60, .inr (0, [.ref q60a0, .ref q60a1, .ref q60a2, .ref q60a3, .int 0])), (q60a0, .inl (cyI, 32, .inl zf)), (q60a1, .inl (cyI, 189, .inl zf)), (q60a2, .inl (cyI, 121, .inl zf)), (q60a3, .inl (cyI, 121, .inl zf)), (q71, .inr (1, [.ref q71a0, .ref q71a1])), (q71a0, .inl (cyI, 17, .inl zf)), (q71a1, .inl (cyI, 136, .inl zf)), (r2, .inl (cyI, 64, .inl zf)), (r3, .inl (cyI, 64, .inl zf)), (r4, .inl (cyI, 64, .inl zf))] := hD
  refine W.widen (k := 22) (n := 1410) (Nat.le_of_ble_eq_true rfl) (Nat.le_of_ble_eq_true rfl) ?_
  refine lv_astore (lv' := [(4, .ref r4), (3, .ref r3), (2, .ref r2), (1, .ref g9), (0, .ref b)]) hx hb dL_law_22 hl (by decide) rfl (fun ls hl => ?_)
  obtain ⟨u0, u1, u2, u3, u4, u5, u6, u7, u8, u9, u10, u11, u12, u13, u14, u15, u16, u17, u18, u19, u20, u21, u22, u23, hf⟩ := L_law CS0 (show 0 < 0 + 1 by omega) (ns := L) (by omega) xs 0 0 0 0 0 zf zf zf zf zf zf zf zf zf zf
  exact mL_law b g9 r2 r3 r4 q5 q16 q27 q38 q49 q60 q71 q5a0 q27a0 q38a0 q49a0 q49a1 q60a0 q60a1 q60a2 q60a3 q71a0 q71a1 64 64 64 L xs 0 0 0 zf 0 0 0 1 zf 0 0 zf zf zf 0 zf zf zf zf zf zf zf zf zf u0 u1 u2 u3 u4 u5 u6 u7 u8 u9 u10 u11 u12 u13 u14 u15 u16 u17 u18 u19 u20 u21 u22 u23 hx hb hr hlocks hown hts hX hbl hbA rfl hK hN ⟨hx, hb, hml, hown, hts⟩ hf hP hD hS (lv_sub hl [4, 3, 2, 1, 0] rfl)
