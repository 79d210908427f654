/-! ===== refused: what must be refused is refused, and changes nothing ===== -/
theorem or_big (x : Int32) {m : Nat} (hm : m < 2 ^ 31) : (x ||| nI m) < 0 ∨ nI m ≤ x ||| nI m := by
  obtain ⟨n, hn, rfl⟩ := all_nI x
  rw [fa_or]
  rcases ix (nI (n ||| m)) hm with h | h | ⟨j, hj, e⟩
  · exact Or.inl h
  · exact Or.inr h
  · exfalso
    have l : n ||| m < 2 ^ 32 := Nat.or_lt_two_pow hn (by omega)
    have g : m ≤ n ||| m := Nat.right_le_or
    have e1 : (nI (n ||| m)).toBitVec.toNat = (nI j).toBitVec.toNat := by rw [e]
    have e2 : ∀ k, k < 2 ^ 32 → (nI k).toBitVec.toNat = k := fun k hk => by
      show (BitVec.ofNat 32 k).toNat = k
      rw [BitVec.toNat_ofNat]; exact Nat.mod_eq_of_lt hk
    rw [e2 _ l, e2 _ (by omega)] at e1
    omega
theorem o_appendNo {v tl : Int32} {tc : Nat → Int32} (hv : v < 0 ∨ nI 256 ≤ v) : kX9_append v tl tc = some (-1000001, tl, tc) := by
  unfold kX9_append
  by_cases q : v < 0
  · rw [if_pos q]
  · have h := hv.resolve_left q
    have n : ¬ v ≤ 255 := fun z => absurd (Int32.le_trans h z) (by decide)
    rw [if_neg q, if_neg n]
theorem o_signNo {c : Nat} {da : Nat → Int32} {v : Int32} (hv : v < 0 ∨ nI c ≤ v) : kX9_crossingSign v (nI c) da = some (-1000001) := by
  unfold kX9_crossingSign
  rw [o_hasNo hv, bnd1_e, if_pos rfl]
theorem o_colourNo {dc dr v : Int32} {da cl ce : Nat → Int32} (hv : v < 0 ∨ nI 16 ≤ v) : kX9_colouringDimension v dc dr da cl ce = some (-1000001, cl, ce) := by
  have n : ∀ k : Nat, k < 16 → v ≠ nI k := fun k hk e => by
    rcases hv with z | z
    · rw [e] at z; exact nI_pos (by omega) z
    · rw [e] at z; exact nI_ge hk (by omega) z
  unfold kX9_colouringDimension
  rw [if_neg (show ¬ v = 3 from n 3 (by omega)), if_neg (show ¬ v = 5 from n 5 (by omega)), if_neg (show ¬ v = 7 from n 7 (by omega)), if_neg (show ¬ v = 11 from n 11 (by omega))]
theorem ex_hi : ∀ k : Nat, k < 64 → (60 : Int32) < 61 + nI k := by decide +kernel
theorem ex_lo : ∀ k : Nat, k < 64 → ((-61 : Int32) - nI k) < -60 := by decide +kernel
theorem L_refused {ss np dc dr : Int32} {da cells filled : Nat → Int32} {pr : Int32} {coef : Nat → Int32} {d : St} {hs : List St} {kd : Nat → Option St} (h : CS ss np dc dr da cells filled pr coef d hs kd) (v1 tl pc po : Int32) (tc pa oe T prod cl ce : Nat → Int32) : kL_refused v1 ss np tl tc dc dr da pc po pa cells filled pr oe T coef prod cl ce = some (1, ss, np, tl, tc, dc, dr, da, pc, po, pa, cells, filled, pr, oe, T, coef, prod, cl, ce) := by
  obtain ⟨hV, rfl, rfl, hA, _⟩ := h
  have hc := hV.1
  have h2 := two_le hc
  have b256 : (v1 ||| 256 : Int32) < 0 ∨ nI 256 ≤ (v1 ||| 256 : Int32) := or_big v1 (m := 256) (by decide)
  have b2 : (v1 ||| 2 : Int32) < 0 ∨ nI 2 ≤ (v1 ||| 2 : Int32) := or_big v1 (m := 2) (by decide)
  have b4 : (v1 ||| 4 : Int32) < 0 ∨ nI 4 ≤ (v1 ||| 4 : Int32) := or_big v1 (m := 4) (by decide)
  have b8 : (v1 ||| 8 : Int32) < 0 ∨ nI 8 ≤ (v1 ||| 8 : Int32) := or_big v1 (m := 8) (by decide)
  have b16 : (v1 ||| 16 : Int32) < 0 ∨ nI 16 ≤ (v1 ||| 16 : Int32) := or_big v1 (m := 16) (by decide)
  have c8 : (v1 ||| 8 : Int32) < 0 ∨ nI d.1 ≤ (v1 ||| 8 : Int32) := b8.imp id (fun z => Int32.le_trans (nI_le hc (by omega)) z)
  have c4 : (v1 ||| 4 : Int32) < 0 ∨ (3 : Int32) < (v1 ||| 4 : Int32) := b4.imp id (fun z => Int32.lt_of_lt_of_le (by decide) z)
  have c256 : (v1 ||| 256 : Int32) < 0 ∨ nI (2 ^ d.1) ≤ (v1 ||| 256 : Int32) := b256.imp id (fun z => Int32.le_trans (nI_le h2 (by omega)) z)
  have self : ∀ x : Int32, x < 0 ∨ x ≤ x := fun x => Or.inr (Int32.le_refl _)
  obtain ⟨n, hn, hx⟩ := all_nI v1
  have m63 : (v1 &&& 63 : Int32) = nI (n % 64) := by rw [hx]; exact fa_mask n 6
  have k64 : n % 64 < 64 := Nat.mod_lt _ (by decide)
  unfold kL_refused kX9_crossingCount
  rw [L_hash hV hA, bnd1_e, bnd1_e, o_appendNo b256, bnd3_e, if_pos rfl, o_arcNo (Or.inl (self _)) hc, bnd1_e, if_pos rfl, o_arcNo (Or.inr c4) hc, bnd1_e, if_pos rfl, o_switchNo rfl c8, bnd12_e, if_pos rfl, o_kinkNo rfl (self _), bnd12_e, if_pos rfl, o_bigonNo rfl hc (Or.inl (self _)), bnd12_e, if_pos rfl, o_bigonNo rfl hc (Or.inr (Or.inl c8)), bnd12_e, if_pos rfl]
  rw [o_isKinkNo (Or.inl (by decide)), bnd1_e, if_pos rfl, o_bigonPartnerNo (self _), bnd1_e, if_pos rfl, o_signNo c8, bnd1_e, if_pos rfl, shlOne _ hc, o_stateNo hc rfl (self _), bnd2_e, if_pos rfl, o_stateNo hc rfl c256, bnd2_e, if_pos rfl, m63, o_coefNo (Or.inr (ex_hi _ k64)), bnd6_e, if_pos rfl, o_coefNo (Or.inl (ex_lo _ k64)), bnd6_e, if_pos rfl, o_normNo (Or.inl (by decide)), bnd6_e, if_pos rfl, o_colourNo b16, bnd3_e, if_pos rfl, o_saveNo b2, bnd3_e, if_pos rfl, o_restoreNo b2, bnd6_e, if_pos rfl]
  unfold kL_refused_J1
  rw [if_neg n10, L_hash hV hA, bnd1_e, lg_self, if_pos rfl]
