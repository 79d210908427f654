/-! ===== what a removal keeps ===== -/
def RemZ (d D : St) (t0 : Int32) (s : Int) : Prop := VS d ∧ VS D ∧ cmD d = cmD D ∧ (∀ p, isP p → cdD d p = cdD D p) ∧ 0 < D.1 + D.2.1 ∧ ((t0 = 1 ∧ (s = 1 ∨ s = -1) ∧ (∀ e, bzD d e = -1 * bzD D (e - 3 * s)) ∧ (cmD d = 1 → wD D = wD d - s) ∧ D.1 + 1 = d.1) ∨ (t0 = 0 ∧ s = 0 ∧ (∀ e, bzD d e = bzD D e) ∧ (cmD d = 1 → wD D = wD d) ∧ D.1 + 2 = d.1))
theorem rem_kink {d : St} (hV : VS d) {v k : Nat} (hv : v < d.1) (hk : k < 4) (hE : kE d.2.2 v k) (ho : (kkD d v k).2.1 ≤ 4) : ∃ s, RemZ d (kkD d v k) 1 s := by
  obtain ⟨s, s1, s2, s3, s4, s5, s6⟩ := kk_facts hV hv hk hE ho
  exact ⟨s, hV, kk_VS hV hv hk hE ho, s3, s4, s6, Or.inl ⟨rfl, s1, s2, s5, by show d.1 - 1 + 1 = d.1; omega⟩⟩
theorem rem_bigon {d : St} (hV : VS d) {v w k : Nat} (hv : v < d.1) (hw : w < d.1) (hvw : v ≠ w) (hk : k < 16) (hE : bE d.2.2 v w k) (ho : (bgD d v w k).2.1 ≤ 4) : RemZ d (bgD d v w k) 0 0 := by
  obtain ⟨s2, s3, s4, s5, s6⟩ := bg_facts hV hv hw hvw hk hE ho
  exact ⟨hV, bg_VS hV hv hw hvw hk hE ho, s3, s4, s6, Or.inr ⟨rfl, rfl, s2, s5, by show d.1 - 1 - 1 + 2 = d.1; omega⟩⟩
theorem RemZ.bz {d D : St} {t0 : Int32} {s : Int} (h : RemZ d D t0 s) : ∃ g : Int, (g = 1 ∨ g = -1) ∧ ∀ e, bzD d e = g * bzD D (e - 3 * s) := by
  obtain ⟨_, _, _, _, _, h | h⟩ := h
  · exact ⟨-1, Or.inr rfl, h.2.2.1⟩
  · refine ⟨1, Or.inl rfl, fun e => ?_⟩
    rw [h.2.2.1 e, h.2.1, Int.mul_zero, Int.sub_zero, Int.one_mul]
theorem RemZ.dt {d D : St} {t0 : Int32} {s : Int} (h : RemZ d D t0 s) : dtD D = dtD d := by
  obtain ⟨g, g1, g2⟩ := h.bz
  exact (dt_eq h.1 h.2.1 (fun z hz => hz.shift g1 g2)).symm
theorem RemZ.none {d D : St} {t0 : Int32} {s : Int} (h : RemZ d D t0 s) (hn : loD d = -1000009) : ∀ e, bzD d e = 0 := by
  rcases lo_cases h.1 with ⟨e0, l1, l2, l3, l4, j, j1, j2, j3, j4, j5⟩ | ⟨z1, z2, z3⟩
  · exact absurd (j3.symm.trans hn) (nI60ne j j1)
  · exact z1
theorem RemZ.lo {d D : St} {t0 : Int32} {s : Int} (h : RemZ d D t0 s) (hn : loD d ≠ -1000009) : loD d - loD D = Int32.ofInt (3 * s) := by
  obtain ⟨g, g1, g2⟩ := h.bz
  have g0 : g ≠ 0 := by omega
  rcases lo_cases h.1 with ⟨e0, l1, l2, l3, l4, _⟩ | ⟨z1, z2, z3⟩
  · have L : LoZ (bzD D) (e0 - 3 * s) := by
      refine ⟨fun z => l1.1 ?_, fun e he => ?_⟩
      · rw [g2, z, Int.mul_zero]
      · have := l1.2 (e + 3 * s) (by omega)
        rw [g2, Int.add_sub_cancel] at this
        rcases Int.mul_eq_zero.mp this with q | q
        · exact absurd q g0
        · exact q
    rcases lo_cases h.2.1 with ⟨y0, m1, m2, m3, m4, _⟩ | ⟨y1, _, _⟩
    · rw [l4, m4, m1.only L, ← Int32.ofInt_sub]
      congr 1
      omega
    · exact absurd (y1 _) L.1
  · exact absurd z2 hn
theorem sgnZ_s {w s : Int} (hs : s = 1 ∨ s = -1) : sgnZ (w - s) = -1 * sgnZ w := by
  unfold sgnZ
  by_cases q : w % 2 = 0
  · rw [if_pos q, if_neg (by omega)]; rfl
  · rw [if_neg q, if_pos (by omega)]; rfl
theorem odZ_t (d : St) : odZ d true = ((d.1 : Int) + wD d) % 2 := by
  unfold odZ
  rw [if_pos rfl]
theorem odD_t (d : St) : (odD d true : Int) = ((d.1 : Int) + wD d) % 2 := (odD_eq d true).1.trans (odZ_t d)
theorem RemZ.one {d D : St} {t0 : Int32} {s : Int} (h : RemZ d D t0 s) (h1 : cmD d = 1) (k : Nat) : rwD d true k = rwD D true k := by
  have o1 := odD_t d
  have o2 := odD_t D
  obtain ⟨_, _, _, _, _, ⟨_, s1, s2, s3, s4⟩ | ⟨_, s1, s2, s3, s4⟩⟩ := h
  · have w := s3 h1
    rw [w] at o2
    have oo : odD D true = odD d true := by omega
    unfold rwD nmD
    rw [if_pos rfl, if_pos rfl, w, oo, sgnZ_s s1, s2, show ((2 * k + odD d true : Nat) : Int) - 60 + 3 * (wD d - s) = ((2 * k + odD d true : Nat) : Int) - 60 + 3 * wD d - 3 * s by omega, Int.mul_left_comm, Int.mul_assoc]
  · have w := s3 h1
    rw [w] at o2
    have oo : odD D true = odD d true := by omega
    unfold rwD nmD
    rw [if_pos rfl, if_pos rfl, w, oo, s2]
theorem RemZ.two {d D : St} {s : Int} (h : RemZ d D 0 s) {k : Nat} (hk : k < 48) : rwD d false k = rwD D false k := by
  obtain ⟨hV, hV', _, _, _, ⟨s0, _⟩ | ⟨_, s1, s2, s3, s4⟩⟩ := h
  · exact absurd s0 (by decide)
  · rw [rwD_f, rwD_f, show D.1 % 2 = d.1 % 2 by omega, brD_bz hV (by omega), brD_bz hV' (by omega), s2]
theorem RemZ.zero {d D : St} {t0 : Int32} {s : Int} (h : RemZ d D t0 s) (hn : loD d = -1000009) {k : Nat} (hk : k < 48) : rwD d false k = 0 := by
  have hV := h.1
  rw [rwD_f, brD_bz hV (by omega), h.none hn]
  rfl
def shK (c k : Nat) (s : Int) : Nat := (((k : Int) + (((c % 2 : Nat) : Int) - 3 * s - (((c + 1) % 2 : Nat) : Int)) / 2)).toNat
theorem RemZ.kk {d D : St} {s : Int} (h : RemZ d D 1 s) {k : Nat} (h15 : 15 ≤ k) (hk : k < 45) : rwD d false k = -rwD D false (shK d.1 k s) ∧ 12 ≤ shK d.1 k s ∧ shK d.1 k s < 48 := by
  obtain ⟨hV, hV', _, _, _, ⟨_, s1, s2, s3, s4⟩ | ⟨s0, _⟩⟩ := h
  · have b : 12 ≤ shK d.1 k s ∧ shK d.1 k s < 48 ∧ (2 * (shK d.1 k s) + D.1 % 2 : Int) = 2 * k + (d.1 % 2 : Nat) - 3 * s := by
      unfold shK
      rcases s1 with rfl | rfl <;> rcases (show d.1 % 2 = 0 ∨ d.1 % 2 = 1 by omega) with q | q <;> omega
    refine ⟨?_, b.1, b.2.1⟩
    rw [rwD_f, rwD_f, brD_bz hV (by omega), brD_bz hV' (by omega), s2, ← Int32.ofInt_neg, Int.neg_one_mul]
    congr 3
    omega
  · exact absurd s0 (by decide)
theorem shK_t : ∀ c, c < 2 → ∀ k, k < 48 → 15 ≤ k → (nI k + ((nI c - 3 - nI ((c + 1) % 2)) / 2) : Int32) = nI (shK c k 1) ∧ (nI k + ((nI c - (-3) - nI ((c + 1) % 2)) / 2) : Int32) = nI (shK c k (-1)) := by decide +kernel
theorem shK_2 (c k : Nat) (s : Int) : shK c k s = shK (c % 2) k s := by
  unfold shK
  rw [Nat.mod_mod, show (c % 2 + 1) % 2 = (c + 1) % 2 by omega]
