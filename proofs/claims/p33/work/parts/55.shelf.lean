/-! ===== copies of states ===== -/
abbrev St : Type := Nat × Nat × (Nat → Nat)
def VS (d : St) : Prop := Vd d.1 d.2.1 d.2.2
/-- a place of the shelf, a block of a row of the reference -/
def SlR (cells : Nat → Int32) (k : Nat) (d : St) : Prop := (∀ e, e < 32 → cells (34 * k + e) = nI (d.2.2 e)) ∧ cells (34 * k + 32) = nI d.1 ∧ cells (34 * k + 33) = nI d.2.1
def BlR (row : Nat → Int32) (k : Nat) (d : St) : Prop := row k = nI d.1 ∧ row (k + 1) = nI d.2.1 ∧ ∀ e, e < 32 → row (k + 2 + e) = nI (d.2.2 e)
theorem BlR.mr {now : Nat → Int32} {d : St} : BlR now 0 d ↔ Mr now d.1 d.2.1 d.2.2 := by
  unfold BlR Mr
  simp only [Nat.zero_add]
theorem BlR.congr {r1 r2 : Nat → Int32} {k m : Nat} {d : St} (h : BlR r1 k d) (e : ∀ j, j < 34 → r2 (m + j) = r1 (k + j)) : BlR r2 m d := by
  obtain ⟨h1, h2, h3⟩ := h
  refine ⟨(e 0 (by omega)).trans h1, (e 1 (by omega)).trans h2, fun x hx => ?_⟩
  have := e (2 + x) (by omega)
  rw [← Nat.add_assoc, ← Nat.add_assoc] at this
  rw [this]
  exact h3 x hx
theorem SlR.congr {r1 r2 : Nat → Int32} {k : Nat} {d : St} (h : SlR r1 k d) (e : ∀ j, j < 34 → r2 (34 * k + j) = r1 (34 * k + j)) : SlR r2 k d :=
  ⟨fun x hx => (e x (by omega)).trans (h.1 x hx), (e 32 (by omega)).trans h.2.1, (e 33 (by omega)).trans h.2.2⟩
theorem q_keep {cells filled a : Nat → Int32} {d : St} (hA : Rp a d.2.2) {k : Nat} (hk : k < 10) : ∃ cells', kX6_keep (nI k) cells filled (nI d.1) (nI d.2.1) a = some (cells', upd filled k 1) ∧ SlR cells' k d ∧ ∀ j, (j < 34 * k ∨ 34 * k + 34 ≤ j) → cells' j = cells j := by
  have ix : ∀ e, (nI k * 34 + nI e : Int32) = nI (34 * k + e) := fun e => by rw [fa_lit 34, pk_mul, nI_add, Nat.mul_comm]
  unfold kX6_keep
  rw [if_neg (nI_pos (by omega)), if_pos (by rw [fa_lit 10]; exact nI_lt hk (by omega))]
  refine it2_inv (F := kX6_keep_L1 (nI k) (nI d.1) (nI d.2.1) filled a) (x1 := 0) (x2 := cells) (n := 400) (fun i x y => x = nI i ∧ (∀ e, e < i → y (34 * k + e) = nI (d.2.2 e)) ∧ ∀ j, (j < 34 * k ∨ 34 * k + 34 ≤ j) → y j = cells j) (fun r => ∃ cells', r = some (cells', upd filled k 1) ∧ SlR cells' k d ∧ ∀ j, (j < 34 * k ∨ 34 * k + 34 ≤ j) → cells' j = cells j) 32 (fun K i x y hi hI => ?_) (fun K x y hI => ?_) ⟨rfl, fun e h => absurd h (Nat.not_lt_zero _), fun _ _ => rfl⟩ (by omega)
  · obtain ⟨rfl, h1, h2⟩ := hI
    refine ⟨nI (i + 1), upd y (34 * k + i) (nI (d.2.2 i)), ?_, rfl, fun e he => ?_, fun j hj => ?_⟩
    · unfold kX6_keep_L1
      rw [if_neg (by rw [fa_lit 32]; exact nI_ge (by omega) (by omega)), q_arcR hA (by omega), bnd1_e, ix, ck_nI (by omega) (by omega), nI_clamp (by omega), nI_1]
    · by_cases q : e = i
      · subst q; rw [pk_us]
      · rw [pk_un (by omega)]; exact h1 e (by omega)
    · rw [pk_un (by omega)]; exact h2 j hj
  · obtain ⟨rfl, h1, h2⟩ := hI
    have i32 : (nI k * 34 + 32 : Int32) = nI (34 * k + 32) := ix 32
    have i33 : (nI (34 * k + 32) + 1 : Int32) = nI (34 * k + 33) := nI_add _ 1
    refine ⟨upd (upd y (34 * k + 32) (nI d.1)) (34 * k + 33) (nI d.2.1), ?_, ⟨fun e he => ?_, ?_, ?_⟩, fun j hj => ?_⟩
    · unfold kX6_keep_L1
      rw [if_pos (by decide), i32, i33, ck_nI (by omega) (by omega), ck_nI (by omega) (by omega), ck_nI (by omega) (by omega), nI_clamp (by omega), nI_clamp (by omega), nI_clamp (by omega)]
      rfl
    · rw [pk_un (by omega), pk_un (by omega)]; exact h1 e he
    · rw [pk_un (by omega), pk_us]
    · rw [pk_us]
    · rw [pk_un (by omega), pk_un (by omega)]; exact h2 j hj
theorem q_holds {filled : Nat → Int32} {k : Nat} (hk : k < 10) : kX6_holds (nI k) filled = some (if filled k = 0 then 0 else 1) := by
  unfold kX6_holds kX6_holds_J1
  rw [if_neg (nI_pos (by omega)), if_neg (by rw [fa_lit 10]; exact nI_ge hk (by omega)), ck_nI hk (by omega), nI_clamp (by omega)]
  by_cases q : filled k = 0
  · rw [if_pos q, if_pos q]
  · rw [if_neg q, if_neg q]
theorem q_fetch {cells filled a : Nat → Int32} {d : St} {k : Nat} (hk : k < 10) (hf : filled k = 1) (hS : SlR cells k d) (hb : ∀ e, d.2.2 e ≤ 16) (h0 : ∀ e, 32 ≤ e → d.2.2 e = 0) (ic io : Int32) : ∃ a', kX6_fetch (nI k) cells filled ic io a = some (nI d.1, nI d.2.1, a') ∧ Rp a' d.2.2 := by
  have ix : ∀ e, (nI k * 34 + nI e : Int32) = nI (34 * k + e) := fun e => by rw [fa_lit 34, pk_mul, nI_add, Nat.mul_comm]
  unfold kX6_fetch
  rw [q_holds hk, bnd1_e, hf, if_neg (show ¬ (1 : Int32) = 0 by decide), if_neg (by decide)]
  refine it2_inv (F := kX6_fetch_L1 (nI k) cells) (x1 := 0) (x2 := a) (n := 400) (fun i x y => x = nI i ∧ ∀ e, e < i → y e = nI (d.2.2 e)) (fun r => ∃ a', r = some (nI d.1, nI d.2.1, a') ∧ Rp a' d.2.2) 32 (fun K i x y hi hI => ?_) (fun K x y hI => ?_) ⟨rfl, fun e h => absurd h (Nat.not_lt_zero _)⟩ (by omega)
  · obtain ⟨rfl, h1⟩ := hI
    refine ⟨nI (i + 1), upd y i (nI (d.2.2 i)), ?_, rfl, fun e he => ?_⟩
    · unfold kX6_fetch_L1
      rw [if_neg (by rw [fa_lit 32]; exact nI_ge (by omega) (by omega)), ix, ck_nI (by omega) (by omega), nI_clamp (by omega), hS.1 i hi, q_setArc _ hi, bnd1_e, nI_1]
    · by_cases q : e = i
      · subst q; rw [pk_us]
      · rw [pk_un q]; exact h1 e (by omega)
  · obtain ⟨rfl, h1⟩ := hI
    have i32 : (nI k * 34 + 32 : Int32) = nI (34 * k + 32) := ix 32
    have i33 : (nI (34 * k + 32) + 1 : Int32) = nI (34 * k + 33) := nI_add _ 1
    refine ⟨y, ?_, h1, hb, h0⟩
    unfold kX6_fetch_L1
    rw [if_pos (by decide), i32, i33, ck_nI (by omega) (by omega), ck_nI (by omega) (by omega), nI_clamp (by omega), nI_clamp (by omega), hS.2.1, hS.2.2]
/-! what is saved -/
def SvR (s np : Nat) (H : Nat → St) (cells filled hist : Nat → Int32) : Prop := s ≤ 8 ∧ np < 8 ∧ ∀ j, j < s → VS (H j) ∧ SlR cells ((np + 8 - (s - 1 - j)) % 8) (H j) ∧ filled ((np + 8 - (s - 1 - j)) % 8) = 1 ∧ BlR hist (34 * j) (H j)
def SnR (cells filled kept isk : Nat → Int32) : Prop := ∀ k, k < 2 → (filled (8 + k) = 0 ∧ isk k = 0) ∨ (filled (8 + k) = 1 ∧ isk k = 1 ∧ ∃ d, VS d ∧ SlR cells (8 + k) d ∧ BlR kept (34 * k) d)
theorem q_becomeDraft {cells filled a da pa : Nat → Int32} {d d' : St} {s np : Nat} (hs : s ≤ 8) (hnp : np < 8) (hA : Rp da d.2.2) (hA' : Rp pa d'.2.2) (pr : Int32) : ∃ cells' da', kX9_becomeDraft (nI s) (nI np) (nI d.1) (nI d.2.1) da (nI d'.1) (nI d'.2.1) pa cells filled pr = some (nI (min (s + 1) 8), nI ((np + 1) % 8), nI d'.1, nI d'.2.1, da', cells', upd filled ((np + 1) % 8) 1, 0) ∧ Rp da' d'.2.2 ∧ SlR cells' ((np + 1) % 8) d ∧ ∀ j, (j < 34 * ((np + 1) % 8) ∨ 34 * ((np + 1) % 8) + 34 ≤ j) → cells' j = cells j := by
  have e1 : (irem (nI np + 1) 8 : Int32) = nI ((np + 1) % 8) := by rw [nI_1, fa_lit 8, irem_nI (by omega) (by omega) (by omega)]
  have e2 : (imin (nI s + 1) 8 : Int32) = nI (min (s + 1) 8) := by rw [nI_1, fa_lit 8, imin_nI (by omega) (by omega)]
  obtain ⟨cells', g1, g2, g3⟩ := q_keep (cells := cells) (filled := filled) hA (show (np + 1) % 8 < 10 by omega)
  refine ⟨cells', fa_fill pa da 32, ?_, hA'.copy, g2, g3⟩
  unfold kX9_becomeDraft kX0_forget
  rw [e1, e2, g1, bnd2_e, q_copyFrom, bnd3_e, bnd1_e]
/-- the new state of what is saved, for both -/
theorem SvR.save {s np : Nat} {H : Nat → St} {cells filled hist cells' hist' now : Nat → Int32} {d : St} (h : SvR s np H cells filled hist) (hd : VS d) (hn : BlR now 0 d)
    (h1 : SlR cells' ((np + 1) % 8) d) (h2 : ∀ j, (j < 34 * ((np + 1) % 8) ∨ 34 * ((np + 1) % 8) + 34 ≤ j) → cells' j = cells j) (h3 : ∀ j, j < 34 → hist' (34 * (min (s + 1) 8 - 1) + j) = now j) (h4 : ∀ i, i < min (s + 1) 8 - 1 → ∀ j, j < 34 → hist' (34 * i + j) = hist (34 * (if s = 8 then i + 1 else i) + j)) :
    SvR (min (s + 1) 8) ((np + 1) % 8) (fun j => if j = min (s + 1) 8 - 1 then d else H (if s = 8 then j + 1 else j)) cells' (upd filled ((np + 1) % 8) 1) hist' := by
  obtain ⟨a1, a2, a3⟩ := h
  refine ⟨by omega, by omega, fun j hj => ?_⟩
  by_cases q : j = min (s + 1) 8 - 1
  · simp only [if_pos q]
    have e : ((np + 1) % 8 + 8 - (min (s + 1) 8 - 1 - j)) % 8 = (np + 1) % 8 := by omega
    rw [e]
    refine ⟨hd, h1, by rw [pk_us], hn.congr (fun i hi => by rw [q, Nat.zero_add]; exact h3 i hi)⟩
  · simp only [if_neg q]
    have hlt : (if s = 8 then j + 1 else j) < s := by
      by_cases z : s = 8
      · rw [if_pos z]; omega
      · rw [if_neg z]; omega
    obtain ⟨b1, b2, b3, b4⟩ := a3 _ hlt
    have e : ((np + 1) % 8 + 8 - (min (s + 1) 8 - 1 - j)) % 8 = (np + 8 - (s - 1 - (if s = 8 then j + 1 else j))) % 8 := by
      by_cases z : s = 8
      · rw [if_pos z]; omega
      · rw [if_neg z]; omega
    have ne : (np + 8 - (s - 1 - (if s = 8 then j + 1 else j))) % 8 ≠ (np + 1) % 8 := by
      by_cases z : s = 8
      · rw [if_pos z]; omega
      · rw [if_neg z]; omega
    rw [e]
    refine ⟨b1, b2.congr (fun i hi => h2 _ (by omega)), by rw [pk_un ne]; exact b3, b4.congr (fun i hi => h4 j (by omega) i hi)⟩
theorem SnR.save {np : Nat} {cells filled kept isk cells' : Nat → Int32} (h : SnR cells filled kept isk) (h2 : ∀ j, (j < 34 * ((np + 1) % 8) ∨ 34 * ((np + 1) % 8) + 34 ≤ j) → cells' j = cells j) : SnR cells' (upd filled ((np + 1) % 8) 1) kept isk := fun k hk => by
  rw [pk_un (by omega)]
  rcases h k hk with q | ⟨q1, q2, d, q3, q4, q5⟩
  · exact Or.inl q
  · exact Or.inr ⟨q1, q2, d, q3, q4.congr (fun i hi => h2 _ (by omega)), q5⟩
