/-! Programs with an end that is 'some': what the walks below are held to -/
theorem kt_p {α : Type} {c : Prop} {_ : Decidable c} {a b r : Option α} (h : (if c then a else b) = r) (hc : c) : a = r := by rw [if_pos hc] at h; exact h
theorem kt_n {α : Type} {c : Prop} {_ : Decidable c} {a b r : Option α} (h : (if c then a else b) = r) (hc : ¬ c) : b = r := by rw [if_neg hc] at h; exact h
/-- an index within a row of n places -/
def ck {α : Type} (i : Int32) (n : Nat) (k : Option α) : Option α := if i < 0 ∨ n ≤ i.toNatClampNeg then none else k
theorem ck_s {α : Type} {i : Int32} {n : Nat} {k : Option α} {r : α} (h : ck i n k = some r) : vp_in i n ∧ k = some r := by
  unfold ck at h
  by_cases hc : i < 0 ∨ n ≤ i.toNatClampNeg
  · rw [if_pos hc] at h; cases h
  · rw [if_neg hc] at h; exact ⟨hc, h⟩
/-- a divisor other than 0 -/
def cz {α : Type} (y : Int32) (k : Option α) : Option α := if y = 0 then none else k
theorem cz_s {α : Type} {y : Int32} {k : Option α} {r : α} (h : cz y k = some r) : ¬ y = 0 ∧ k = some r := by
  unfold cz at h
  by_cases hc : y = 0
  · rw [if_pos hc] at h; cases h
  · rw [if_neg hc] at h; exact ⟨hc, h⟩
/-- an answer that is 0 or 1 -/
def zr {α : Type} (v : Int32) (k : Option α) : Option α := if (v &&& 1) = v then k else none
theorem zr_s {α : Type} {v : Int32} {k : Option α} {r : α} (h : zr v k = some r) : narrow .boolean (.int v) = .int v ∧ k = some r := by
  unfold zr at h
  by_cases hc : (v &&& 1) = v
  · rw [if_pos hc] at h; exact ⟨by show Value.int (v &&& 1) = .int v; rw [hc], h⟩
  · rw [if_neg hc] at h; cases h
def bnd0 {δ : Type} (o : Option Unit) (f : Option δ) : Option δ := match o with
  | none => none
  | some _ => f
theorem bnd0_s {δ : Type} {o : Option Unit} {f : Option δ} {r : δ} (h : bnd0 o f = some r) : o = some () ∧ f = some r := by
  cases o with
  | none => cases h
  | some a => exact ⟨rfl, h⟩
def bnd1 {A1 δ : Type} (o : Option (A1)) (f : A1 → Option δ) : Option δ := match o with
  | none => none
  | some a => f a
theorem bnd1_s {A1 δ : Type} {o : Option (A1)} {f : A1 → Option δ} {r : δ} (h : bnd1 o f = some r) : ∃ (a1 : A1), o = some (a1) ∧ f a1 = some r := by
  cases o with
  | none => cases h
  | some a => exact ⟨a, rfl, h⟩
def it1 {A1 δ : Type} (F : (A1 → Option δ) → A1 → Option δ) : Nat → A1 → Option δ
  | 0 => fun _ => none
  | k + 1 => F (it1 F k)
theorem it1_z {A1 δ : Type} {F : (A1 → Option δ) → A1 → Option δ} {a1 } {r : δ} (h : it1 F 0 a1 = some r) : False := by cases h
theorem it1_s {A1 δ : Type} {F : (A1 → Option δ) → A1 → Option δ} {k : Nat} {a1 } {r : δ} (h : it1 F (k + 1) a1 = some r) : F (it1 F k) a1 = some r := h
def bnd2 {A1 A2 δ : Type} (o : Option (A1 × A2)) (f : A1 → A2 → Option δ) : Option δ := match o with
  | none => none
  | some a => f a.1 a.2
theorem bnd2_s {A1 A2 δ : Type} {o : Option (A1 × A2)} {f : A1 → A2 → Option δ} {r : δ} (h : bnd2 o f = some r) : ∃ (a1 : A1) (a2 : A2), o = some (a1, a2) ∧ f a1 a2 = some r := by
  cases o with
  | none => cases h
  | some a => exact ⟨a.1, a.2, rfl, h⟩
def it2 {A1 A2 δ : Type} (F : (A1 → A2 → Option δ) → A1 → A2 → Option δ) : Nat → A1 → A2 → Option δ
  | 0 => fun _ _ => none
  | k + 1 => F (it2 F k)
theorem it2_z {A1 A2 δ : Type} {F : (A1 → A2 → Option δ) → A1 → A2 → Option δ} {a1 a2 } {r : δ} (h : it2 F 0 a1 a2 = some r) : False := by cases h
theorem it2_s {A1 A2 δ : Type} {F : (A1 → A2 → Option δ) → A1 → A2 → Option δ} {k : Nat} {a1 a2 } {r : δ} (h : it2 F (k + 1) a1 a2 = some r) : F (it2 F k) a1 a2 = some r := h
def bnd3 {A1 A2 A3 δ : Type} (o : Option (A1 × A2 × A3)) (f : A1 → A2 → A3 → Option δ) : Option δ := match o with
  | none => none
  | some a => f a.1 a.2.1 a.2.2
theorem bnd3_s {A1 A2 A3 δ : Type} {o : Option (A1 × A2 × A3)} {f : A1 → A2 → A3 → Option δ} {r : δ} (h : bnd3 o f = some r) : ∃ (a1 : A1) (a2 : A2) (a3 : A3), o = some (a1, a2, a3) ∧ f a1 a2 a3 = some r := by
  cases o with
  | none => cases h
  | some a => exact ⟨a.1, a.2.1, a.2.2, rfl, h⟩
def it3 {A1 A2 A3 δ : Type} (F : (A1 → A2 → A3 → Option δ) → A1 → A2 → A3 → Option δ) : Nat → A1 → A2 → A3 → Option δ
  | 0 => fun _ _ _ => none
  | k + 1 => F (it3 F k)
theorem it3_z {A1 A2 A3 δ : Type} {F : (A1 → A2 → A3 → Option δ) → A1 → A2 → A3 → Option δ} {a1 a2 a3 } {r : δ} (h : it3 F 0 a1 a2 a3 = some r) : False := by cases h
theorem it3_s {A1 A2 A3 δ : Type} {F : (A1 → A2 → A3 → Option δ) → A1 → A2 → A3 → Option δ} {k : Nat} {a1 a2 a3 } {r : δ} (h : it3 F (k + 1) a1 a2 a3 = some r) : F (it3 F k) a1 a2 a3 = some r := h
def bnd4 {A1 A2 A3 A4 δ : Type} (o : Option (A1 × A2 × A3 × A4)) (f : A1 → A2 → A3 → A4 → Option δ) : Option δ := match o with
  | none => none
  | some a => f a.1 a.2.1 a.2.2.1 a.2.2.2
theorem bnd4_s {A1 A2 A3 A4 δ : Type} {o : Option (A1 × A2 × A3 × A4)} {f : A1 → A2 → A3 → A4 → Option δ} {r : δ} (h : bnd4 o f = some r) : ∃ (a1 : A1) (a2 : A2) (a3 : A3) (a4 : A4), o = some (a1, a2, a3, a4) ∧ f a1 a2 a3 a4 = some r := by
  cases o with
  | none => cases h
  | some a => exact ⟨a.1, a.2.1, a.2.2.1, a.2.2.2, rfl, h⟩
def it4 {A1 A2 A3 A4 δ : Type} (F : (A1 → A2 → A3 → A4 → Option δ) → A1 → A2 → A3 → A4 → Option δ) : Nat → A1 → A2 → A3 → A4 → Option δ
  | 0 => fun _ _ _ _ => none
  | k + 1 => F (it4 F k)
theorem it4_z {A1 A2 A3 A4 δ : Type} {F : (A1 → A2 → A3 → A4 → Option δ) → A1 → A2 → A3 → A4 → Option δ} {a1 a2 a3 a4 } {r : δ} (h : it4 F 0 a1 a2 a3 a4 = some r) : False := by cases h
theorem it4_s {A1 A2 A3 A4 δ : Type} {F : (A1 → A2 → A3 → A4 → Option δ) → A1 → A2 → A3 → A4 → Option δ} {k : Nat} {a1 a2 a3 a4 } {r : δ} (h : it4 F (k + 1) a1 a2 a3 a4 = some r) : F (it4 F k) a1 a2 a3 a4 = some r := h
def bnd5 {A1 A2 A3 A4 A5 δ : Type} (o : Option (A1 × A2 × A3 × A4 × A5)) (f : A1 → A2 → A3 → A4 → A5 → Option δ) : Option δ := match o with
  | none => none
  | some a => f a.1 a.2.1 a.2.2.1 a.2.2.2.1 a.2.2.2.2
theorem bnd5_s {A1 A2 A3 A4 A5 δ : Type} {o : Option (A1 × A2 × A3 × A4 × A5)} {f : A1 → A2 → A3 → A4 → A5 → Option δ} {r : δ} (h : bnd5 o f = some r) : ∃ (a1 : A1) (a2 : A2) (a3 : A3) (a4 : A4) (a5 : A5), o = some (a1, a2, a3, a4, a5) ∧ f a1 a2 a3 a4 a5 = some r := by
  cases o with
  | none => cases h
  | some a => exact ⟨a.1, a.2.1, a.2.2.1, a.2.2.2.1, a.2.2.2.2, rfl, h⟩
def it5 {A1 A2 A3 A4 A5 δ : Type} (F : (A1 → A2 → A3 → A4 → A5 → Option δ) → A1 → A2 → A3 → A4 → A5 → Option δ) : Nat → A1 → A2 → A3 → A4 → A5 → Option δ
  | 0 => fun _ _ _ _ _ => none
  | k + 1 => F (it5 F k)
theorem it5_z {A1 A2 A3 A4 A5 δ : Type} {F : (A1 → A2 → A3 → A4 → A5 → Option δ) → A1 → A2 → A3 → A4 → A5 → Option δ} {a1 a2 a3 a4 a5 } {r : δ} (h : it5 F 0 a1 a2 a3 a4 a5 = some r) : False := by cases h
theorem it5_s {A1 A2 A3 A4 A5 δ : Type} {F : (A1 → A2 → A3 → A4 → A5 → Option δ) → A1 → A2 → A3 → A4 → A5 → Option δ} {k : Nat} {a1 a2 a3 a4 a5 } {r : δ} (h : it5 F (k + 1) a1 a2 a3 a4 a5 = some r) : F (it5 F k) a1 a2 a3 a4 a5 = some r := h
def bnd6 {A1 A2 A3 A4 A5 A6 δ : Type} (o : Option (A1 × A2 × A3 × A4 × A5 × A6)) (f : A1 → A2 → A3 → A4 → A5 → A6 → Option δ) : Option δ := match o with
  | none => none
  | some a => f a.1 a.2.1 a.2.2.1 a.2.2.2.1 a.2.2.2.2.1 a.2.2.2.2.2
theorem bnd6_s {A1 A2 A3 A4 A5 A6 δ : Type} {o : Option (A1 × A2 × A3 × A4 × A5 × A6)} {f : A1 → A2 → A3 → A4 → A5 → A6 → Option δ} {r : δ} (h : bnd6 o f = some r) : ∃ (a1 : A1) (a2 : A2) (a3 : A3) (a4 : A4) (a5 : A5) (a6 : A6), o = some (a1, a2, a3, a4, a5, a6) ∧ f a1 a2 a3 a4 a5 a6 = some r := by
  cases o with
  | none => cases h
  | some a => exact ⟨a.1, a.2.1, a.2.2.1, a.2.2.2.1, a.2.2.2.2.1, a.2.2.2.2.2, rfl, h⟩
def it6 {A1 A2 A3 A4 A5 A6 δ : Type} (F : (A1 → A2 → A3 → A4 → A5 → A6 → Option δ) → A1 → A2 → A3 → A4 → A5 → A6 → Option δ) : Nat → A1 → A2 → A3 → A4 → A5 → A6 → Option δ
  | 0 => fun _ _ _ _ _ _ => none
  | k + 1 => F (it6 F k)
theorem it6_z {A1 A2 A3 A4 A5 A6 δ : Type} {F : (A1 → A2 → A3 → A4 → A5 → A6 → Option δ) → A1 → A2 → A3 → A4 → A5 → A6 → Option δ} {a1 a2 a3 a4 a5 a6 } {r : δ} (h : it6 F 0 a1 a2 a3 a4 a5 a6 = some r) : False := by cases h
theorem it6_s {A1 A2 A3 A4 A5 A6 δ : Type} {F : (A1 → A2 → A3 → A4 → A5 → A6 → Option δ) → A1 → A2 → A3 → A4 → A5 → A6 → Option δ} {k : Nat} {a1 a2 a3 a4 a5 a6 } {r : δ} (h : it6 F (k + 1) a1 a2 a3 a4 a5 a6 = some r) : F (it6 F k) a1 a2 a3 a4 a5 a6 = some r := h
def bnd7 {A1 A2 A3 A4 A5 A6 A7 δ : Type} (o : Option (A1 × A2 × A3 × A4 × A5 × A6 × A7)) (f : A1 → A2 → A3 → A4 → A5 → A6 → A7 → Option δ) : Option δ := match o with
  | none => none
  | some a => f a.1 a.2.1 a.2.2.1 a.2.2.2.1 a.2.2.2.2.1 a.2.2.2.2.2.1 a.2.2.2.2.2.2
theorem bnd7_s {A1 A2 A3 A4 A5 A6 A7 δ : Type} {o : Option (A1 × A2 × A3 × A4 × A5 × A6 × A7)} {f : A1 → A2 → A3 → A4 → A5 → A6 → A7 → Option δ} {r : δ} (h : bnd7 o f = some r) : ∃ (a1 : A1) (a2 : A2) (a3 : A3) (a4 : A4) (a5 : A5) (a6 : A6) (a7 : A7), o = some (a1, a2, a3, a4, a5, a6, a7) ∧ f a1 a2 a3 a4 a5 a6 a7 = some r := by
  cases o with
  | none => cases h
  | some a => exact ⟨a.1, a.2.1, a.2.2.1, a.2.2.2.1, a.2.2.2.2.1, a.2.2.2.2.2.1, a.2.2.2.2.2.2, rfl, h⟩
def it7 {A1 A2 A3 A4 A5 A6 A7 δ : Type} (F : (A1 → A2 → A3 → A4 → A5 → A6 → A7 → Option δ) → A1 → A2 → A3 → A4 → A5 → A6 → A7 → Option δ) : Nat → A1 → A2 → A3 → A4 → A5 → A6 → A7 → Option δ
  | 0 => fun _ _ _ _ _ _ _ => none
  | k + 1 => F (it7 F k)
theorem it7_z {A1 A2 A3 A4 A5 A6 A7 δ : Type} {F : (A1 → A2 → A3 → A4 → A5 → A6 → A7 → Option δ) → A1 → A2 → A3 → A4 → A5 → A6 → A7 → Option δ} {a1 a2 a3 a4 a5 a6 a7 } {r : δ} (h : it7 F 0 a1 a2 a3 a4 a5 a6 a7 = some r) : False := by cases h
theorem it7_s {A1 A2 A3 A4 A5 A6 A7 δ : Type} {F : (A1 → A2 → A3 → A4 → A5 → A6 → A7 → Option δ) → A1 → A2 → A3 → A4 → A5 → A6 → A7 → Option δ} {k : Nat} {a1 a2 a3 a4 a5 a6 a7 } {r : δ} (h : it7 F (k + 1) a1 a2 a3 a4 a5 a6 a7 = some r) : F (it7 F k) a1 a2 a3 a4 a5 a6 a7 = some r := h
def bnd8 {A1 A2 A3 A4 A5 A6 A7 A8 δ : Type} (o : Option (A1 × A2 × A3 × A4 × A5 × A6 × A7 × A8)) (f : A1 → A2 → A3 → A4 → A5 → A6 → A7 → A8 → Option δ) : Option δ := match o with
  | none => none
  | some a => f a.1 a.2.1 a.2.2.1 a.2.2.2.1 a.2.2.2.2.1 a.2.2.2.2.2.1 a.2.2.2.2.2.2.1 a.2.2.2.2.2.2.2
theorem bnd8_s {A1 A2 A3 A4 A5 A6 A7 A8 δ : Type} {o : Option (A1 × A2 × A3 × A4 × A5 × A6 × A7 × A8)} {f : A1 → A2 → A3 → A4 → A5 → A6 → A7 → A8 → Option δ} {r : δ} (h : bnd8 o f = some r) : ∃ (a1 : A1) (a2 : A2) (a3 : A3) (a4 : A4) (a5 : A5) (a6 : A6) (a7 : A7) (a8 : A8), o = some (a1, a2, a3, a4, a5, a6, a7, a8) ∧ f a1 a2 a3 a4 a5 a6 a7 a8 = some r := by
  cases o with
  | none => cases h
  | some a => exact ⟨a.1, a.2.1, a.2.2.1, a.2.2.2.1, a.2.2.2.2.1, a.2.2.2.2.2.1, a.2.2.2.2.2.2.1, a.2.2.2.2.2.2.2, rfl, h⟩
def it8 {A1 A2 A3 A4 A5 A6 A7 A8 δ : Type} (F : (A1 → A2 → A3 → A4 → A5 → A6 → A7 → A8 → Option δ) → A1 → A2 → A3 → A4 → A5 → A6 → A7 → A8 → Option δ) : Nat → A1 → A2 → A3 → A4 → A5 → A6 → A7 → A8 → Option δ
  | 0 => fun _ _ _ _ _ _ _ _ => none
  | k + 1 => F (it8 F k)
theorem it8_z {A1 A2 A3 A4 A5 A6 A7 A8 δ : Type} {F : (A1 → A2 → A3 → A4 → A5 → A6 → A7 → A8 → Option δ) → A1 → A2 → A3 → A4 → A5 → A6 → A7 → A8 → Option δ} {a1 a2 a3 a4 a5 a6 a7 a8 } {r : δ} (h : it8 F 0 a1 a2 a3 a4 a5 a6 a7 a8 = some r) : False := by cases h
theorem it8_s {A1 A2 A3 A4 A5 A6 A7 A8 δ : Type} {F : (A1 → A2 → A3 → A4 → A5 → A6 → A7 → A8 → Option δ) → A1 → A2 → A3 → A4 → A5 → A6 → A7 → A8 → Option δ} {k : Nat} {a1 a2 a3 a4 a5 a6 a7 a8 } {r : δ} (h : it8 F (k + 1) a1 a2 a3 a4 a5 a6 a7 a8 = some r) : F (it8 F k) a1 a2 a3 a4 a5 a6 a7 a8 = some r := h
def bnd9 {A1 A2 A3 A4 A5 A6 A7 A8 A9 δ : Type} (o : Option (A1 × A2 × A3 × A4 × A5 × A6 × A7 × A8 × A9)) (f : A1 → A2 → A3 → A4 → A5 → A6 → A7 → A8 → A9 → Option δ) : Option δ := match o with
  | none => none
  | some a => f a.1 a.2.1 a.2.2.1 a.2.2.2.1 a.2.2.2.2.1 a.2.2.2.2.2.1 a.2.2.2.2.2.2.1 a.2.2.2.2.2.2.2.1 a.2.2.2.2.2.2.2.2
theorem bnd9_s {A1 A2 A3 A4 A5 A6 A7 A8 A9 δ : Type} {o : Option (A1 × A2 × A3 × A4 × A5 × A6 × A7 × A8 × A9)} {f : A1 → A2 → A3 → A4 → A5 → A6 → A7 → A8 → A9 → Option δ} {r : δ} (h : bnd9 o f = some r) : ∃ (a1 : A1) (a2 : A2) (a3 : A3) (a4 : A4) (a5 : A5) (a6 : A6) (a7 : A7) (a8 : A8) (a9 : A9), o = some (a1, a2, a3, a4, a5, a6, a7, a8, a9) ∧ f a1 a2 a3 a4 a5 a6 a7 a8 a9 = some r := by
  cases o with
  | none => cases h
  | some a => exact ⟨a.1, a.2.1, a.2.2.1, a.2.2.2.1, a.2.2.2.2.1, a.2.2.2.2.2.1, a.2.2.2.2.2.2.1, a.2.2.2.2.2.2.2.1, a.2.2.2.2.2.2.2.2, rfl, h⟩
def it9 {A1 A2 A3 A4 A5 A6 A7 A8 A9 δ : Type} (F : (A1 → A2 → A3 → A4 → A5 → A6 → A7 → A8 → A9 → Option δ) → A1 → A2 → A3 → A4 → A5 → A6 → A7 → A8 → A9 → Option δ) : Nat → A1 → A2 → A3 → A4 → A5 → A6 → A7 → A8 → A9 → Option δ
  | 0 => fun _ _ _ _ _ _ _ _ _ => none
  | k + 1 => F (it9 F k)
theorem it9_z {A1 A2 A3 A4 A5 A6 A7 A8 A9 δ : Type} {F : (A1 → A2 → A3 → A4 → A5 → A6 → A7 → A8 → A9 → Option δ) → A1 → A2 → A3 → A4 → A5 → A6 → A7 → A8 → A9 → Option δ} {a1 a2 a3 a4 a5 a6 a7 a8 a9 } {r : δ} (h : it9 F 0 a1 a2 a3 a4 a5 a6 a7 a8 a9 = some r) : False := by cases h
theorem it9_s {A1 A2 A3 A4 A5 A6 A7 A8 A9 δ : Type} {F : (A1 → A2 → A3 → A4 → A5 → A6 → A7 → A8 → A9 → Option δ) → A1 → A2 → A3 → A4 → A5 → A6 → A7 → A8 → A9 → Option δ} {k : Nat} {a1 a2 a3 a4 a5 a6 a7 a8 a9 } {r : δ} (h : it9 F (k + 1) a1 a2 a3 a4 a5 a6 a7 a8 a9 = some r) : F (it9 F k) a1 a2 a3 a4 a5 a6 a7 a8 a9 = some r := h
def bnd10 {A1 A2 A3 A4 A5 A6 A7 A8 A9 A10 δ : Type} (o : Option (A1 × A2 × A3 × A4 × A5 × A6 × A7 × A8 × A9 × A10)) (f : A1 → A2 → A3 → A4 → A5 → A6 → A7 → A8 → A9 → A10 → Option δ) : Option δ := match o with
  | none => none
  | some a => f a.1 a.2.1 a.2.2.1 a.2.2.2.1 a.2.2.2.2.1 a.2.2.2.2.2.1 a.2.2.2.2.2.2.1 a.2.2.2.2.2.2.2.1 a.2.2.2.2.2.2.2.2.1 a.2.2.2.2.2.2.2.2.2
theorem bnd10_s {A1 A2 A3 A4 A5 A6 A7 A8 A9 A10 δ : Type} {o : Option (A1 × A2 × A3 × A4 × A5 × A6 × A7 × A8 × A9 × A10)} {f : A1 → A2 → A3 → A4 → A5 → A6 → A7 → A8 → A9 → A10 → Option δ} {r : δ} (h : bnd10 o f = some r) : ∃ (a1 : A1) (a2 : A2) (a3 : A3) (a4 : A4) (a5 : A5) (a6 : A6) (a7 : A7) (a8 : A8) (a9 : A9) (a10 : A10), o = some (a1, a2, a3, a4, a5, a6, a7, a8, a9, a10) ∧ f a1 a2 a3 a4 a5 a6 a7 a8 a9 a10 = some r := by
  cases o with
  | none => cases h
  | some a => exact ⟨a.1, a.2.1, a.2.2.1, a.2.2.2.1, a.2.2.2.2.1, a.2.2.2.2.2.1, a.2.2.2.2.2.2.1, a.2.2.2.2.2.2.2.1, a.2.2.2.2.2.2.2.2.1, a.2.2.2.2.2.2.2.2.2, rfl, h⟩
def it10 {A1 A2 A3 A4 A5 A6 A7 A8 A9 A10 δ : Type} (F : (A1 → A2 → A3 → A4 → A5 → A6 → A7 → A8 → A9 → A10 → Option δ) → A1 → A2 → A3 → A4 → A5 → A6 → A7 → A8 → A9 → A10 → Option δ) : Nat → A1 → A2 → A3 → A4 → A5 → A6 → A7 → A8 → A9 → A10 → Option δ
  | 0 => fun _ _ _ _ _ _ _ _ _ _ => none
  | k + 1 => F (it10 F k)
theorem it10_z {A1 A2 A3 A4 A5 A6 A7 A8 A9 A10 δ : Type} {F : (A1 → A2 → A3 → A4 → A5 → A6 → A7 → A8 → A9 → A10 → Option δ) → A1 → A2 → A3 → A4 → A5 → A6 → A7 → A8 → A9 → A10 → Option δ} {a1 a2 a3 a4 a5 a6 a7 a8 a9 a10 } {r : δ} (h : it10 F 0 a1 a2 a3 a4 a5 a6 a7 a8 a9 a10 = some r) : False := by cases h
theorem it10_s {A1 A2 A3 A4 A5 A6 A7 A8 A9 A10 δ : Type} {F : (A1 → A2 → A3 → A4 → A5 → A6 → A7 → A8 → A9 → A10 → Option δ) → A1 → A2 → A3 → A4 → A5 → A6 → A7 → A8 → A9 → A10 → Option δ} {k : Nat} {a1 a2 a3 a4 a5 a6 a7 a8 a9 a10 } {r : δ} (h : it10 F (k + 1) a1 a2 a3 a4 a5 a6 a7 a8 a9 a10 = some r) : F (it10 F k) a1 a2 a3 a4 a5 a6 a7 a8 a9 a10 = some r := h
def bnd11 {A1 A2 A3 A4 A5 A6 A7 A8 A9 A10 A11 δ : Type} (o : Option (A1 × A2 × A3 × A4 × A5 × A6 × A7 × A8 × A9 × A10 × A11)) (f : A1 → A2 → A3 → A4 → A5 → A6 → A7 → A8 → A9 → A10 → A11 → Option δ) : Option δ := match o with
  | none => none
  | some a => f a.1 a.2.1 a.2.2.1 a.2.2.2.1 a.2.2.2.2.1 a.2.2.2.2.2.1 a.2.2.2.2.2.2.1 a.2.2.2.2.2.2.2.1 a.2.2.2.2.2.2.2.2.1 a.2.2.2.2.2.2.2.2.2.1 a.2.2.2.2.2.2.2.2.2.2
theorem bnd11_s {A1 A2 A3 A4 A5 A6 A7 A8 A9 A10 A11 δ : Type} {o : Option (A1 × A2 × A3 × A4 × A5 × A6 × A7 × A8 × A9 × A10 × A11)} {f : A1 → A2 → A3 → A4 → A5 → A6 → A7 → A8 → A9 → A10 → A11 → Option δ} {r : δ} (h : bnd11 o f = some r) : ∃ (a1 : A1) (a2 : A2) (a3 : A3) (a4 : A4) (a5 : A5) (a6 : A6) (a7 : A7) (a8 : A8) (a9 : A9) (a10 : A10) (a11 : A11), o = some (a1, a2, a3, a4, a5, a6, a7, a8, a9, a10, a11) ∧ f a1 a2 a3 a4 a5 a6 a7 a8 a9 a10 a11 = some r := by
  cases o with
  | none => cases h
  | some a => exact ⟨a.1, a.2.1, a.2.2.1, a.2.2.2.1, a.2.2.2.2.1, a.2.2.2.2.2.1, a.2.2.2.2.2.2.1, a.2.2.2.2.2.2.2.1, a.2.2.2.2.2.2.2.2.1, a.2.2.2.2.2.2.2.2.2.1, a.2.2.2.2.2.2.2.2.2.2, rfl, h⟩
def it11 {A1 A2 A3 A4 A5 A6 A7 A8 A9 A10 A11 δ : Type} (F : (A1 → A2 → A3 → A4 → A5 → A6 → A7 → A8 → A9 → A10 → A11 → Option δ) → A1 → A2 → A3 → A4 → A5 → A6 → A7 → A8 → A9 → A10 → A11 → Option δ) : Nat → A1 → A2 → A3 → A4 → A5 → A6 → A7 → A8 → A9 → A10 → A11 → Option δ
  | 0 => fun _ _ _ _ _ _ _ _ _ _ _ => none
  | k + 1 => F (it11 F k)
theorem it11_z {A1 A2 A3 A4 A5 A6 A7 A8 A9 A10 A11 δ : Type} {F : (A1 → A2 → A3 → A4 → A5 → A6 → A7 → A8 → A9 → A10 → A11 → Option δ) → A1 → A2 → A3 → A4 → A5 → A6 → A7 → A8 → A9 → A10 → A11 → Option δ} {a1 a2 a3 a4 a5 a6 a7 a8 a9 a10 a11 } {r : δ} (h : it11 F 0 a1 a2 a3 a4 a5 a6 a7 a8 a9 a10 a11 = some r) : False := by cases h
theorem it11_s {A1 A2 A3 A4 A5 A6 A7 A8 A9 A10 A11 δ : Type} {F : (A1 → A2 → A3 → A4 → A5 → A6 → A7 → A8 → A9 → A10 → A11 → Option δ) → A1 → A2 → A3 → A4 → A5 → A6 → A7 → A8 → A9 → A10 → A11 → Option δ} {k : Nat} {a1 a2 a3 a4 a5 a6 a7 a8 a9 a10 a11 } {r : δ} (h : it11 F (k + 1) a1 a2 a3 a4 a5 a6 a7 a8 a9 a10 a11 = some r) : F (it11 F k) a1 a2 a3 a4 a5 a6 a7 a8 a9 a10 a11 = some r := h
def bnd12 {A1 A2 A3 A4 A5 A6 A7 A8 A9 A10 A11 A12 δ : Type} (o : Option (A1 × A2 × A3 × A4 × A5 × A6 × A7 × A8 × A9 × A10 × A11 × A12)) (f : A1 → A2 → A3 → A4 → A5 → A6 → A7 → A8 → A9 → A10 → A11 → A12 → Option δ) : Option δ := match o with
  | none => none
  | some a => f a.1 a.2.1 a.2.2.1 a.2.2.2.1 a.2.2.2.2.1 a.2.2.2.2.2.1 a.2.2.2.2.2.2.1 a.2.2.2.2.2.2.2.1 a.2.2.2.2.2.2.2.2.1 a.2.2.2.2.2.2.2.2.2.1 a.2.2.2.2.2.2.2.2.2.2.1 a.2.2.2.2.2.2.2.2.2.2.2
theorem bnd12_s {A1 A2 A3 A4 A5 A6 A7 A8 A9 A10 A11 A12 δ : Type} {o : Option (A1 × A2 × A3 × A4 × A5 × A6 × A7 × A8 × A9 × A10 × A11 × A12)} {f : A1 → A2 → A3 → A4 → A5 → A6 → A7 → A8 → A9 → A10 → A11 → A12 → Option δ} {r : δ} (h : bnd12 o f = some r) : ∃ (a1 : A1) (a2 : A2) (a3 : A3) (a4 : A4) (a5 : A5) (a6 : A6) (a7 : A7) (a8 : A8) (a9 : A9) (a10 : A10) (a11 : A11) (a12 : A12), o = some (a1, a2, a3, a4, a5, a6, a7, a8, a9, a10, a11, a12) ∧ f a1 a2 a3 a4 a5 a6 a7 a8 a9 a10 a11 a12 = some r := by
  cases o with
  | none => cases h
  | some a => exact ⟨a.1, a.2.1, a.2.2.1, a.2.2.2.1, a.2.2.2.2.1, a.2.2.2.2.2.1, a.2.2.2.2.2.2.1, a.2.2.2.2.2.2.2.1, a.2.2.2.2.2.2.2.2.1, a.2.2.2.2.2.2.2.2.2.1, a.2.2.2.2.2.2.2.2.2.2.1, a.2.2.2.2.2.2.2.2.2.2.2, rfl, h⟩
def it12 {A1 A2 A3 A4 A5 A6 A7 A8 A9 A10 A11 A12 δ : Type} (F : (A1 → A2 → A3 → A4 → A5 → A6 → A7 → A8 → A9 → A10 → A11 → A12 → Option δ) → A1 → A2 → A3 → A4 → A5 → A6 → A7 → A8 → A9 → A10 → A11 → A12 → Option δ) : Nat → A1 → A2 → A3 → A4 → A5 → A6 → A7 → A8 → A9 → A10 → A11 → A12 → Option δ
  | 0 => fun _ _ _ _ _ _ _ _ _ _ _ _ => none
  | k + 1 => F (it12 F k)
theorem it12_z {A1 A2 A3 A4 A5 A6 A7 A8 A9 A10 A11 A12 δ : Type} {F : (A1 → A2 → A3 → A4 → A5 → A6 → A7 → A8 → A9 → A10 → A11 → A12 → Option δ) → A1 → A2 → A3 → A4 → A5 → A6 → A7 → A8 → A9 → A10 → A11 → A12 → Option δ} {a1 a2 a3 a4 a5 a6 a7 a8 a9 a10 a11 a12 } {r : δ} (h : it12 F 0 a1 a2 a3 a4 a5 a6 a7 a8 a9 a10 a11 a12 = some r) : False := by cases h
theorem it12_s {A1 A2 A3 A4 A5 A6 A7 A8 A9 A10 A11 A12 δ : Type} {F : (A1 → A2 → A3 → A4 → A5 → A6 → A7 → A8 → A9 → A10 → A11 → A12 → Option δ) → A1 → A2 → A3 → A4 → A5 → A6 → A7 → A8 → A9 → A10 → A11 → A12 → Option δ} {k : Nat} {a1 a2 a3 a4 a5 a6 a7 a8 a9 a10 a11 a12 } {r : δ} (h : it12 F (k + 1) a1 a2 a3 a4 a5 a6 a7 a8 a9 a10 a11 a12 = some r) : F (it12 F k) a1 a2 a3 a4 a5 a6 a7 a8 a9 a10 a11 a12 = some r := h
def bnd13 {A1 A2 A3 A4 A5 A6 A7 A8 A9 A10 A11 A12 A13 δ : Type} (o : Option (A1 × A2 × A3 × A4 × A5 × A6 × A7 × A8 × A9 × A10 × A11 × A12 × A13)) (f : A1 → A2 → A3 → A4 → A5 → A6 → A7 → A8 → A9 → A10 → A11 → A12 → A13 → Option δ) : Option δ := match o with
  | none => none
  | some a => f a.1 a.2.1 a.2.2.1 a.2.2.2.1 a.2.2.2.2.1 a.2.2.2.2.2.1 a.2.2.2.2.2.2.1 a.2.2.2.2.2.2.2.1 a.2.2.2.2.2.2.2.2.1 a.2.2.2.2.2.2.2.2.2.1 a.2.2.2.2.2.2.2.2.2.2.1 a.2.2.2.2.2.2.2.2.2.2.2.1 a.2.2.2.2.2.2.2.2.2.2.2.2
theorem bnd13_s {A1 A2 A3 A4 A5 A6 A7 A8 A9 A10 A11 A12 A13 δ : Type} {o : Option (A1 × A2 × A3 × A4 × A5 × A6 × A7 × A8 × A9 × A10 × A11 × A12 × A13)} {f : A1 → A2 → A3 → A4 → A5 → A6 → A7 → A8 → A9 → A10 → A11 → A12 → A13 → Option δ} {r : δ} (h : bnd13 o f = some r) : ∃ (a1 : A1) (a2 : A2) (a3 : A3) (a4 : A4) (a5 : A5) (a6 : A6) (a7 : A7) (a8 : A8) (a9 : A9) (a10 : A10) (a11 : A11) (a12 : A12) (a13 : A13), o = some (a1, a2, a3, a4, a5, a6, a7, a8, a9, a10, a11, a12, a13) ∧ f a1 a2 a3 a4 a5 a6 a7 a8 a9 a10 a11 a12 a13 = some r := by
  cases o with
  | none => cases h
  | some a => exact ⟨a.1, a.2.1, a.2.2.1, a.2.2.2.1, a.2.2.2.2.1, a.2.2.2.2.2.1, a.2.2.2.2.2.2.1, a.2.2.2.2.2.2.2.1, a.2.2.2.2.2.2.2.2.1, a.2.2.2.2.2.2.2.2.2.1, a.2.2.2.2.2.2.2.2.2.2.1, a.2.2.2.2.2.2.2.2.2.2.2.1, a.2.2.2.2.2.2.2.2.2.2.2.2, rfl, h⟩
def bnd14 {A1 A2 A3 A4 A5 A6 A7 A8 A9 A10 A11 A12 A13 A14 δ : Type} (o : Option (A1 × A2 × A3 × A4 × A5 × A6 × A7 × A8 × A9 × A10 × A11 × A12 × A13 × A14)) (f : A1 → A2 → A3 → A4 → A5 → A6 → A7 → A8 → A9 → A10 → A11 → A12 → A13 → A14 → Option δ) : Option δ := match o with
  | none => none
  | some a => f a.1 a.2.1 a.2.2.1 a.2.2.2.1 a.2.2.2.2.1 a.2.2.2.2.2.1 a.2.2.2.2.2.2.1 a.2.2.2.2.2.2.2.1 a.2.2.2.2.2.2.2.2.1 a.2.2.2.2.2.2.2.2.2.1 a.2.2.2.2.2.2.2.2.2.2.1 a.2.2.2.2.2.2.2.2.2.2.2.1 a.2.2.2.2.2.2.2.2.2.2.2.2.1 a.2.2.2.2.2.2.2.2.2.2.2.2.2
theorem bnd14_s {A1 A2 A3 A4 A5 A6 A7 A8 A9 A10 A11 A12 A13 A14 δ : Type} {o : Option (A1 × A2 × A3 × A4 × A5 × A6 × A7 × A8 × A9 × A10 × A11 × A12 × A13 × A14)} {f : A1 → A2 → A3 → A4 → A5 → A6 → A7 → A8 → A9 → A10 → A11 → A12 → A13 → A14 → Option δ} {r : δ} (h : bnd14 o f = some r) : ∃ (a1 : A1) (a2 : A2) (a3 : A3) (a4 : A4) (a5 : A5) (a6 : A6) (a7 : A7) (a8 : A8) (a9 : A9) (a10 : A10) (a11 : A11) (a12 : A12) (a13 : A13) (a14 : A14), o = some (a1, a2, a3, a4, a5, a6, a7, a8, a9, a10, a11, a12, a13, a14) ∧ f a1 a2 a3 a4 a5 a6 a7 a8 a9 a10 a11 a12 a13 a14 = some r := by
  cases o with
  | none => cases h
  | some a => exact ⟨a.1, a.2.1, a.2.2.1, a.2.2.2.1, a.2.2.2.2.1, a.2.2.2.2.2.1, a.2.2.2.2.2.2.1, a.2.2.2.2.2.2.2.1, a.2.2.2.2.2.2.2.2.1, a.2.2.2.2.2.2.2.2.2.1, a.2.2.2.2.2.2.2.2.2.2.1, a.2.2.2.2.2.2.2.2.2.2.2.1, a.2.2.2.2.2.2.2.2.2.2.2.2.1, a.2.2.2.2.2.2.2.2.2.2.2.2.2, rfl, h⟩
def bnd15 {A1 A2 A3 A4 A5 A6 A7 A8 A9 A10 A11 A12 A13 A14 A15 δ : Type} (o : Option (A1 × A2 × A3 × A4 × A5 × A6 × A7 × A8 × A9 × A10 × A11 × A12 × A13 × A14 × A15)) (f : A1 → A2 → A3 → A4 → A5 → A6 → A7 → A8 → A9 → A10 → A11 → A12 → A13 → A14 → A15 → Option δ) : Option δ := match o with
  | none => none
  | some a => f a.1 a.2.1 a.2.2.1 a.2.2.2.1 a.2.2.2.2.1 a.2.2.2.2.2.1 a.2.2.2.2.2.2.1 a.2.2.2.2.2.2.2.1 a.2.2.2.2.2.2.2.2.1 a.2.2.2.2.2.2.2.2.2.1 a.2.2.2.2.2.2.2.2.2.2.1 a.2.2.2.2.2.2.2.2.2.2.2.1 a.2.2.2.2.2.2.2.2.2.2.2.2.1 a.2.2.2.2.2.2.2.2.2.2.2.2.2.1 a.2.2.2.2.2.2.2.2.2.2.2.2.2.2
theorem bnd15_s {A1 A2 A3 A4 A5 A6 A7 A8 A9 A10 A11 A12 A13 A14 A15 δ : Type} {o : Option (A1 × A2 × A3 × A4 × A5 × A6 × A7 × A8 × A9 × A10 × A11 × A12 × A13 × A14 × A15)} {f : A1 → A2 → A3 → A4 → A5 → A6 → A7 → A8 → A9 → A10 → A11 → A12 → A13 → A14 → A15 → Option δ} {r : δ} (h : bnd15 o f = some r) : ∃ (a1 : A1) (a2 : A2) (a3 : A3) (a4 : A4) (a5 : A5) (a6 : A6) (a7 : A7) (a8 : A8) (a9 : A9) (a10 : A10) (a11 : A11) (a12 : A12) (a13 : A13) (a14 : A14) (a15 : A15), o = some (a1, a2, a3, a4, a5, a6, a7, a8, a9, a10, a11, a12, a13, a14, a15) ∧ f a1 a2 a3 a4 a5 a6 a7 a8 a9 a10 a11 a12 a13 a14 a15 = some r := by
  cases o with
  | none => cases h
  | some a => exact ⟨a.1, a.2.1, a.2.2.1, a.2.2.2.1, a.2.2.2.2.1, a.2.2.2.2.2.1, a.2.2.2.2.2.2.1, a.2.2.2.2.2.2.2.1, a.2.2.2.2.2.2.2.2.1, a.2.2.2.2.2.2.2.2.2.1, a.2.2.2.2.2.2.2.2.2.2.1, a.2.2.2.2.2.2.2.2.2.2.2.1, a.2.2.2.2.2.2.2.2.2.2.2.2.1, a.2.2.2.2.2.2.2.2.2.2.2.2.2.1, a.2.2.2.2.2.2.2.2.2.2.2.2.2.2, rfl, h⟩
def bnd16 {A1 A2 A3 A4 A5 A6 A7 A8 A9 A10 A11 A12 A13 A14 A15 A16 δ : Type} (o : Option (A1 × A2 × A3 × A4 × A5 × A6 × A7 × A8 × A9 × A10 × A11 × A12 × A13 × A14 × A15 × A16)) (f : A1 → A2 → A3 → A4 → A5 → A6 → A7 → A8 → A9 → A10 → A11 → A12 → A13 → A14 → A15 → A16 → Option δ) : Option δ := match o with
  | none => none
  | some a => f a.1 a.2.1 a.2.2.1 a.2.2.2.1 a.2.2.2.2.1 a.2.2.2.2.2.1 a.2.2.2.2.2.2.1 a.2.2.2.2.2.2.2.1 a.2.2.2.2.2.2.2.2.1 a.2.2.2.2.2.2.2.2.2.1 a.2.2.2.2.2.2.2.2.2.2.1 a.2.2.2.2.2.2.2.2.2.2.2.1 a.2.2.2.2.2.2.2.2.2.2.2.2.1 a.2.2.2.2.2.2.2.2.2.2.2.2.2.1 a.2.2.2.2.2.2.2.2.2.2.2.2.2.2.1 a.2.2.2.2.2.2.2.2.2.2.2.2.2.2.2
theorem bnd16_s {A1 A2 A3 A4 A5 A6 A7 A8 A9 A10 A11 A12 A13 A14 A15 A16 δ : Type} {o : Option (A1 × A2 × A3 × A4 × A5 × A6 × A7 × A8 × A9 × A10 × A11 × A12 × A13 × A14 × A15 × A16)} {f : A1 → A2 → A3 → A4 → A5 → A6 → A7 → A8 → A9 → A10 → A11 → A12 → A13 → A14 → A15 → A16 → Option δ} {r : δ} (h : bnd16 o f = some r) : ∃ (a1 : A1) (a2 : A2) (a3 : A3) (a4 : A4) (a5 : A5) (a6 : A6) (a7 : A7) (a8 : A8) (a9 : A9) (a10 : A10) (a11 : A11) (a12 : A12) (a13 : A13) (a14 : A14) (a15 : A15) (a16 : A16), o = some (a1, a2, a3, a4, a5, a6, a7, a8, a9, a10, a11, a12, a13, a14, a15, a16) ∧ f a1 a2 a3 a4 a5 a6 a7 a8 a9 a10 a11 a12 a13 a14 a15 a16 = some r := by
  cases o with
  | none => cases h
  | some a => exact ⟨a.1, a.2.1, a.2.2.1, a.2.2.2.1, a.2.2.2.2.1, a.2.2.2.2.2.1, a.2.2.2.2.2.2.1, a.2.2.2.2.2.2.2.1, a.2.2.2.2.2.2.2.2.1, a.2.2.2.2.2.2.2.2.2.1, a.2.2.2.2.2.2.2.2.2.2.1, a.2.2.2.2.2.2.2.2.2.2.2.1, a.2.2.2.2.2.2.2.2.2.2.2.2.1, a.2.2.2.2.2.2.2.2.2.2.2.2.2.1, a.2.2.2.2.2.2.2.2.2.2.2.2.2.2.1, a.2.2.2.2.2.2.2.2.2.2.2.2.2.2.2, rfl, h⟩
def bnd17 {A1 A2 A3 A4 A5 A6 A7 A8 A9 A10 A11 A12 A13 A14 A15 A16 A17 δ : Type} (o : Option (A1 × A2 × A3 × A4 × A5 × A6 × A7 × A8 × A9 × A10 × A11 × A12 × A13 × A14 × A15 × A16 × A17)) (f : A1 → A2 → A3 → A4 → A5 → A6 → A7 → A8 → A9 → A10 → A11 → A12 → A13 → A14 → A15 → A16 → A17 → Option δ) : Option δ := match o with
  | none => none
  | some a => f a.1 a.2.1 a.2.2.1 a.2.2.2.1 a.2.2.2.2.1 a.2.2.2.2.2.1 a.2.2.2.2.2.2.1 a.2.2.2.2.2.2.2.1 a.2.2.2.2.2.2.2.2.1 a.2.2.2.2.2.2.2.2.2.1 a.2.2.2.2.2.2.2.2.2.2.1 a.2.2.2.2.2.2.2.2.2.2.2.1 a.2.2.2.2.2.2.2.2.2.2.2.2.1 a.2.2.2.2.2.2.2.2.2.2.2.2.2.1 a.2.2.2.2.2.2.2.2.2.2.2.2.2.2.1 a.2.2.2.2.2.2.2.2.2.2.2.2.2.2.2.1 a.2.2.2.2.2.2.2.2.2.2.2.2.2.2.2.2
theorem bnd17_s {A1 A2 A3 A4 A5 A6 A7 A8 A9 A10 A11 A12 A13 A14 A15 A16 A17 δ : Type} {o : Option (A1 × A2 × A3 × A4 × A5 × A6 × A7 × A8 × A9 × A10 × A11 × A12 × A13 × A14 × A15 × A16 × A17)} {f : A1 → A2 → A3 → A4 → A5 → A6 → A7 → A8 → A9 → A10 → A11 → A12 → A13 → A14 → A15 → A16 → A17 → Option δ} {r : δ} (h : bnd17 o f = some r) : ∃ (a1 : A1) (a2 : A2) (a3 : A3) (a4 : A4) (a5 : A5) (a6 : A6) (a7 : A7) (a8 : A8) (a9 : A9) (a10 : A10) (a11 : A11) (a12 : A12) (a13 : A13) (a14 : A14) (a15 : A15) (a16 : A16) (a17 : A17), o = some (a1, a2, a3, a4, a5, a6, a7, a8, a9, a10, a11, a12, a13, a14, a15, a16, a17) ∧ f a1 a2 a3 a4 a5 a6 a7 a8 a9 a10 a11 a12 a13 a14 a15 a16 a17 = some r := by
  cases o with
  | none => cases h
  | some a => exact ⟨a.1, a.2.1, a.2.2.1, a.2.2.2.1, a.2.2.2.2.1, a.2.2.2.2.2.1, a.2.2.2.2.2.2.1, a.2.2.2.2.2.2.2.1, a.2.2.2.2.2.2.2.2.1, a.2.2.2.2.2.2.2.2.2.1, a.2.2.2.2.2.2.2.2.2.2.1, a.2.2.2.2.2.2.2.2.2.2.2.1, a.2.2.2.2.2.2.2.2.2.2.2.2.1, a.2.2.2.2.2.2.2.2.2.2.2.2.2.1, a.2.2.2.2.2.2.2.2.2.2.2.2.2.2.1, a.2.2.2.2.2.2.2.2.2.2.2.2.2.2.2.1, a.2.2.2.2.2.2.2.2.2.2.2.2.2.2.2.2, rfl, h⟩
def bnd18 {A1 A2 A3 A4 A5 A6 A7 A8 A9 A10 A11 A12 A13 A14 A15 A16 A17 A18 δ : Type} (o : Option (A1 × A2 × A3 × A4 × A5 × A6 × A7 × A8 × A9 × A10 × A11 × A12 × A13 × A14 × A15 × A16 × A17 × A18)) (f : A1 → A2 → A3 → A4 → A5 → A6 → A7 → A8 → A9 → A10 → A11 → A12 → A13 → A14 → A15 → A16 → A17 → A18 → Option δ) : Option δ := match o with
  | none => none
  | some a => f a.1 a.2.1 a.2.2.1 a.2.2.2.1 a.2.2.2.2.1 a.2.2.2.2.2.1 a.2.2.2.2.2.2.1 a.2.2.2.2.2.2.2.1 a.2.2.2.2.2.2.2.2.1 a.2.2.2.2.2.2.2.2.2.1 a.2.2.2.2.2.2.2.2.2.2.1 a.2.2.2.2.2.2.2.2.2.2.2.1 a.2.2.2.2.2.2.2.2.2.2.2.2.1 a.2.2.2.2.2.2.2.2.2.2.2.2.2.1 a.2.2.2.2.2.2.2.2.2.2.2.2.2.2.1 a.2.2.2.2.2.2.2.2.2.2.2.2.2.2.2.1 a.2.2.2.2.2.2.2.2.2.2.2.2.2.2.2.2.1 a.2.2.2.2.2.2.2.2.2.2.2.2.2.2.2.2.2
theorem bnd18_s {A1 A2 A3 A4 A5 A6 A7 A8 A9 A10 A11 A12 A13 A14 A15 A16 A17 A18 δ : Type} {o : Option (A1 × A2 × A3 × A4 × A5 × A6 × A7 × A8 × A9 × A10 × A11 × A12 × A13 × A14 × A15 × A16 × A17 × A18)} {f : A1 → A2 → A3 → A4 → A5 → A6 → A7 → A8 → A9 → A10 → A11 → A12 → A13 → A14 → A15 → A16 → A17 → A18 → Option δ} {r : δ} (h : bnd18 o f = some r) : ∃ (a1 : A1) (a2 : A2) (a3 : A3) (a4 : A4) (a5 : A5) (a6 : A6) (a7 : A7) (a8 : A8) (a9 : A9) (a10 : A10) (a11 : A11) (a12 : A12) (a13 : A13) (a14 : A14) (a15 : A15) (a16 : A16) (a17 : A17) (a18 : A18), o = some (a1, a2, a3, a4, a5, a6, a7, a8, a9, a10, a11, a12, a13, a14, a15, a16, a17, a18) ∧ f a1 a2 a3 a4 a5 a6 a7 a8 a9 a10 a11 a12 a13 a14 a15 a16 a17 a18 = some r := by
  cases o with
  | none => cases h
  | some a => exact ⟨a.1, a.2.1, a.2.2.1, a.2.2.2.1, a.2.2.2.2.1, a.2.2.2.2.2.1, a.2.2.2.2.2.2.1, a.2.2.2.2.2.2.2.1, a.2.2.2.2.2.2.2.2.1, a.2.2.2.2.2.2.2.2.2.1, a.2.2.2.2.2.2.2.2.2.2.1, a.2.2.2.2.2.2.2.2.2.2.2.1, a.2.2.2.2.2.2.2.2.2.2.2.2.1, a.2.2.2.2.2.2.2.2.2.2.2.2.2.1, a.2.2.2.2.2.2.2.2.2.2.2.2.2.2.1, a.2.2.2.2.2.2.2.2.2.2.2.2.2.2.2.1, a.2.2.2.2.2.2.2.2.2.2.2.2.2.2.2.2.1, a.2.2.2.2.2.2.2.2.2.2.2.2.2.2.2.2.2, rfl, h⟩
theorem zn0 : narrow .boolean (.int 0) = .int 0 := by decide
theorem zn1 : narrow .boolean (.int 1) = .int 1 := by decide
/-! instructions under names of their own -/
def irem (x y : Int32) : Int32 := x - x / y * y
def ishl (x y : Int32) : Int32 := x <<< (y &&& 31)
def ishr (x y : Int32) : Int32 := x >>> (y &&& 31)
def iushr (x y : Int32) : Int32 := (x.toUInt32 >>> (y.toUInt32 &&& Int32.toUInt32 31)).toInt32
def imax (x y : Int32) : Int32 := if x < y then y else x
def imin (x y : Int32) : Int32 := if y < x then y else x
def iabs (x : Int32) : Int32 := if 0 ≤ x then x else 0 - x
def kTy (cyI cyZ : ClassId) : List (ClassId × FieldType) := [(cyI, .int), (cyZ, .boolean)]
/-- the nest mates' links: words that no list of words holds -/
def kN (U : State) : Prop := va_Nw (.methodLinkNest RX7 15 yX9_contains RX9) U ∧ va_Nw (.methodLinkNest RX7 32 yX9_bit RX9) U ∧ va_Nw (.methodLinkNest RX5 15 yX9_contains RX9) U ∧ va_Nw (.methodLinkNest RX5 25 yX9_bit RX9) U ∧ va_Nw (.methodLinkNest RX0 72 yX9_contains RX9) U ∧ va_Nw (.methodLinkNest RX0 80 yX9_bit RX9) U
theorem kN.warm {s U : State} (hW : s.WarmedH U.vm) (h : kN s) : kN U := ⟨va_Nw.warmM hW h.1, va_Nw.warmM hW h.2.1, va_Nw.warmM hW h.2.2.1, va_Nw.warmM hW h.2.2.2.1, va_Nw.warmM hW h.2.2.2.2.1, va_Nw.warmM hW h.2.2.2.2.2⟩
theorem kN.same {u U : State} (e : u.vm = U.vm) (h : kN u) : kN U := ⟨va_Nw.same rfl e h.1, va_Nw.same rfl e h.2.1, va_Nw.same rfl e h.2.2.1, va_Nw.same rfl e h.2.2.2.1, va_Nw.same rfl e h.2.2.2.2.1, va_Nw.same rfl e h.2.2.2.2.2⟩
/-- a method's start: its arguments, its world -/
def kPre (D : va_G) (cyI cyZ : ClassId) (av : List Value) (w : va_W) (sz : Nat) : Array Value → State → Prop := va_Pc av (fun U => U.heap.size = sz ∧ va_P D vwCl w U.heap ∧ va_K D vwCl (kTy cyI cyZ) U ∧ va_D (fun _ => True) w ∧ kN U)
/-- its end: the answer r, the world w -/
def kQi (D : va_G) (cyI cyZ : ClassId) (A : Nat → Prop) (w : va_W) (r : Int32) : Array Value → State → Outcome → State → Prop := va_Qi (fun (x : Int32) (_ : Unit) => x = r) (fun _ t => va_P D vwCl w t.heap ∧ va_K D vwCl (kTy cyI cyZ) t ∧ va_D A w) A
def kQv (D : va_G) (cyI cyZ : ClassId) (A : Nat → Prop) (w : va_W) : Array Value → State → Outcome → State → Prop := va_Qv (fun (_ : Unit) => True) (fun _ t => va_P D vwCl w t.heap ∧ va_K D vwCl (kTy cyI cyZ) t ∧ va_D A w) A
theorem kBlind {D : va_G} {cyI cyZ : ClassId} {av : List Value} {w : va_W} {sz : Nat} : FrameBlind (kPre D cyI cyZ av w sz) := fun a U g mk q => by
  obtain ⟨q0, q1, qP, qK, qD, qN⟩ := q
  exact ⟨q0, q1, qP, va_K.moved (u := U) (U := U.calling g mk a) (Vm.Alike.refl U.vm) qK, qD, kN.same (u := U) (U := U.calling g mk a) rfl qN⟩
theorem kMF {α β : Type} {f : α → Option β} {l : List α} {w : List β} (h : l.map f = w.map some) : l.filterMap f = w := by
  have e : l.filterMap f = (l.map f).filterMap id := by rw [List.filterMap_map]; rfl
  rw [e, h, List.filterMap_map]
  exact List.filterMap_some
section KC
variable {p : Program} {l : Launch} {e : Env} {R : Room} {s : State} {m : MethodId} {args : Array Value} {below : List Frame} {meth : Method} {c : Code} {H H0 : Heap} {locs : List Loc} {cells slots : Nat} {Q : State → Prop}
variable {cc bytes : ByteArray} {nL maxL index n : Nat} {own C : String} {y : MethodName} {ret : Option FieldType} {ws : List Cond} {rm : Room} {Ts : List Cond} {b : Addr} {As rest st0 : List Value} {pc : Nat} {ls : Array Slot} {D : va_G} {cyI cyZ : ClassId} {A : Nat → Prop} {wc w w1 w2 : va_W} {r : Int32}
theorem kcVi {T : u_T} {N : Nat} {fs : List Value} (S : CallFix p m c cc nL s args Ts own) (hK : va_K D vwCl (kTy cyI cyZ) s) (hP : va_P D vwCl wc H) (hD : va_D A wc) (hS : va_S A H0 H locs) (hA : ∀ q, H0.size ≤ q → A q) (hN : kN s)
    (hM : Met l y ws rm (kPre D cyI cyZ (.ref b :: As) w H.size) (kQi D cyI cyZ (va_A w H.size) w1 r) 0 0 (va_A w H.size))
    (cw : CallW R s args own C index y bytes maxL ret ws rm 0 0 n) (ci q0 : Nat) (hc : vwCl[ci]? = some (C, T, N)) (he : wc[q0]? = some (b, .inr (ci, fs)))
    (isC isR pm : List Nat) (hC : isC.map (fun i => wc[i]?) = w.map some) (hR : isR.map (fun i => wc[i]?) = (isR.filterMap (fun i => wc[i]?)).map some) (hpm : pm.map (fun i => (isR.filterMap (fun i => wc[i]?) ++ w1)[i]?) = w2.map some)
    (hnd : (va_nd isC && (va_nd isR && va_nd pm)) = true) (hdis : ∀ i ∈ isR, i ∉ isC)
    (hstack : st0 = As.reverse ++ .ref b :: rest) (hn : As.length = n) (hsize : ls.size = nL) (hW : (rest.map fun v => v.category).sum ≤ 8) (hdg : decode cc pc = .ok (.invokevirtual index, 3)) (hf : cells ≤ R.cells ∧ slots ≤ R.slots)
    (kk : ∀ (H1 : Heap) (locs1 : List Loc), va_P D vwCl w2 H1 → va_D A w2 → va_S A H0 H1 locs1 → W p l e R s m args below meth c H1 locs1 cells slots Q (F0 m (pc + 3) ls (.int r :: rest))) :
    W p l e R s m args below meth c H locs cells slots Q (F0 m pc ls st0) := by
  rw [Bool.and_eq_true, Bool.and_eq_true] at hnd
  obtain ⟨hn1, hn2, hn3⟩ := hnd
  have hFc := va_free (wc := w) hD hS hA isC hC
  have hPw : va_P D vwCl w H := hP.sub isC (kMF hC)
  have hDw := hD.sub isC hn1 hC
  refine va_calli (va_runV S hM cw ⟨kBlind, va_recv hK hP hc he, fun U hU hW => ⟨rfl, by rw [hU], by rw [hU]; exact hPw, va_K.moved hW.alike hK, hDw.weaken (fun _ _ _ _ => trivial), hN.warm hW⟩⟩ rfl hn hsize hstack (lv_room hW) hdg hf) hS (fun q _ h => hFc q h) hFc (fun r' u t H1 locs1 ht hvm hw hB hz1 hk1 hS1 => ?_)
  obtain ⟨hP1, hK1, hD1⟩ := hB
  rw [ht] at hP1
  have hw : r' = r := hw
  obtain ⟨hP2, hD2⟩ := va_join hP hD isC isR hC hR hn2 hdis hk1 hFc hP1 hD1
  rw [hw]
  exact kk H1 locs1 (hP2.sub pm (kMF hpm)) (hD2.sub pm hn3 hpm) hS1
theorem kcVv {T : u_T} {N : Nat} {fs : List Value} (S : CallFix p m c cc nL s args Ts own) (hK : va_K D vwCl (kTy cyI cyZ) s) (hP : va_P D vwCl wc H) (hD : va_D A wc) (hS : va_S A H0 H locs) (hA : ∀ q, H0.size ≤ q → A q) (hN : kN s)
    (hM : Met l y ws rm (kPre D cyI cyZ (.ref b :: As) w H.size) (kQv D cyI cyZ (va_A w H.size) w1) 0 0 (va_A w H.size))
    (cw : CallW R s args own C index y bytes maxL ret ws rm 0 0 n) (ci q0 : Nat) (hc : vwCl[ci]? = some (C, T, N)) (he : wc[q0]? = some (b, .inr (ci, fs)))
    (isC isR pm : List Nat) (hC : isC.map (fun i => wc[i]?) = w.map some) (hR : isR.map (fun i => wc[i]?) = (isR.filterMap (fun i => wc[i]?)).map some) (hpm : pm.map (fun i => (isR.filterMap (fun i => wc[i]?) ++ w1)[i]?) = w2.map some)
    (hnd : (va_nd isC && (va_nd isR && va_nd pm)) = true) (hdis : ∀ i ∈ isR, i ∉ isC)
    (hstack : st0 = As.reverse ++ .ref b :: rest) (hn : As.length = n) (hsize : ls.size = nL) (hW : (rest.map fun v => v.category).sum ≤ 8) (hdg : decode cc pc = .ok (.invokevirtual index, 3)) (hf : cells ≤ R.cells ∧ slots ≤ R.slots)
    (kk : ∀ (H1 : Heap) (locs1 : List Loc), va_P D vwCl w2 H1 → va_D A w2 → va_S A H0 H1 locs1 → W p l e R s m args below meth c H1 locs1 cells slots Q (F0 m (pc + 3) ls rest)) :
    W p l e R s m args below meth c H locs cells slots Q (F0 m pc ls st0) := by
  rw [Bool.and_eq_true, Bool.and_eq_true] at hnd
  obtain ⟨hn1, hn2, hn3⟩ := hnd
  have hFc := va_free (wc := w) hD hS hA isC hC
  have hPw : va_P D vwCl w H := hP.sub isC (kMF hC)
  have hDw := hD.sub isC hn1 hC
  refine va_callv (va_runV S hM cw ⟨kBlind, va_recv hK hP hc he, fun U hU hW => ⟨rfl, by rw [hU], by rw [hU]; exact hPw, va_K.moved hW.alike hK, hDw.weaken (fun _ _ _ _ => trivial), hN.warm hW⟩⟩ rfl hn hsize hstack (lv_room hW) hdg hf) hS (fun q _ h => hFc q h) hFc (fun u t H1 locs1 ht hvm hw hB hz1 hk1 hS1 => ?_)
  obtain ⟨hP1, hK1, hD1⟩ := hB
  rw [ht] at hP1
  obtain ⟨hP2, hD2⟩ := va_join hP hD isC isR hC hR hn2 hdis hk1 hFc hP1 hD1
  exact kk H1 locs1 (hP2.sub pm (kMF hpm)) (hD2.sub pm hn3 hpm) hS1
theorem kcSi (S : CallFix p m c cc nL s args Ts own) (hK : va_K D vwCl (kTy cyI cyZ) s) (hP : va_P D vwCl wc H) (hD : va_D A wc) (hS : va_S A H0 H locs) (hA : ∀ q, H0.size ≤ q → A q) (hN : kN s)
    (hM : Met l y ws rm (kPre D cyI cyZ As w H.size) (kQi D cyI cyZ (va_A w H.size) w1 r) 0 0 (va_A w H.size))
    (cw : CallB R s args own index y bytes maxL ret ws rm 0 0 n ∧ (Cond.static y).before args s = true)
    (isC isR pm : List Nat) (hC : isC.map (fun i => wc[i]?) = w.map some) (hR : isR.map (fun i => wc[i]?) = (isR.filterMap (fun i => wc[i]?)).map some) (hpm : pm.map (fun i => (isR.filterMap (fun i => wc[i]?) ++ w1)[i]?) = w2.map some)
    (hnd : (va_nd isC && (va_nd isR && va_nd pm)) = true) (hdis : ∀ i ∈ isR, i ∉ isC)
    (hstack : st0 = As.reverse ++ rest) (hn : As.length = n) (hsize : ls.size = nL) (hW : (rest.map fun v => v.category).sum ≤ 8) (hdg : decode cc pc = .ok (.invokestatic index, 3)) (hf : cells ≤ R.cells ∧ slots ≤ R.slots)
    (kk : ∀ (H1 : Heap) (locs1 : List Loc), va_P D vwCl w2 H1 → va_D A w2 → va_S A H0 H1 locs1 → W p l e R s m args below meth c H1 locs1 cells slots Q (F0 m (pc + 3) ls (.int r :: rest))) :
    W p l e R s m args below meth c H locs cells slots Q (F0 m pc ls st0) := by
  rw [Bool.and_eq_true, Bool.and_eq_true] at hnd
  obtain ⟨hn1, hn2, hn3⟩ := hnd
  have hFc := va_free (wc := w) hD hS hA isC hC
  have hPw : va_P D vwCl w H := hP.sub isC (kMF hC)
  have hDw := hD.sub isC hn1 hC
  refine va_calli (va_runS S hM cw ⟨kBlind, fun U hU hW => ⟨rfl, by rw [hU], by rw [hU]; exact hPw, va_K.moved hW.alike hK, hDw.weaken (fun _ _ _ _ => trivial), hN.warm hW⟩⟩ rfl hn hsize hstack (lv_room hW) hdg hf) hS (fun q _ h => hFc q h) hFc (fun r' u t H1 locs1 ht hvm hw hB hz1 hk1 hS1 => ?_)
  obtain ⟨hP1, hK1, hD1⟩ := hB
  rw [ht] at hP1
  have hw : r' = r := hw
  obtain ⟨hP2, hD2⟩ := va_join hP hD isC isR hC hR hn2 hdis hk1 hFc hP1 hD1
  rw [hw]
  exact kk H1 locs1 (hP2.sub pm (kMF hpm)) (hD2.sub pm hn3 hpm) hS1
theorem kcNi {host : String} (S : CallFix p m c cc nL s args Ts own) (hK : va_K D vwCl (kTy cyI cyZ) s) (hP : va_P D vwCl wc H) (hD : va_D A wc) (hS : va_S A H0 H locs) (hA : ∀ q, H0.size ≤ q → A q) (hN : kN s)
    (hM : Met l y ws rm (kPre D cyI cyZ As w H.size) (kQi D cyI cyZ (va_A w H.size) w1 r) 0 0 (va_A w H.size))
    (cw : va_CN R s args own index y host bytes maxL ret ws rm 0 0 n ∧ (Cond.static y).before args s = true ∧ True)
    (isC isR pm : List Nat) (hC : isC.map (fun i => wc[i]?) = w.map some) (hR : isR.map (fun i => wc[i]?) = (isR.filterMap (fun i => wc[i]?)).map some) (hpm : pm.map (fun i => (isR.filterMap (fun i => wc[i]?) ++ w1)[i]?) = w2.map some)
    (hnd : (va_nd isC && (va_nd isR && va_nd pm)) = true) (hdis : ∀ i ∈ isR, i ∉ isC)
    (hstack : st0 = As.reverse ++ rest) (hn : As.length = n) (hsize : ls.size = nL) (hW : (rest.map fun v => v.category).sum ≤ 8) (hdg : decode cc pc = .ok (.invokestatic index, 3)) (hf : cells ≤ R.cells ∧ slots ≤ R.slots)
    (kk : ∀ (H1 : Heap) (locs1 : List Loc), va_P D vwCl w2 H1 → va_D A w2 → va_S A H0 H1 locs1 → W p l e R s m args below meth c H1 locs1 cells slots Q (F0 m (pc + 3) ls (.int r :: rest))) :
    W p l e R s m args below meth c H locs cells slots Q (F0 m pc ls st0) := by
  rw [Bool.and_eq_true, Bool.and_eq_true] at hnd
  obtain ⟨hn1, hn2, hn3⟩ := hnd
  have hFc := va_free (wc := w) hD hS hA isC hC
  have hPw : va_P D vwCl w H := hP.sub isC (kMF hC)
  have hDw := hD.sub isC hn1 hC
  refine va_calli (va_runSN S hM cw ⟨kBlind, fun U hU hW => ⟨rfl, by rw [hU], by rw [hU]; exact hPw, va_K.moved hW.alike hK, hDw.weaken (fun _ _ _ _ => trivial), hN.warm hW⟩⟩ rfl hn hsize hstack (lv_room hW) hdg hf) hS (fun q _ h => hFc q h) hFc (fun r' u t H1 locs1 ht hvm hw hB hz1 hk1 hS1 => ?_)
  obtain ⟨hP1, hK1, hD1⟩ := hB
  rw [ht] at hP1
  have hw : r' = r := hw
  obtain ⟨hP2, hD2⟩ := va_join hP hD isC isR hC hR hn2 hdis hk1 hFc hP1 hD1
  rw [hw]
  exact kk H1 locs1 (hP2.sub pm (kMF hpm)) (hD2.sub pm hn3 hpm) hS1
theorem kcSv (S : CallFix p m c cc nL s args Ts own) (hK : va_K D vwCl (kTy cyI cyZ) s) (hP : va_P D vwCl wc H) (hD : va_D A wc) (hS : va_S A H0 H locs) (hA : ∀ q, H0.size ≤ q → A q) (hN : kN s)
    (hM : Met l y ws rm (kPre D cyI cyZ As w H.size) (kQv D cyI cyZ (va_A w H.size) w1) 0 0 (va_A w H.size))
    (cw : CallB R s args own index y bytes maxL ret ws rm 0 0 n ∧ (Cond.static y).before args s = true)
    (isC isR pm : List Nat) (hC : isC.map (fun i => wc[i]?) = w.map some) (hR : isR.map (fun i => wc[i]?) = (isR.filterMap (fun i => wc[i]?)).map some) (hpm : pm.map (fun i => (isR.filterMap (fun i => wc[i]?) ++ w1)[i]?) = w2.map some)
    (hnd : (va_nd isC && (va_nd isR && va_nd pm)) = true) (hdis : ∀ i ∈ isR, i ∉ isC)
    (hstack : st0 = As.reverse ++ rest) (hn : As.length = n) (hsize : ls.size = nL) (hW : (rest.map fun v => v.category).sum ≤ 8) (hdg : decode cc pc = .ok (.invokestatic index, 3)) (hf : cells ≤ R.cells ∧ slots ≤ R.slots)
    (kk : ∀ (H1 : Heap) (locs1 : List Loc), va_P D vwCl w2 H1 → va_D A w2 → va_S A H0 H1 locs1 → W p l e R s m args below meth c H1 locs1 cells slots Q (F0 m (pc + 3) ls rest)) :
    W p l e R s m args below meth c H locs cells slots Q (F0 m pc ls st0) := by
  rw [Bool.and_eq_true, Bool.and_eq_true] at hnd
  obtain ⟨hn1, hn2, hn3⟩ := hnd
  have hFc := va_free (wc := w) hD hS hA isC hC
  have hPw : va_P D vwCl w H := hP.sub isC (kMF hC)
  have hDw := hD.sub isC hn1 hC
  refine va_callv (va_runS S hM cw ⟨kBlind, fun U hU hW => ⟨rfl, by rw [hU], by rw [hU]; exact hPw, va_K.moved hW.alike hK, hDw.weaken (fun _ _ _ _ => trivial), hN.warm hW⟩⟩ rfl hn hsize hstack (lv_room hW) hdg hf) hS (fun q _ h => hFc q h) hFc (fun u t H1 locs1 ht hvm hw hB hz1 hk1 hS1 => ?_)
  obtain ⟨hP1, hK1, hD1⟩ := hB
  rw [ht] at hP1
  obtain ⟨hP2, hD2⟩ := va_join hP hD isC isR hC hR hn2 hdis hk1 hFc hP1 hD1
  exact kk H1 locs1 (hP2.sub pm (kMF hpm)) (hD2.sub pm hn3 hpm) hS1
theorem kRi {v : Int32} (hx : p.tables.exec = Jvm.exec) (hb : c.code = cc) (hr : meth.sig.returnType = some .int) (hlocks : meth.locks = false) (hP : va_P D vwCl w H) (hK : va_K D vwCl (kTy cyI cyZ) s) (hD : va_D A w) (hS : va_S A s.heap H locs) (hv : v = r) (hdg : decode cc pc = .ok (.ireturn, 1)) :
    W p l e R s m args below meth c H locs cells slots (MQ below (kQi D cyI cyZ A w r) args s cells slots A) (F0 m pc ls [.int v]) :=
  W.iret hx hb hr (fun t ht hW => ⟨⟨v, (), rfl, hv, by rw [ht]; exact hP, va_K.moved hW.alike hK, hD⟩, hS.F ht⟩) hS.2.2 hdg hlocks
theorem kRz {v : Int32} (hx : p.tables.exec = Jvm.exec) (hb : c.code = cc) (hr : meth.sig.returnType = some .boolean) (hlocks : meth.locks = false) (hP : va_P D vwCl w H) (hK : va_K D vwCl (kTy cyI cyZ) s) (hD : va_D A w) (hS : va_S A s.heap H locs) (hz : narrow .boolean (.int v) = .int v) (hv : v = r) (hdg : decode cc pc = .ok (.ireturn, 1)) :
    W p l e R s m args below meth c H locs cells slots (MQ below (kQi D cyI cyZ A w r) args s cells slots A) (F0 m pc ls [.int v]) :=
  W.zret hx hb hr hz (fun t ht hW => ⟨⟨v, (), rfl, hv, by rw [ht]; exact hP, va_K.moved hW.alike hK, hD⟩, hS.F ht⟩) hS.2.2 hdg hlocks
theorem kRv (hx : p.tables.exec = Jvm.exec) (hb : c.code = cc) (hr : meth.sig.returnType = none) (hlocks : meth.locks = false) (hP : va_P D vwCl w H) (hK : va_K D vwCl (kTy cyI cyZ) s) (hD : va_D A w) (hS : va_S A s.heap H locs) (hdg : decode cc pc = .ok (.return_, 1)) :
    W p l e R s m args below meth c H locs cells slots (MQ below (kQv D cyI cyZ A w) args s cells slots A) (F0 m pc ls []) :=
  W.vret hx hb hr (fun t ht hW => ⟨⟨(), rfl, trivial, by rw [ht]; exact hP, va_K.moved hW.alike hK, hD⟩, hS.F ht⟩) hS.2.2 hdg hlocks
theorem k_irem (hx : p.tables.exec = Jvm.exec) (hb : c.code = cc) {x y : Int32} (hdg : decode cc pc = .ok (.irem, 1)) (hne : ¬ y = 0)
    (k : W p l e R s m args below meth c H locs cells slots Q (F0 m (pc + 1) ls (.int (irem x y) :: rest))) : W p l e R s m args below meth c H locs cells slots Q (F0 m pc ls (.int y :: .int x :: rest)) := lv_irem hx hb hdg hne k
theorem k_ishl (hx : p.tables.exec = Jvm.exec) (hb : c.code = cc) {x y : Int32} (hdg : decode cc pc = .ok (.ishl, 1))
    (k : W p l e R s m args below meth c H locs cells slots Q (F0 m (pc + 1) ls (.int (ishl x y) :: rest))) : W p l e R s m args below meth c H locs cells slots Q (F0 m pc ls (.int y :: .int x :: rest)) := lv_ishl hx hb hdg k
theorem k_ishr (hx : p.tables.exec = Jvm.exec) (hb : c.code = cc) {x y : Int32} (hdg : decode cc pc = .ok (.ishr, 1))
    (k : W p l e R s m args below meth c H locs cells slots Q (F0 m (pc + 1) ls (.int (ishr x y) :: rest))) : W p l e R s m args below meth c H locs cells slots Q (F0 m pc ls (.int y :: .int x :: rest)) := lv_ishr hx hb hdg k
theorem k_iushr (hx : p.tables.exec = Jvm.exec) (hb : c.code = cc) {x y : Int32} (hdg : decode cc pc = .ok (.iushr, 1))
    (k : W p l e R s m args below meth c H locs cells slots Q (F0 m (pc + 1) ls (.int (iushr x y) :: rest))) : W p l e R s m args below meth c H locs cells slots Q (F0 m pc ls (.int y :: .int x :: rest)) := lv_iushr hx hb hdg rfl k
theorem k_look3 {x a1 a2 a3 : Int32} {n1 n2 n3 o1 o2 o3 d : Int} (e1 : a1.toInt = n1) (e2 : a2.toInt = n2) (e3 : a3.toInt = n3) (h1 : ¬ x = a1) (h2 : ¬ x = a2) (h3 : ¬ x = a3) : Op.lookupswitch.offset [(n1, o1), (n2, o2), (n3, o3)] d x.toInt = d := by
  have f : ∀ a : Int32, ¬ x = a → ¬ a.toInt = x.toInt := fun a h q => h (Int32.toInt_inj.mp q.symm)
  rw [Op.lookupswitch.offset_cons, if_neg (by rw [← e1]; exact f a1 h1), Op.lookupswitch.offset_cons, if_neg (by rw [← e2]; exact f a2 h2), Op.lookupswitch.offset_cons, if_neg (by rw [← e3]; exact f a3 h3)]
  rfl
theorem k_mmax (hexec : p.tables.exec = Jvm.exec) (hb : c.code = cc) (hml : c.maxLocals = ls.size) {own : String} {index : Nat} (hown : s.vm.findClass own = some m.cls) (hlink : (Cond.methodLink own index Lib.Math.max.name).before args s = true) (hstat : (Cond.static Lib.Math.max.name).before args s = true) (hini : (Cond.initialized "java/lang/Math").before args s = true) (hcode : (Cond.code Lib.Math.max.name Lib.Math.max.code 2 (some .int)).before args s = true)
    (hframes : 1 ≤ R.frames) (hlocals : (rest.map fun v => v.category).sum + 13 ≤ R.locals) (hc : cells ≤ R.cells) (hs : slots ≤ R.slots) {x y : Int32} (hdg : decode cc pc = .ok (.invokestatic index, 3))
    (kk : W p l e R s m args below meth c H locs cells slots Q (F0 m (pc + 3) ls (.int (imax x y) :: rest))) : W p l e R s m args below meth c H locs cells slots Q (F0 m pc ls (.int y :: .int x :: rest)) := va_mmax hexec hb hml hown hlink hstat hini hcode hframes hlocals hc hs hdg kk
theorem k_mmin (hexec : p.tables.exec = Jvm.exec) (hb : c.code = cc) (hml : c.maxLocals = ls.size) {own : String} {index : Nat} (hown : s.vm.findClass own = some m.cls) (hlink : (Cond.methodLink own index Lib.Math.min.name).before args s = true) (hstat : (Cond.static Lib.Math.min.name).before args s = true) (hini : (Cond.initialized "java/lang/Math").before args s = true) (hcode : (Cond.code Lib.Math.min.name Lib.Math.min.code 2 (some .int)).before args s = true)
    (hframes : 1 ≤ R.frames) (hlocals : (rest.map fun v => v.category).sum + 13 ≤ R.locals) (hc : cells ≤ R.cells) (hs : slots ≤ R.slots) {x y : Int32} (hdg : decode cc pc = .ok (.invokestatic index, 3))
    (kk : W p l e R s m args below meth c H locs cells slots Q (F0 m (pc + 3) ls (.int (imin x y) :: rest))) : W p l e R s m args below meth c H locs cells slots Q (F0 m pc ls (.int y :: .int x :: rest)) := va_mmin hexec hb hml hown hlink hstat hini hcode hframes hlocals hc hs hdg kk
theorem k_mabs (hexec : p.tables.exec = Jvm.exec) (hb : c.code = cc) (hml : c.maxLocals = ls.size) {own : String} {index : Nat} (hown : s.vm.findClass own = some m.cls) (hlink : (Cond.methodLink own index Lib.Math.abs.name).before args s = true) (hstat : (Cond.static Lib.Math.abs.name).before args s = true) (hini : (Cond.initialized "java/lang/Math").before args s = true) (hcode : (Cond.code Lib.Math.abs.name Lib.Math.abs.code 1 (some .int)).before args s = true)
    (hframes : 1 ≤ R.frames) (hlocals : (rest.map fun v => v.category).sum + 13 ≤ R.locals) (hc : cells ≤ R.cells) (hs : slots ≤ R.slots) {x : Int32} (hdg : decode cc pc = .ok (.invokestatic index, 3))
    (kk : W p l e R s m args below meth c H locs cells slots Q (F0 m (pc + 3) ls (.int (iabs x) :: rest))) : W p l e R s m args below meth c H locs cells slots Q (F0 m pc ls (.int x :: rest)) := va_mabs hexec hb hml hown hlink hstat hini hcode hframes hlocals hc hs hdg kk
end KC
