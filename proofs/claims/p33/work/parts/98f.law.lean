/-! ===== the law ===== -/
theorem bnd20_e {A1 A2 A3 A4 A5 A6 A7 A8 A9 A10 A11 A12 A13 A14 A15 A16 A17 A18 A19 A20 δ : Type} {a1 : A1} {a2 : A2} {a3 : A3} {a4 : A4} {a5 : A5} {a6 : A6} {a7 : A7} {a8 : A8} {a9 : A9} {a10 : A10} {a11 : A11} {a12 : A12} {a13 : A13} {a14 : A14} {a15 : A15} {a16 : A16} {a17 : A17} {a18 : A18} {a19 : A19} {a20 : A20} {f : A1 → A2 → A3 → A4 → A5 → A6 → A7 → A8 → A9 → A10 → A11 → A12 → A13 → A14 → A15 → A16 → A17 → A18 → A19 → A20 → Option δ} : bnd20 (some (a1, a2, a3, a4, a5, a6, a7, a8, a9, a10, a11, a12, a13, a14, a15, a16, a17, a18, a19, a20)) f = f a1 a2 a3 a4 a5 a6 a7 a8 a9 a10 a11 a12 a13 a14 a15 a16 a17 a18 a19 a20 := rfl
theorem it20_inv {A1 A2 A3 A4 A5 A6 A7 A8 A9 A10 A11 A12 A13 A14 A15 A16 A17 A18 A19 A20 δ : Type} {F : (A1 → A2 → A3 → A4 → A5 → A6 → A7 → A8 → A9 → A10 → A11 → A12 → A13 → A14 → A15 → A16 → A17 → A18 → A19 → A20 → Option δ) → A1 → A2 → A3 → A4 → A5 → A6 → A7 → A8 → A9 → A10 → A11 → A12 → A13 → A14 → A15 → A16 → A17 → A18 → A19 → A20 → Option δ} {x1 : A1} {x2 : A2} {x3 : A3} {x4 : A4} {x5 : A5} {x6 : A6} {x7 : A7} {x8 : A8} {x9 : A9} {x10 : A10} {x11 : A11} {x12 : A12} {x13 : A13} {x14 : A14} {x15 : A15} {x16 : A16} {x17 : A17} {x18 : A18} {x19 : A19} {x20 : A20} (I : Nat → A1 → A2 → A3 → A4 → A5 → A6 → A7 → A8 → A9 → A10 → A11 → A12 → A13 → A14 → A15 → A16 → A17 → A18 → A19 → A20 → Prop) (Q : Option δ → Prop) (e : Nat)
    (hs : ∀ (K : A1 → A2 → A3 → A4 → A5 → A6 → A7 → A8 → A9 → A10 → A11 → A12 → A13 → A14 → A15 → A16 → A17 → A18 → A19 → A20 → Option δ) (i : Nat) (x1 : A1) (x2 : A2) (x3 : A3) (x4 : A4) (x5 : A5) (x6 : A6) (x7 : A7) (x8 : A8) (x9 : A9) (x10 : A10) (x11 : A11) (x12 : A12) (x13 : A13) (x14 : A14) (x15 : A15) (x16 : A16) (x17 : A17) (x18 : A18) (x19 : A19) (x20 : A20), i < e → I i x1 x2 x3 x4 x5 x6 x7 x8 x9 x10 x11 x12 x13 x14 x15 x16 x17 x18 x19 x20 → ∃ (y1 : A1) (y2 : A2) (y3 : A3) (y4 : A4) (y5 : A5) (y6 : A6) (y7 : A7) (y8 : A8) (y9 : A9) (y10 : A10) (y11 : A11) (y12 : A12) (y13 : A13) (y14 : A14) (y15 : A15) (y16 : A16) (y17 : A17) (y18 : A18) (y19 : A19) (y20 : A20), F K x1 x2 x3 x4 x5 x6 x7 x8 x9 x10 x11 x12 x13 x14 x15 x16 x17 x18 x19 x20 = K y1 y2 y3 y4 y5 y6 y7 y8 y9 y10 y11 y12 y13 y14 y15 y16 y17 y18 y19 y20 ∧ I (i + 1) y1 y2 y3 y4 y5 y6 y7 y8 y9 y10 y11 y12 y13 y14 y15 y16 y17 y18 y19 y20) (he : ∀ (K : A1 → A2 → A3 → A4 → A5 → A6 → A7 → A8 → A9 → A10 → A11 → A12 → A13 → A14 → A15 → A16 → A17 → A18 → A19 → A20 → Option δ) (x1 : A1) (x2 : A2) (x3 : A3) (x4 : A4) (x5 : A5) (x6 : A6) (x7 : A7) (x8 : A8) (x9 : A9) (x10 : A10) (x11 : A11) (x12 : A12) (x13 : A13) (x14 : A14) (x15 : A15) (x16 : A16) (x17 : A17) (x18 : A18) (x19 : A19) (x20 : A20), I e x1 x2 x3 x4 x5 x6 x7 x8 x9 x10 x11 x12 x13 x14 x15 x16 x17 x18 x19 x20 → Q (F K x1 x2 x3 x4 x5 x6 x7 x8 x9 x10 x11 x12 x13 x14 x15 x16 x17 x18 x19 x20)) (h0 : I 0 x1 x2 x3 x4 x5 x6 x7 x8 x9 x10 x11 x12 x13 x14 x15 x16 x17 x18 x19 x20) {n : Nat} (hn : e < n) : Q (it20 F n x1 x2 x3 x4 x5 x6 x7 x8 x9 x10 x11 x12 x13 x14 x15 x16 x17 x18 x19 x20) := by
  have key : ∀ (n i : Nat) (x1 : A1) (x2 : A2) (x3 : A3) (x4 : A4) (x5 : A5) (x6 : A6) (x7 : A7) (x8 : A8) (x9 : A9) (x10 : A10) (x11 : A11) (x12 : A12) (x13 : A13) (x14 : A14) (x15 : A15) (x16 : A16) (x17 : A17) (x18 : A18) (x19 : A19) (x20 : A20), i ≤ e → e < i + n → I i x1 x2 x3 x4 x5 x6 x7 x8 x9 x10 x11 x12 x13 x14 x15 x16 x17 x18 x19 x20 → Q (it20 F n x1 x2 x3 x4 x5 x6 x7 x8 x9 x10 x11 x12 x13 x14 x15 x16 x17 x18 x19 x20) := by
    intro n
    induction n with
    | zero => intro i x1 x2 x3 x4 x5 x6 x7 x8 x9 x10 x11 x12 x13 x14 x15 x16 x17 x18 x19 x20 h1 h2; omega
    | succ n ih =>
      intro i x1 x2 x3 x4 x5 x6 x7 x8 x9 x10 x11 x12 x13 x14 x15 x16 x17 x18 x19 x20 h1 h2 hi
      show Q (F (it20 F n) x1 x2 x3 x4 x5 x6 x7 x8 x9 x10 x11 x12 x13 x14 x15 x16 x17 x18 x19 x20)
      rcases Nat.lt_or_ge i e with q | q
      · obtain ⟨y1, y2, y3, y4, y5, y6, y7, y8, y9, y10, y11, y12, y13, y14, y15, y16, y17, y18, y19, y20, e1, e2⟩ := hs (it20 F n) i x1 x2 x3 x4 x5 x6 x7 x8 x9 x10 x11 x12 x13 x14 x15 x16 x17 x18 x19 x20 q hi
        rw [e1]
        exact ih (i + 1) y1 y2 y3 y4 y5 y6 y7 y8 y9 y10 y11 y12 y13 y14 y15 y16 y17 y18 y19 y20 (by omega) (by omega) e2
      · have e1 : i = e := by omega
        subst e1
        exact he _ x1 x2 x3 x4 x5 x6 x7 x8 x9 x10 x11 x12 x13 x14 x15 x16 x17 x18 x19 x20 hi
  exact key n 0 x1 x2 x3 x4 x5 x6 x7 x8 x9 x10 x11 x12 x13 x14 x15 x16 x17 x18 x19 x20 (Nat.zero_le _) (by omega) h0

theorem it25_inv {A1 A2 A3 A4 A5 A6 A7 A8 A9 A10 A11 A12 A13 A14 A15 A16 A17 A18 A19 A20 A21 A22 A23 A24 A25 δ : Type} {F : (A1 → A2 → A3 → A4 → A5 → A6 → A7 → A8 → A9 → A10 → A11 → A12 → A13 → A14 → A15 → A16 → A17 → A18 → A19 → A20 → A21 → A22 → A23 → A24 → A25 → Option δ) → A1 → A2 → A3 → A4 → A5 → A6 → A7 → A8 → A9 → A10 → A11 → A12 → A13 → A14 → A15 → A16 → A17 → A18 → A19 → A20 → A21 → A22 → A23 → A24 → A25 → Option δ} {x1 : A1} {x2 : A2} {x3 : A3} {x4 : A4} {x5 : A5} {x6 : A6} {x7 : A7} {x8 : A8} {x9 : A9} {x10 : A10} {x11 : A11} {x12 : A12} {x13 : A13} {x14 : A14} {x15 : A15} {x16 : A16} {x17 : A17} {x18 : A18} {x19 : A19} {x20 : A20} {x21 : A21} {x22 : A22} {x23 : A23} {x24 : A24} {x25 : A25} (I : Nat → A1 → A2 → A3 → A4 → A5 → A6 → A7 → A8 → A9 → A10 → A11 → A12 → A13 → A14 → A15 → A16 → A17 → A18 → A19 → A20 → A21 → A22 → A23 → A24 → A25 → Prop) (Q : Option δ → Prop) (e : Nat)
    (hs : ∀ (K : A1 → A2 → A3 → A4 → A5 → A6 → A7 → A8 → A9 → A10 → A11 → A12 → A13 → A14 → A15 → A16 → A17 → A18 → A19 → A20 → A21 → A22 → A23 → A24 → A25 → Option δ) (i : Nat) (x1 : A1) (x2 : A2) (x3 : A3) (x4 : A4) (x5 : A5) (x6 : A6) (x7 : A7) (x8 : A8) (x9 : A9) (x10 : A10) (x11 : A11) (x12 : A12) (x13 : A13) (x14 : A14) (x15 : A15) (x16 : A16) (x17 : A17) (x18 : A18) (x19 : A19) (x20 : A20) (x21 : A21) (x22 : A22) (x23 : A23) (x24 : A24) (x25 : A25), i < e → I i x1 x2 x3 x4 x5 x6 x7 x8 x9 x10 x11 x12 x13 x14 x15 x16 x17 x18 x19 x20 x21 x22 x23 x24 x25 → ∃ (y1 : A1) (y2 : A2) (y3 : A3) (y4 : A4) (y5 : A5) (y6 : A6) (y7 : A7) (y8 : A8) (y9 : A9) (y10 : A10) (y11 : A11) (y12 : A12) (y13 : A13) (y14 : A14) (y15 : A15) (y16 : A16) (y17 : A17) (y18 : A18) (y19 : A19) (y20 : A20) (y21 : A21) (y22 : A22) (y23 : A23) (y24 : A24) (y25 : A25), F K x1 x2 x3 x4 x5 x6 x7 x8 x9 x10 x11 x12 x13 x14 x15 x16 x17 x18 x19 x20 x21 x22 x23 x24 x25 = K y1 y2 y3 y4 y5 y6 y7 y8 y9 y10 y11 y12 y13 y14 y15 y16 y17 y18 y19 y20 y21 y22 y23 y24 y25 ∧ I (i + 1) y1 y2 y3 y4 y5 y6 y7 y8 y9 y10 y11 y12 y13 y14 y15 y16 y17 y18 y19 y20 y21 y22 y23 y24 y25) (he : ∀ (K : A1 → A2 → A3 → A4 → A5 → A6 → A7 → A8 → A9 → A10 → A11 → A12 → A13 → A14 → A15 → A16 → A17 → A18 → A19 → A20 → A21 → A22 → A23 → A24 → A25 → Option δ) (x1 : A1) (x2 : A2) (x3 : A3) (x4 : A4) (x5 : A5) (x6 : A6) (x7 : A7) (x8 : A8) (x9 : A9) (x10 : A10) (x11 : A11) (x12 : A12) (x13 : A13) (x14 : A14) (x15 : A15) (x16 : A16) (x17 : A17) (x18 : A18) (x19 : A19) (x20 : A20) (x21 : A21) (x22 : A22) (x23 : A23) (x24 : A24) (x25 : A25), I e x1 x2 x3 x4 x5 x6 x7 x8 x9 x10 x11 x12 x13 x14 x15 x16 x17 x18 x19 x20 x21 x22 x23 x24 x25 → Q (F K x1 x2 x3 x4 x5 x6 x7 x8 x9 x10 x11 x12 x13 x14 x15 x16 x17 x18 x19 x20 x21 x22 x23 x24 x25)) (h0 : I 0 x1 x2 x3 x4 x5 x6 x7 x8 x9 x10 x11 x12 x13 x14 x15 x16 x17 x18 x19 x20 x21 x22 x23 x24 x25) {n : Nat} (hn : e < n) : Q (it25 F n x1 x2 x3 x4 x5 x6 x7 x8 x9 x10 x11 x12 x13 x14 x15 x16 x17 x18 x19 x20 x21 x22 x23 x24 x25) := by
  have key : ∀ (n i : Nat) (x1 : A1) (x2 : A2) (x3 : A3) (x4 : A4) (x5 : A5) (x6 : A6) (x7 : A7) (x8 : A8) (x9 : A9) (x10 : A10) (x11 : A11) (x12 : A12) (x13 : A13) (x14 : A14) (x15 : A15) (x16 : A16) (x17 : A17) (x18 : A18) (x19 : A19) (x20 : A20) (x21 : A21) (x22 : A22) (x23 : A23) (x24 : A24) (x25 : A25), i ≤ e → e < i + n → I i x1 x2 x3 x4 x5 x6 x7 x8 x9 x10 x11 x12 x13 x14 x15 x16 x17 x18 x19 x20 x21 x22 x23 x24 x25 → Q (it25 F n x1 x2 x3 x4 x5 x6 x7 x8 x9 x10 x11 x12 x13 x14 x15 x16 x17 x18 x19 x20 x21 x22 x23 x24 x25) := by
    intro n
    induction n with
    | zero => intro i x1 x2 x3 x4 x5 x6 x7 x8 x9 x10 x11 x12 x13 x14 x15 x16 x17 x18 x19 x20 x21 x22 x23 x24 x25 h1 h2; omega
    | succ n ih =>
      intro i x1 x2 x3 x4 x5 x6 x7 x8 x9 x10 x11 x12 x13 x14 x15 x16 x17 x18 x19 x20 x21 x22 x23 x24 x25 h1 h2 hi
      show Q (F (it25 F n) x1 x2 x3 x4 x5 x6 x7 x8 x9 x10 x11 x12 x13 x14 x15 x16 x17 x18 x19 x20 x21 x22 x23 x24 x25)
      rcases Nat.lt_or_ge i e with q | q
      · obtain ⟨y1, y2, y3, y4, y5, y6, y7, y8, y9, y10, y11, y12, y13, y14, y15, y16, y17, y18, y19, y20, y21, y22, y23, y24, y25, e1, e2⟩ := hs (it25 F n) i x1 x2 x3 x4 x5 x6 x7 x8 x9 x10 x11 x12 x13 x14 x15 x16 x17 x18 x19 x20 x21 x22 x23 x24 x25 q hi
        rw [e1]
        exact ih (i + 1) y1 y2 y3 y4 y5 y6 y7 y8 y9 y10 y11 y12 y13 y14 y15 y16 y17 y18 y19 y20 y21 y22 y23 y24 y25 (by omega) (by omega) e2
      · have e1 : i = e := by omega
        subst e1
        exact he _ x1 x2 x3 x4 x5 x6 x7 x8 x9 x10 x11 x12 x13 x14 x15 x16 x17 x18 x19 x20 x21 x22 x23 x24 x25 hi
  exact key n 0 x1 x2 x3 x4 x5 x6 x7 x8 x9 x10 x11 x12 x13 x14 x15 x16 x17 x18 x19 x20 x21 x22 x23 x24 x25 (Nat.zero_le _) (by omega) h0

/-- what one turn of the inner loop comes to -/
def StpQ (K : Int32 → Int32 → Int32 → Int32 → Int32 → (Nat → Int32) → Int32 → Int32 → (Nat → Int32) → (Nat → Int32) → (Nat → Int32) → Int32 → (Nat → Int32) → (Nat → Int32) → (Nat → Int32) → (Nat → Int32) → (Nat → Int32) → (Nat → Int32) → (Nat → Int32) → (Nat → Int32) → Option (Int32 × Int32 × Int32 × Int32 × (Nat → Int32) × Int32 × Int32 × Int32 × Int32 × (Nat → Int32) × Int32 × Int32 × (Nat → Int32) × (Nat → Int32) × (Nat → Int32) × Int32 × (Nat → Int32) × (Nat → Int32) × (Nat → Int32) × (Nat → Int32) × (Nat → Int32) × (Nat → Int32) × (Nat → Int32) × (Nat → Int32) × (Nat → Int32))) (n : Nat) (kd : Nat → Option St) (r : Option (Int32 × Int32 × Int32 × Int32 × (Nat → Int32) × Int32 × Int32 × Int32 × Int32 × (Nat → Int32) × Int32 × Int32 × (Nat → Int32) × (Nat → Int32) × (Nat → Int32) × Int32 × (Nat → Int32) × (Nat → Int32) × (Nat → Int32) × (Nat → Int32) × (Nat → Int32) × (Nat → Int32) × (Nat → Int32) × (Nat → Int32) × (Nat → Int32))) : Prop := ∃ v' ss' np' dc' dr' da' pc' po' pa' cells' filled' pr' oe' T' coef' prod' cl' ce' a' b', r = K v' ss' np' dc' dr' da' pc' po' pa' cells' filled' pr' oe' T' coef' prod' cl' ce' a' b' ∧ v' = nI (n + 1) ∧ ∃ (d : St) (hs : List St), hs.length ≤ n + 2 ∧ 0 < d.1 + d.2.1 ∧ CS ss' np' dc' dr' da' cells' filled' pr' coef' d hs kd
/-- what one round comes to -/
def RndQ (K : Int32 → Int32 → Int32 → Int32 → (Nat → Int32) → Int32 → Int32 → Int32 → Int32 → (Nat → Int32) → Int32 → Int32 → (Nat → Int32) → (Nat → Int32) → (Nat → Int32) → Int32 → (Nat → Int32) → (Nat → Int32) → (Nat → Int32) → (Nat → Int32) → (Nat → Int32) → (Nat → Int32) → (Nat → Int32) → (Nat → Int32) → (Nat → Int32) → Option (Int32 × Int32 × Int32 × Int32 × (Nat → Int32) × Int32 × Int32 × Int32 × Int32 × (Nat → Int32) × Int32 × Int32 × (Nat → Int32) × (Nat → Int32) × (Nat → Int32) × Int32 × (Nat → Int32) × (Nat → Int32) × (Nat → Int32) × (Nat → Int32) × (Nat → Int32) × (Nat → Int32) × (Nat → Int32) × (Nat → Int32) × (Nat → Int32))) (n : Nat) (r : Option (Int32 × Int32 × Int32 × Int32 × (Nat → Int32) × Int32 × Int32 × Int32 × Int32 × (Nat → Int32) × Int32 × Int32 × (Nat → Int32) × (Nat → Int32) × (Nat → Int32) × Int32 × (Nat → Int32) × (Nat → Int32) × (Nat → Int32) × (Nat → Int32) × (Nat → Int32) × (Nat → Int32) × (Nat → Int32) × (Nat → Int32) × (Nat → Int32))) : Prop := ∃ v' ss' np' tl' tc' ri' rd' dc' dr' da' pc' po' pa' cells' filled' pr' oe' T' coef' prod' cl' ce' arcs' a' b', r = K v' ss' np' tl' tc' ri' rd' dc' dr' da' pc' po' pa' cells' filled' pr' oe' T' coef' prod' cl' ce' arcs' a' b' ∧ v' = nI (n + 1) ∧ ∃ (d : St) (kd : Nat → Option St), CS ss' np' dc' dr' da' cells' filled' pr' coef' d [] kd
theorem W_J4 {ss np dc dr : Int32} {da cells filled : Nat → Int32} {pr : Int32} {coef : Nat → Int32} {d : St} {hs : List St} {kd : Nat → Option St} (h : CS ss np dc dr da cells filled pr coef d hs kd) (hp : 0 < d.1 + d.2.1) {n : Nat} (hl : hs.length ≤ n + 2) (K : Int32 → Int32 → Int32 → Int32 → Int32 → (Nat → Int32) → Int32 → Int32 → (Nat → Int32) → (Nat → Int32) → (Nat → Int32) → Int32 → (Nat → Int32) → (Nat → Int32) → (Nat → Int32) → (Nat → Int32) → (Nat → Int32) → (Nat → Int32) → (Nat → Int32) → (Nat → Int32) → Option (Int32 × Int32 × Int32 × Int32 × (Nat → Int32) × Int32 × Int32 × Int32 × Int32 × (Nat → Int32) × Int32 × Int32 × (Nat → Int32) × (Nat → Int32) × (Nat → Int32) × Int32 × (Nat → Int32) × (Nat → Int32) × (Nat → Int32) × (Nat → Int32) × (Nat → Int32) × (Nat → Int32) × (Nat → Int32) × (Nat → Int32) × (Nat → Int32))) (pc po tl ri rd r : Int32) (pa oe T prod cl ce a b tc arcs : Nat → Int32) : StpQ K n kd (kL_law_J4 K (nI n) oe T coef prod cl ce a b tl tc ri rd arcs r ss np dc dr da pc po pa cells filled pr) := by
  unfold kL_law_J4
  by_cases q : r < 0
  · rw [if_pos q, nI_1]
    exact ⟨_, _, _, _, _, _, _, _, _, _, _, _, _, _, _, _, _, _, _, _, rfl, rfl, d, hs, hl, hp, h⟩
  · rw [if_neg q]
    obtain ⟨pr', oe', T', coef', prod', cl', ce', e, hc⟩ := L_sound h hp oe T prod cl ce
    rw [e, bnd8_e, if_neg n10, nI_1]
    exact ⟨_, _, _, _, _, _, _, _, _, _, _, _, _, _, _, _, _, _, _, _, rfl, rfl, d, hs, hl, hp, hc⟩
theorem W_kink {ss np dc dr : Int32} {da cells filled : Nat → Int32} {pr : Int32} {coef : Nat → Int32} {d : St} {hs : List St} {kd : Nat → Option St} (h : CS ss np dc dr da cells filled pr coef d hs kd) (hp : 0 < d.1 + d.2.1) {n : Nat} (hn : n ≤ 5) (hl : hs.length ≤ n + 1) {j : Nat} (hj : j < d.1) (K : Int32 → Int32 → Int32 → Int32 → Int32 → (Nat → Int32) → Int32 → Int32 → (Nat → Int32) → (Nat → Int32) → (Nat → Int32) → Int32 → (Nat → Int32) → (Nat → Int32) → (Nat → Int32) → (Nat → Int32) → (Nat → Int32) → (Nat → Int32) → (Nat → Int32) → (Nat → Int32) → Option (Int32 × Int32 × Int32 × Int32 × (Nat → Int32) × Int32 × Int32 × Int32 × Int32 × (Nat → Int32) × Int32 × Int32 × (Nat → Int32) × (Nat → Int32) × (Nat → Int32) × Int32 × (Nat → Int32) × (Nat → Int32) × (Nat → Int32) × (Nat → Int32) × (Nat → Int32) × (Nat → Int32) × (Nat → Int32) × (Nat → Int32) × (Nat → Int32))) (pc po tl ri rd : Int32) (pa oe T prod cl ce a b tc arcs : Nat → Int32) : StpQ K n kd (bnd12 (kX9_removeKink (nI j) ss np dc dr da pc po pa cells filled pr) (fun r ss np dc dr da pc po pa cells filled pr => kL_law_J4 K (nI n) oe T coef prod cl ce a b tl tc ri rd arcs r ss np dc dr da pc po pa cells filled pr)) := by
  have hV := h.1
  obtain ⟨r, ss', np', dc', dr', da', pc', po', pa', cells', filled', pr', f1, f2⟩ := h.kink (by omega) hj pc po pa
  rw [f1, bnd12_e]
  have l2 : (d :: hs).length ≤ n + 2 := Nat.succ_le_succ hl
  rcases f2 with ⟨k, k1, k2, ⟨g1, rfl, g2⟩ | ⟨g1, rfl, g2⟩⟩ | ⟨_, rfl, g2⟩
  · obtain ⟨s, hR⟩ := rem_kink hV hj k1 k2 g1
    exact W_J4 (g2 coef) hR.2.2.2.2.1 l2 K pc' po' tl ri rd _ pa' oe T prod cl ce a b tc arcs
  · exact W_J4 g2 hp (by omega) K pc' po' tl ri rd _ pa' oe T prod cl ce a b tc arcs
  · exact W_J4 g2 hp (by omega) K pc' po' tl ri rd _ pa' oe T prod cl ce a b tc arcs
theorem W_bigon {ss np dc dr : Int32} {da cells filled : Nat → Int32} {pr : Int32} {coef : Nat → Int32} {d : St} {hs : List St} {kd : Nat → Option St} (h : CS ss np dc dr da cells filled pr coef d hs kd) (hp : 0 < d.1 + d.2.1) {n : Nat} (hn : n ≤ 5) (hl : hs.length ≤ n + 1) {j w : Nat} (hj : j < d.1) (hw : w < d.1) (hne : j ≠ w) (K : Int32 → Int32 → Int32 → Int32 → Int32 → (Nat → Int32) → Int32 → Int32 → (Nat → Int32) → (Nat → Int32) → (Nat → Int32) → Int32 → (Nat → Int32) → (Nat → Int32) → (Nat → Int32) → (Nat → Int32) → (Nat → Int32) → (Nat → Int32) → (Nat → Int32) → (Nat → Int32) → Option (Int32 × Int32 × Int32 × Int32 × (Nat → Int32) × Int32 × Int32 × Int32 × Int32 × (Nat → Int32) × Int32 × Int32 × (Nat → Int32) × (Nat → Int32) × (Nat → Int32) × Int32 × (Nat → Int32) × (Nat → Int32) × (Nat → Int32) × (Nat → Int32) × (Nat → Int32) × (Nat → Int32) × (Nat → Int32) × (Nat → Int32) × (Nat → Int32))) (pc po tl ri rd : Int32) (pa oe T prod cl ce a b tc arcs : Nat → Int32) : StpQ K n kd (bnd12 (kX9_removeBigon (nI j) (nI w) ss np dc dr da pc po pa cells filled pr) (fun r ss np dc dr da pc po pa cells filled pr => kL_law_J4 K (nI n) oe T coef prod cl ce a b tl tc ri rd arcs r ss np dc dr da pc po pa cells filled pr)) := by
  have hV := h.1
  obtain ⟨r, ss', np', dc', dr', da', pc', po', pa', cells', filled', pr', f1, f2⟩ := h.bigon (by omega) hj hw hne pc po pa
  rw [f1, bnd12_e]
  have l2 : (d :: hs).length ≤ n + 2 := Nat.succ_le_succ hl
  rcases f2 with ⟨k, k1, k2, ⟨g1, rfl, g2⟩ | ⟨g1, rfl, g2⟩⟩ | ⟨_, rfl, g2⟩
  · exact W_J4 (g2 coef) (rem_bigon hV hj hw hne k1 k2 g1).2.2.2.2.1 l2 K pc' po' tl ri rd _ pa' oe T prod cl ce a b tc arcs
  · exact W_J4 g2 hp (by omega) K pc' po' tl ri rd _ pa' oe T prod cl ce a b tc arcs
  · exact W_J4 g2 hp (by omega) K pc' po' tl ri rd _ pa' oe T prod cl ce a b tc arcs
theorem W_step {ss np dc dr : Int32} {da cells filled : Nat → Int32} {pr : Int32} {coef : Nat → Int32} {d : St} {hs : List St} {kd : Nat → Option St} (h : CS ss np dc dr da cells filled pr coef d hs kd) (hp : 0 < d.1 + d.2.1) {i n ns : Nat} (hi : i < 3) (hn : n < 5) (hns : ns < 2 ^ 31) (f : Nat → Int32) (hl : hs.length ≤ n + 1) (K1 : Int32 → Int32 → Int32 → Int32 → (Nat → Int32) → Int32 → Int32 → Int32 → Int32 → (Nat → Int32) → Int32 → Int32 → (Nat → Int32) → (Nat → Int32) → (Nat → Int32) → Int32 → (Nat → Int32) → (Nat → Int32) → (Nat → Int32) → (Nat → Int32) → (Nat → Int32) → (Nat → Int32) → (Nat → Int32) → (Nat → Int32) → (Nat → Int32) → Option (Int32 × Int32 × Int32 × Int32 × (Nat → Int32) × Int32 × Int32 × Int32 × Int32 × (Nat → Int32) × Int32 × Int32 × (Nat → Int32) × (Nat → Int32) × (Nat → Int32) × Int32 × (Nat → Int32) × (Nat → Int32) × (Nat → Int32) × (Nat → Int32) × (Nat → Int32) × (Nat → Int32) × (Nat → Int32) × (Nat → Int32) × (Nat → Int32))) (K : Int32 → Int32 → Int32 → Int32 → Int32 → (Nat → Int32) → Int32 → Int32 → (Nat → Int32) → (Nat → Int32) → (Nat → Int32) → Int32 → (Nat → Int32) → (Nat → Int32) → (Nat → Int32) → (Nat → Int32) → (Nat → Int32) → (Nat → Int32) → (Nat → Int32) → (Nat → Int32) → Option (Int32 × Int32 × Int32 × Int32 × (Nat → Int32) × Int32 × Int32 × Int32 × Int32 × (Nat → Int32) × Int32 × Int32 × (Nat → Int32) × (Nat → Int32) × (Nat → Int32) × Int32 × (Nat → Int32) × (Nat → Int32) × (Nat → Int32) × (Nat → Int32) × (Nat → Int32) × (Nat → Int32) × (Nat → Int32) × (Nat → Int32) × (Nat → Int32))) (was : Int64) (pc po tl ri rd : Int32) (pa oe T prod cl ce a b tc arcs : Nat → Int32) : StpQ K n kd (kL_law_L3 (nI i) tl tc ri rd arcs was K1 ns f 64 64 K (nI n) ss np dc dr da pc po pa cells filled pr oe T coef prod cl ce a b) := by
  have e15 : (15 * nI i + nI n : Int32) = nI (15 * i + n) := by rw [fa_lit 15, pk_mul, nI_add]
  obtain ⟨x, ex⟩ := L_cell f hns (k := 15 * i + n) (by omega)
  unfold kL_law_L3
  rw [if_neg (show ¬ 5 ≤ nI n from nI_ge (b := 5) hn (by omega)), e15, ex, bnd1_e]
  obtain ⟨ss', np', dc', dr', da', pc', po', pa', cells', filled', pr', oe', T', coef', prod', cl', ce', a', b', e1, c1⟩ := L_removes h (by omega) hp (ishr x 3) pc po pa oe T prod cl ce a b
  rw [e1, bnd20_e, if_neg n10]
  have c2 := c1
  obtain ⟨hV, rfl, rfl, hA, _⟩ := c2
  have h8 := hV.1
  obtain ⟨j, hj, ej⟩ := L_low (ishr x 3) (m := d.1 + 1) (by omega) (by omega)
  unfold kX9_crossingCount
  rw [bnd1_e, nI_1, ej, bnd1_e]
  by_cases q : j = d.1
  · have big : nI j < 0 ∨ nI d.1 ≤ nI j := Or.inr (by rw [q]; exact Int32.le_refl _)
    rw [o_bigonPartnerNo big, bnd1_e, if_pos (by decide), o_kinkNo rfl big, bnd12_e]
    exact W_J4 c1 hp (by omega) K pc' po' tl ri rd _ pa' oe' T' prod' cl' ce' a' b' tc arcs
  · have hv : j < d.1 := by omega
    rcases o_bigonPartner hV hA hv with ⟨w, w1, w2, e⟩ | ⟨_, e⟩
    · rw [e, bnd1_e, if_neg (nI_pos (by omega))]
      exact W_bigon c1 hp (by omega) hl hv w1 (fun z => w2.1 z.symm) K pc' po' tl ri rd pa' oe' T' prod' cl' ce' a' b' tc arcs
    · rw [e, bnd1_e, if_pos (by decide)]
      exact W_kink c1 hp (by omega) hl hv K pc' po' tl ri rd pa' oe' T' prod' cl' ce' a' b' tc arcs
theorem W_exit {ss np dc dr : Int32} {da cells filled : Nat → Int32} {pr : Int32} {coef : Nat → Int32} {d : St} {hs : List St} {kd : Nat → Option St} (h : CS ss np dc dr da cells filled pr coef d hs kd) {i ns : Nat} (hi : i < 3) (f : Nat → Int32) {d0 : St} (hk : kd (i % 2) = some d0) (K1 : Int32 → Int32 → Int32 → Int32 → (Nat → Int32) → Int32 → Int32 → Int32 → Int32 → (Nat → Int32) → Int32 → Int32 → (Nat → Int32) → (Nat → Int32) → (Nat → Int32) → Int32 → (Nat → Int32) → (Nat → Int32) → (Nat → Int32) → (Nat → Int32) → (Nat → Int32) → (Nat → Int32) → (Nat → Int32) → (Nat → Int32) → (Nat → Int32) → Option (Int32 × Int32 × Int32 × Int32 × (Nat → Int32) × Int32 × Int32 × Int32 × Int32 × (Nat → Int32) × Int32 × Int32 × (Nat → Int32) × (Nat → Int32) × (Nat → Int32) × Int32 × (Nat → Int32) × (Nat → Int32) × (Nat → Int32) × (Nat → Int32) × (Nat → Int32) × (Nat → Int32) × (Nat → Int32) × (Nat → Int32) × (Nat → Int32))) (K : Int32 → Int32 → Int32 → Int32 → Int32 → (Nat → Int32) → Int32 → Int32 → (Nat → Int32) → (Nat → Int32) → (Nat → Int32) → Int32 → (Nat → Int32) → (Nat → Int32) → (Nat → Int32) → (Nat → Int32) → (Nat → Int32) → (Nat → Int32) → (Nat → Int32) → (Nat → Int32) → Option (Int32 × Int32 × Int32 × Int32 × (Nat → Int32) × Int32 × Int32 × Int32 × Int32 × (Nat → Int32) × Int32 × Int32 × (Nat → Int32) × (Nat → Int32) × (Nat → Int32) × Int32 × (Nat → Int32) × (Nat → Int32) × (Nat → Int32) × (Nat → Int32) × (Nat → Int32) × (Nat → Int32) × (Nat → Int32) × (Nat → Int32) × (Nat → Int32))) (pc po tl ri rd : Int32) (pa oe T prod cl ce a b tc arcs : Nat → Int32) : RndQ K1 i (kL_law_L3 (nI i) tl tc ri rd arcs (hsD d0) K1 ns f 64 64 K (nI 5) ss np dc dr da pc po pa cells filled pr oe T coef prod cl ce a b) := by
  have em : (nI i &&& 1 : Int32) = nI (i % 2) := fa_mask i 1
  obtain ⟨ss', dc', dr', da', pr', e1, c1⟩ := h.restore (k := i % 2) (by omega) hk
  have c2 := c1 coef
  have c3 := c2
  obtain ⟨hV, rfl, rfl, hA, _, rfl, _⟩ := c3
  have h8 := hV.1
  unfold kL_law_L3 kX9_undoDepth
  rw [if_pos (show 5 ≤ nI 5 from Int32.le_refl _), em, e1, bnd6_e, if_neg (nI_pos (by omega)), L_hash hV hA, bnd1_e, lg_self, if_pos rfl, bnd1_e, if_pos (show nI ([] : List St).length = 0 from rfl), c2.undoNo, bnd7_e, if_pos rfl, nI_1]
  exact ⟨_, _, _, _, _, _, _, _, _, _, _, _, _, _, _, _, _, _, _, _, _, _, _, _, _, rfl, rfl, d0, kd, c2⟩
theorem W_J2 {ss np dc dr : Int32} {da cells filled : Nat → Int32} {pr : Int32} {coef : Nat → Int32} {d : St} {kd : Nat → Option St} (h : CS ss np dc dr da cells filled pr coef d [] kd) {i m ns : Nat} (hi : i < 3) (hm : m ≤ 5) (hns : ns < 2 ^ 31) (f : Nat → Int32) (K1 : Int32 → Int32 → Int32 → Int32 → (Nat → Int32) → Int32 → Int32 → Int32 → Int32 → (Nat → Int32) → Int32 → Int32 → (Nat → Int32) → (Nat → Int32) → (Nat → Int32) → Int32 → (Nat → Int32) → (Nat → Int32) → (Nat → Int32) → (Nat → Int32) → (Nat → Int32) → (Nat → Int32) → (Nat → Int32) → (Nat → Int32) → (Nat → Int32) → Option (Int32 × Int32 × Int32 × Int32 × (Nat → Int32) × Int32 × Int32 × Int32 × Int32 × (Nat → Int32) × Int32 × Int32 × (Nat → Int32) × (Nat → Int32) × (Nat → Int32) × Int32 × (Nat → Int32) × (Nat → Int32) × (Nat → Int32) × (Nat → Int32) × (Nat → Int32) × (Nat → Int32) × (Nat → Int32) × (Nat → Int32) × (Nat → Int32))) (tl ri rd pc po : Int32) (tc pa oe T prod cl ce arcs a b : Nat → Int32) : RndQ K1 i (kL_law_J2 64 ns f (nI i) ss np tl tc ri rd dc dr da pc po pa cells filled pr arcs oe T coef prod cl ce a b 64 64 K1 (nI m)) := by
  have e15 : (15 * nI i : Int32) = nI (15 * i) := by rw [fa_lit 15, pk_mul]
  have e12 : (nI (15 * i) + 12 : Int32) = nI (15 * i + 12) := by rw [fa_lit 12, nI_add]
  have e13 : (nI (15 * i) + 13 : Int32) = nI (15 * i + 13) := by rw [fa_lit 13, nI_add]
  have em : (nI i &&& 1 : Int32) = nI (i % 2) := fa_mask i 1
  obtain ⟨x, ex⟩ := L_cell f hns (k := 15 * i + 12) (by omega)
  obtain ⟨y, ey⟩ := L_cell f hns (k := 15 * i + 13) (by omega)
  obtain ⟨ss1, np1, tc1, ri1, rd1, dc1, dr1, da1, pc1, po1, pa1, cells1, filled1, pr1, arcs1, D, f1, hp, g1⟩ := L_load h (Nat.zero_le _) hns f (k := 15 * i) (m := m) (by omega) hm tl ri rd pc po pa tc arcs
  obtain ⟨pr2, oe2, T2, coef2, prod2, cl2, ce2, f2, g2⟩ := L_sound (g1 coef) hp oe T prod cl ce
  obtain ⟨cells3, filled3, f3, g3⟩ := g2.save (k := i % 2) (by omega)
  obtain ⟨ss4, np4, dc4, dr4, da4, pc4, po4, pa4, cells4, filled4, pr4, oe4, T4, coef4, prod4, a4, b4, f4, g4⟩ := L_turns g3 (Nat.succ_le_succ (Nat.zero_le _)) y pc1 po1 pa1 oe2 T2 prod2 a b
  have rf := L_refused g2 x 0 pc1 po1 tc1 pa1 oe2 T2 prod2 cl2 ce2
  have gg := g2
  obtain ⟨hV, rfl, rfl, hA, _⟩ := gg
  unfold kL_law_J2 kX9_crossingCount
  rw [e15, f1, bnd17_e, if_neg n10, f2, bnd8_e, if_neg n10, e12, ex, bnd1_e, rf, bnd20_e, if_neg n10, em, f3, bnd3_e, bnd1_e, if_pos rfl, L_hash hV hA, bnd1_e, e13, ey, bnd1_e, f4, bnd18_e, if_neg n10]
  refine it20_inv (F := kL_law_L3 (nI i) 0 tc1 ri1 rd1 arcs1 (hsD D) K1 ns f 64 64) (x1 := 0) (x2 := ss4) (x3 := np4) (x4 := dc4) (x5 := dr4) (x6 := da4) (x7 := pc4) (x8 := po4) (x9 := pa4) (x10 := cells4) (x11 := filled4) (x12 := pr4) (x13 := oe4) (x14 := T4) (x15 := coef4) (x16 := prod4) (x17 := cl2) (x18 := ce2) (x19 := a4) (x20 := b4) (n := 400) (fun n v ss np dc dr da pc po pa cells filled pr oe T coef prod cl ce a b => v = nI n ∧ ∃ (E : St) (hs : List St), hs.length ≤ n + 1 ∧ 0 < E.1 + E.2.1 ∧ CS ss np dc dr da cells filled pr coef E hs (fun m => if m = i % 2 then some D else kd m)) (fun r => RndQ K1 i r) 5 (fun K n v ss np dc dr da pc po pa cells filled pr oe T coef prod cl ce a b hn hI => ?_) (fun K v ss np dc dr da pc po pa cells filled pr oe T coef prod cl ce a b hI => ?_) ⟨rfl, D, [d], Nat.le_refl _, hp, g4⟩ (by omega)
  · obtain ⟨rfl, E, hs, hl, hp', hc⟩ := hI
    obtain ⟨v', ss', np', dc', dr', da', pc', po', pa', cells', filled', pr', oe', T', coef', prod', cl', ce', a', b', w1, w2, E', hs', w3, w4, w5⟩ := W_step hc hp' hi hn hns f hl K1 K (hsD D) pc po 0 ri1 rd1 pa oe T prod cl ce a b tc1 arcs1
    exact ⟨v', ss', np', dc', dr', da', pc', po', pa', cells', filled', pr', oe', T', coef', prod', cl', ce', a', b', w1, w2, E', hs', w3, w4, w5⟩
  · obtain ⟨rfl, E, hs, hl, hp', hc⟩ := hI
    exact W_exit hc hi f (if_pos rfl) K1 K pc po 0 ri1 rd1 pa oe T prod cl ce a b tc1 arcs1
theorem L_law {ss np dc dr : Int32} {da cells filled : Nat → Int32} {pr : Int32} {coef : Nat → Int32} {d : St} (h : CS ss np dc dr da cells filled pr coef d [] (fun _ => none)) (hp : 0 < d.1 + d.2.1) {ns : Nat} (hns : ns < 2 ^ 31) (f : Nat → Int32) (tl ri rd pc po : Int32) (tc pa oe T prod cl ce arcs a b : Nat → Int32) : ∃ ss' np' tl' tc' ri' rd' dc' dr' da' pc' po' pa' cells' filled' pr' oe' T' coef' prod' cl' ce' arcs' a' b', kL_law 64 64 64 ns f ss np tl tc ri rd dc dr da pc po pa cells filled pr oe T coef prod cl ce arcs a b = some (1, ss', np', tl', tc', ri', rd', dc', dr', da', pc', po', pa', cells', filled', pr', oe', T', coef', prod', cl', ce', arcs', a', b') := by
  obtain ⟨x, ex⟩ := L_cell f hns (k := 0) (by omega)
  obtain ⟨pr2, oe2, T2, coef2, prod2, cl2, ce2, f2, g2⟩ := L_sound h hp oe T prod cl ce
  have rf := L_refused g2 x tl pc po tc pa oe2 T2 prod2 cl2 ce2
  obtain ⟨ss4, np4, dc4, dr4, da4, pc4, po4, pa4, cells4, filled4, pr4, oe4, T4, coef4, prod4, a4, b4, f4, g4⟩ := L_turns g2 (Nat.zero_le _) 1 pc po pa oe2 T2 prod2 a b
  have rs := g4.restoreNone (k := 0) (by omega) rfl
  have ex0 : kL_cell ns f 0 = some x := ex
  have rs0 : kX9_restore 0 ss4 dc4 dr4 da4 cells4 filled4 pr4 = some (-1000002, ss4, dc4, dr4, da4, pr4) := rs
  unfold kL_law
  rw [f2, bnd8_e, if_neg n10, ex0, bnd1_e, rf, bnd20_e, if_neg n10, f4, bnd18_e, if_neg n10, g4.undoNo, bnd7_e, if_pos rfl, rs0, bnd6_e, if_pos rfl]
  refine it25_inv (F := kL_law_L1 64 ns f 64 64) (x1 := 0) (x2 := ss4) (x3 := np4) (x4 := tl) (x5 := tc) (x6 := ri) (x7 := rd) (x8 := dc4) (x9 := dr4) (x10 := da4) (x11 := pc4) (x12 := po4) (x13 := pa4) (x14 := cells4) (x15 := filled4) (x16 := pr4) (x17 := oe4) (x18 := T4) (x19 := coef4) (x20 := prod4) (x21 := cl2) (x22 := ce2) (x23 := arcs) (x24 := a4) (x25 := b4) (n := 400) (fun n v ss np tl tc ri rd dc dr da pc po pa cells filled pr oe T coef prod cl ce arcs a b => v = nI n ∧ ∃ (d : St) (kd : Nat → Option St), CS ss np dc dr da cells filled pr coef d [] kd) (fun r => ∃ ss' np' tl' tc' ri' rd' dc' dr' da' pc' po' pa' cells' filled' pr' oe' T' coef' prod' cl' ce' arcs' a' b', r = some (1, ss', np', tl', tc', ri', rd', dc', dr', da', pc', po', pa', cells', filled', pr', oe', T', coef', prod', cl', ce', arcs', a', b')) 3 (fun K n v ss np tl tc ri rd dc dr da pc po pa cells filled pr oe T coef prod cl ce arcs a b hn hI => ?_) (fun K v ss np tl tc ri rd dc dr da pc po pa cells filled pr oe T coef prod cl ce arcs a b hI => ?_) ⟨rfl, d, _, g4⟩ (by omega)
  · obtain ⟨rfl, E, kd, hc⟩ := hI
    have way : ∀ m, m ≤ 5 → RndQ K n (kL_law_J2 64 ns f (nI n) ss np tl tc ri rd dc dr da pc po pa cells filled pr arcs oe T coef prod cl ce a b 64 64 K (nI m)) := fun m hm => W_J2 hc hn hm hns f K tl ri rd pc po tc pa oe T prod cl ce arcs a b
    have fin : RndQ K n (kL_law_L1 64 ns f 64 64 K (nI n) ss np tl tc ri rd dc dr da pc po pa cells filled pr oe T coef prod cl ce arcs a b) := by
      unfold kL_law_L1
      rw [if_neg (show ¬ 3 ≤ nI n from nI_ge (b := 3) hn (by omega))]
      by_cases q : nI n = 0
      · rw [if_pos q]; exact way 5 (by omega)
      · rw [if_neg q]; exact way 4 (by omega)
    obtain ⟨v', ss', np', tl', tc', ri', rd', dc', dr', da', pc', po', pa', cells', filled', pr', oe', T', coef', prod', cl', ce', arcs', a', b', w1, w2, E', kd', w3⟩ := fin
    exact ⟨v', ss', np', tl', tc', ri', rd', dc', dr', da', pc', po', pa', cells', filled', pr', oe', T', coef', prod', cl', ce', arcs', a', b', w1, w2, E', kd', w3⟩
  · obtain ⟨rfl, E, kd, hc⟩ := hI
    unfold kL_law_L1
    rw [if_pos (show 3 ≤ nI 3 from Int32.le_refl _)]
    exact ⟨_, _, _, _, _, _, _, _, _, _, _, _, _, _, _, _, _, _, _, _, _, _, _, _, rfl⟩
