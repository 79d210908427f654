/-! ===== loops by their trajectories ===== -/
theorem it1_run {A1 δ : Type} {F : (A1 → Option δ) → A1 → Option δ} {res : Option δ} {x1 : A1} (a1 : Nat → A1) (e : Nat)
    (hs : ∀ (K : A1 → Option δ) (i : Nat), i < e → F K (a1 i) = K (a1 (i + 1))) (he : ∀ K : A1 → Option δ, F K (a1 e) = res) (h1 : x1 = a1 0) {n : Nat} (hn : e < n) : it1 F n x1 = res := by
  have key : ∀ (n i : Nat), i ≤ e → e < i + n → it1 F n (a1 i) = res := by
    intro n
    induction n with
    | zero => intro i h1 h2; omega
    | succ n ih =>
      intro i h1 h2
      show F (it1 F n) (a1 i) = res
      rcases Nat.lt_or_ge i e with q | q
      · rw [hs _ i q]
        exact ih (i + 1) (by omega) (by omega)
      · have e1 : i = e := by omega
        subst e1
        exact he _
  rw [h1]
  exact key n 0 (Nat.zero_le _) (by omega)
theorem it2_run {A1 A2 δ : Type} {F : (A1 → A2 → Option δ) → A1 → A2 → Option δ} {res : Option δ} {x1 : A1} {x2 : A2} (a1 : Nat → A1) (a2 : Nat → A2) (e : Nat)
    (hs : ∀ (K : A1 → A2 → Option δ) (i : Nat), i < e → F K (a1 i) (a2 i) = K (a1 (i + 1)) (a2 (i + 1))) (he : ∀ K : A1 → A2 → Option δ, F K (a1 e) (a2 e) = res) (h1 : x1 = a1 0) (h2 : x2 = a2 0) {n : Nat} (hn : e < n) : it2 F n x1 x2 = res := by
  have key : ∀ (n i : Nat), i ≤ e → e < i + n → it2 F n (a1 i) (a2 i) = res := by
    intro n
    induction n with
    | zero => intro i h1 h2; omega
    | succ n ih =>
      intro i h1 h2
      show F (it2 F n) (a1 i) (a2 i) = res
      rcases Nat.lt_or_ge i e with q | q
      · rw [hs _ i q]
        exact ih (i + 1) (by omega) (by omega)
      · have e1 : i = e := by omega
        subst e1
        exact he _
  rw [h1, h2]
  exact key n 0 (Nat.zero_le _) (by omega)
theorem it3_run {A1 A2 A3 δ : Type} {F : (A1 → A2 → A3 → Option δ) → A1 → A2 → A3 → Option δ} {res : Option δ} {x1 : A1} {x2 : A2} {x3 : A3} (a1 : Nat → A1) (a2 : Nat → A2) (a3 : Nat → A3) (e : Nat)
    (hs : ∀ (K : A1 → A2 → A3 → Option δ) (i : Nat), i < e → F K (a1 i) (a2 i) (a3 i) = K (a1 (i + 1)) (a2 (i + 1)) (a3 (i + 1))) (he : ∀ K : A1 → A2 → A3 → Option δ, F K (a1 e) (a2 e) (a3 e) = res) (h1 : x1 = a1 0) (h2 : x2 = a2 0) (h3 : x3 = a3 0) {n : Nat} (hn : e < n) : it3 F n x1 x2 x3 = res := by
  have key : ∀ (n i : Nat), i ≤ e → e < i + n → it3 F n (a1 i) (a2 i) (a3 i) = res := by
    intro n
    induction n with
    | zero => intro i h1 h2; omega
    | succ n ih =>
      intro i h1 h2
      show F (it3 F n) (a1 i) (a2 i) (a3 i) = res
      rcases Nat.lt_or_ge i e with q | q
      · rw [hs _ i q]
        exact ih (i + 1) (by omega) (by omega)
      · have e1 : i = e := by omega
        subst e1
        exact he _
  rw [h1, h2, h3]
  exact key n 0 (Nat.zero_le _) (by omega)
theorem it4_run {A1 A2 A3 A4 δ : Type} {F : (A1 → A2 → A3 → A4 → Option δ) → A1 → A2 → A3 → A4 → Option δ} {res : Option δ} {x1 : A1} {x2 : A2} {x3 : A3} {x4 : A4} (a1 : Nat → A1) (a2 : Nat → A2) (a3 : Nat → A3) (a4 : Nat → A4) (e : Nat)
    (hs : ∀ (K : A1 → A2 → A3 → A4 → Option δ) (i : Nat), i < e → F K (a1 i) (a2 i) (a3 i) (a4 i) = K (a1 (i + 1)) (a2 (i + 1)) (a3 (i + 1)) (a4 (i + 1))) (he : ∀ K : A1 → A2 → A3 → A4 → Option δ, F K (a1 e) (a2 e) (a3 e) (a4 e) = res) (h1 : x1 = a1 0) (h2 : x2 = a2 0) (h3 : x3 = a3 0) (h4 : x4 = a4 0) {n : Nat} (hn : e < n) : it4 F n x1 x2 x3 x4 = res := by
  have key : ∀ (n i : Nat), i ≤ e → e < i + n → it4 F n (a1 i) (a2 i) (a3 i) (a4 i) = res := by
    intro n
    induction n with
    | zero => intro i h1 h2; omega
    | succ n ih =>
      intro i h1 h2
      show F (it4 F n) (a1 i) (a2 i) (a3 i) (a4 i) = res
      rcases Nat.lt_or_ge i e with q | q
      · rw [hs _ i q]
        exact ih (i + 1) (by omega) (by omega)
      · have e1 : i = e := by omega
        subst e1
        exact he _
  rw [h1, h2, h3, h4]
  exact key n 0 (Nat.zero_le _) (by omega)
theorem it5_run {A1 A2 A3 A4 A5 δ : Type} {F : (A1 → A2 → A3 → A4 → A5 → Option δ) → A1 → A2 → A3 → A4 → A5 → Option δ} {res : Option δ} {x1 : A1} {x2 : A2} {x3 : A3} {x4 : A4} {x5 : A5} (a1 : Nat → A1) (a2 : Nat → A2) (a3 : Nat → A3) (a4 : Nat → A4) (a5 : Nat → A5) (e : Nat)
    (hs : ∀ (K : A1 → A2 → A3 → A4 → A5 → Option δ) (i : Nat), i < e → F K (a1 i) (a2 i) (a3 i) (a4 i) (a5 i) = K (a1 (i + 1)) (a2 (i + 1)) (a3 (i + 1)) (a4 (i + 1)) (a5 (i + 1))) (he : ∀ K : A1 → A2 → A3 → A4 → A5 → Option δ, F K (a1 e) (a2 e) (a3 e) (a4 e) (a5 e) = res) (h1 : x1 = a1 0) (h2 : x2 = a2 0) (h3 : x3 = a3 0) (h4 : x4 = a4 0) (h5 : x5 = a5 0) {n : Nat} (hn : e < n) : it5 F n x1 x2 x3 x4 x5 = res := by
  have key : ∀ (n i : Nat), i ≤ e → e < i + n → it5 F n (a1 i) (a2 i) (a3 i) (a4 i) (a5 i) = res := by
    intro n
    induction n with
    | zero => intro i h1 h2; omega
    | succ n ih =>
      intro i h1 h2
      show F (it5 F n) (a1 i) (a2 i) (a3 i) (a4 i) (a5 i) = res
      rcases Nat.lt_or_ge i e with q | q
      · rw [hs _ i q]
        exact ih (i + 1) (by omega) (by omega)
      · have e1 : i = e := by omega
        subst e1
        exact he _
  rw [h1, h2, h3, h4, h5]
  exact key n 0 (Nat.zero_le _) (by omega)
theorem it6_run {A1 A2 A3 A4 A5 A6 δ : Type} {F : (A1 → A2 → A3 → A4 → A5 → A6 → Option δ) → A1 → A2 → A3 → A4 → A5 → A6 → Option δ} {res : Option δ} {x1 : A1} {x2 : A2} {x3 : A3} {x4 : A4} {x5 : A5} {x6 : A6} (a1 : Nat → A1) (a2 : Nat → A2) (a3 : Nat → A3) (a4 : Nat → A4) (a5 : Nat → A5) (a6 : Nat → A6) (e : Nat)
    (hs : ∀ (K : A1 → A2 → A3 → A4 → A5 → A6 → Option δ) (i : Nat), i < e → F K (a1 i) (a2 i) (a3 i) (a4 i) (a5 i) (a6 i) = K (a1 (i + 1)) (a2 (i + 1)) (a3 (i + 1)) (a4 (i + 1)) (a5 (i + 1)) (a6 (i + 1))) (he : ∀ K : A1 → A2 → A3 → A4 → A5 → A6 → Option δ, F K (a1 e) (a2 e) (a3 e) (a4 e) (a5 e) (a6 e) = res) (h1 : x1 = a1 0) (h2 : x2 = a2 0) (h3 : x3 = a3 0) (h4 : x4 = a4 0) (h5 : x5 = a5 0) (h6 : x6 = a6 0) {n : Nat} (hn : e < n) : it6 F n x1 x2 x3 x4 x5 x6 = res := by
  have key : ∀ (n i : Nat), i ≤ e → e < i + n → it6 F n (a1 i) (a2 i) (a3 i) (a4 i) (a5 i) (a6 i) = res := by
    intro n
    induction n with
    | zero => intro i h1 h2; omega
    | succ n ih =>
      intro i h1 h2
      show F (it6 F n) (a1 i) (a2 i) (a3 i) (a4 i) (a5 i) (a6 i) = res
      rcases Nat.lt_or_ge i e with q | q
      · rw [hs _ i q]
        exact ih (i + 1) (by omega) (by omega)
      · have e1 : i = e := by omega
        subst e1
        exact he _
  rw [h1, h2, h3, h4, h5, h6]
  exact key n 0 (Nat.zero_le _) (by omega)
theorem it7_run {A1 A2 A3 A4 A5 A6 A7 δ : Type} {F : (A1 → A2 → A3 → A4 → A5 → A6 → A7 → Option δ) → A1 → A2 → A3 → A4 → A5 → A6 → A7 → Option δ} {res : Option δ} {x1 : A1} {x2 : A2} {x3 : A3} {x4 : A4} {x5 : A5} {x6 : A6} {x7 : A7} (a1 : Nat → A1) (a2 : Nat → A2) (a3 : Nat → A3) (a4 : Nat → A4) (a5 : Nat → A5) (a6 : Nat → A6) (a7 : Nat → A7) (e : Nat)
    (hs : ∀ (K : A1 → A2 → A3 → A4 → A5 → A6 → A7 → Option δ) (i : Nat), i < e → F K (a1 i) (a2 i) (a3 i) (a4 i) (a5 i) (a6 i) (a7 i) = K (a1 (i + 1)) (a2 (i + 1)) (a3 (i + 1)) (a4 (i + 1)) (a5 (i + 1)) (a6 (i + 1)) (a7 (i + 1))) (he : ∀ K : A1 → A2 → A3 → A4 → A5 → A6 → A7 → Option δ, F K (a1 e) (a2 e) (a3 e) (a4 e) (a5 e) (a6 e) (a7 e) = res) (h1 : x1 = a1 0) (h2 : x2 = a2 0) (h3 : x3 = a3 0) (h4 : x4 = a4 0) (h5 : x5 = a5 0) (h6 : x6 = a6 0) (h7 : x7 = a7 0) {n : Nat} (hn : e < n) : it7 F n x1 x2 x3 x4 x5 x6 x7 = res := by
  have key : ∀ (n i : Nat), i ≤ e → e < i + n → it7 F n (a1 i) (a2 i) (a3 i) (a4 i) (a5 i) (a6 i) (a7 i) = res := by
    intro n
    induction n with
    | zero => intro i h1 h2; omega
    | succ n ih =>
      intro i h1 h2
      show F (it7 F n) (a1 i) (a2 i) (a3 i) (a4 i) (a5 i) (a6 i) (a7 i) = res
      rcases Nat.lt_or_ge i e with q | q
      · rw [hs _ i q]
        exact ih (i + 1) (by omega) (by omega)
      · have e1 : i = e := by omega
        subst e1
        exact he _
  rw [h1, h2, h3, h4, h5, h6, h7]
  exact key n 0 (Nat.zero_le _) (by omega)
theorem it8_run {A1 A2 A3 A4 A5 A6 A7 A8 δ : Type} {F : (A1 → A2 → A3 → A4 → A5 → A6 → A7 → A8 → Option δ) → A1 → A2 → A3 → A4 → A5 → A6 → A7 → A8 → Option δ} {res : Option δ} {x1 : A1} {x2 : A2} {x3 : A3} {x4 : A4} {x5 : A5} {x6 : A6} {x7 : A7} {x8 : A8} (a1 : Nat → A1) (a2 : Nat → A2) (a3 : Nat → A3) (a4 : Nat → A4) (a5 : Nat → A5) (a6 : Nat → A6) (a7 : Nat → A7) (a8 : Nat → A8) (e : Nat)
    (hs : ∀ (K : A1 → A2 → A3 → A4 → A5 → A6 → A7 → A8 → Option δ) (i : Nat), i < e → F K (a1 i) (a2 i) (a3 i) (a4 i) (a5 i) (a6 i) (a7 i) (a8 i) = K (a1 (i + 1)) (a2 (i + 1)) (a3 (i + 1)) (a4 (i + 1)) (a5 (i + 1)) (a6 (i + 1)) (a7 (i + 1)) (a8 (i + 1))) (he : ∀ K : A1 → A2 → A3 → A4 → A5 → A6 → A7 → A8 → Option δ, F K (a1 e) (a2 e) (a3 e) (a4 e) (a5 e) (a6 e) (a7 e) (a8 e) = res) (h1 : x1 = a1 0) (h2 : x2 = a2 0) (h3 : x3 = a3 0) (h4 : x4 = a4 0) (h5 : x5 = a5 0) (h6 : x6 = a6 0) (h7 : x7 = a7 0) (h8 : x8 = a8 0) {n : Nat} (hn : e < n) : it8 F n x1 x2 x3 x4 x5 x6 x7 x8 = res := by
  have key : ∀ (n i : Nat), i ≤ e → e < i + n → it8 F n (a1 i) (a2 i) (a3 i) (a4 i) (a5 i) (a6 i) (a7 i) (a8 i) = res := by
    intro n
    induction n with
    | zero => intro i h1 h2; omega
    | succ n ih =>
      intro i h1 h2
      show F (it8 F n) (a1 i) (a2 i) (a3 i) (a4 i) (a5 i) (a6 i) (a7 i) (a8 i) = res
      rcases Nat.lt_or_ge i e with q | q
      · rw [hs _ i q]
        exact ih (i + 1) (by omega) (by omega)
      · have e1 : i = e := by omega
        subst e1
        exact he _
  rw [h1, h2, h3, h4, h5, h6, h7, h8]
  exact key n 0 (Nat.zero_le _) (by omega)
theorem bnd1_e {A1 δ : Type} {a1 : A1} {f : A1 → Option δ} : bnd1 (some a1) f = f a1 := rfl
theorem bnd2_e {A1 A2 δ : Type} {a1 : A1} {a2 : A2} {f : A1 → A2 → Option δ} : bnd2 (some (a1, a2)) f = f a1 a2 := rfl
theorem bnd3_e {A1 A2 A3 δ : Type} {a1 : A1} {a2 : A2} {a3 : A3} {f : A1 → A2 → A3 → Option δ} : bnd3 (some (a1, a2, a3)) f = f a1 a2 a3 := rfl
theorem bnd4_e {A1 A2 A3 A4 δ : Type} {a1 : A1} {a2 : A2} {a3 : A3} {a4 : A4} {f : A1 → A2 → A3 → A4 → Option δ} : bnd4 (some (a1, a2, a3, a4)) f = f a1 a2 a3 a4 := rfl
theorem bnd5_e {A1 A2 A3 A4 A5 δ : Type} {a1 : A1} {a2 : A2} {a3 : A3} {a4 : A4} {a5 : A5} {f : A1 → A2 → A3 → A4 → A5 → Option δ} : bnd5 (some (a1, a2, a3, a4, a5)) f = f a1 a2 a3 a4 a5 := rfl
theorem bnd6_e {A1 A2 A3 A4 A5 A6 δ : Type} {a1 : A1} {a2 : A2} {a3 : A3} {a4 : A4} {a5 : A5} {a6 : A6} {f : A1 → A2 → A3 → A4 → A5 → A6 → Option δ} : bnd6 (some (a1, a2, a3, a4, a5, a6)) f = f a1 a2 a3 a4 a5 a6 := rfl
theorem bnd7_e {A1 A2 A3 A4 A5 A6 A7 δ : Type} {a1 : A1} {a2 : A2} {a3 : A3} {a4 : A4} {a5 : A5} {a6 : A6} {a7 : A7} {f : A1 → A2 → A3 → A4 → A5 → A6 → A7 → Option δ} : bnd7 (some (a1, a2, a3, a4, a5, a6, a7)) f = f a1 a2 a3 a4 a5 a6 a7 := rfl
theorem bnd8_e {A1 A2 A3 A4 A5 A6 A7 A8 δ : Type} {a1 : A1} {a2 : A2} {a3 : A3} {a4 : A4} {a5 : A5} {a6 : A6} {a7 : A7} {a8 : A8} {f : A1 → A2 → A3 → A4 → A5 → A6 → A7 → A8 → Option δ} : bnd8 (some (a1, a2, a3, a4, a5, a6, a7, a8)) f = f a1 a2 a3 a4 a5 a6 a7 a8 := rfl
theorem bnd9_e {A1 A2 A3 A4 A5 A6 A7 A8 A9 δ : Type} {a1 : A1} {a2 : A2} {a3 : A3} {a4 : A4} {a5 : A5} {a6 : A6} {a7 : A7} {a8 : A8} {a9 : A9} {f : A1 → A2 → A3 → A4 → A5 → A6 → A7 → A8 → A9 → Option δ} : bnd9 (some (a1, a2, a3, a4, a5, a6, a7, a8, a9)) f = f a1 a2 a3 a4 a5 a6 a7 a8 a9 := rfl
theorem bnd10_e {A1 A2 A3 A4 A5 A6 A7 A8 A9 A10 δ : Type} {a1 : A1} {a2 : A2} {a3 : A3} {a4 : A4} {a5 : A5} {a6 : A6} {a7 : A7} {a8 : A8} {a9 : A9} {a10 : A10} {f : A1 → A2 → A3 → A4 → A5 → A6 → A7 → A8 → A9 → A10 → Option δ} : bnd10 (some (a1, a2, a3, a4, a5, a6, a7, a8, a9, a10)) f = f a1 a2 a3 a4 a5 a6 a7 a8 a9 a10 := rfl
theorem bnd11_e {A1 A2 A3 A4 A5 A6 A7 A8 A9 A10 A11 δ : Type} {a1 : A1} {a2 : A2} {a3 : A3} {a4 : A4} {a5 : A5} {a6 : A6} {a7 : A7} {a8 : A8} {a9 : A9} {a10 : A10} {a11 : A11} {f : A1 → A2 → A3 → A4 → A5 → A6 → A7 → A8 → A9 → A10 → A11 → Option δ} : bnd11 (some (a1, a2, a3, a4, a5, a6, a7, a8, a9, a10, a11)) f = f a1 a2 a3 a4 a5 a6 a7 a8 a9 a10 a11 := rfl
theorem bnd12_e {A1 A2 A3 A4 A5 A6 A7 A8 A9 A10 A11 A12 δ : Type} {a1 : A1} {a2 : A2} {a3 : A3} {a4 : A4} {a5 : A5} {a6 : A6} {a7 : A7} {a8 : A8} {a9 : A9} {a10 : A10} {a11 : A11} {a12 : A12} {f : A1 → A2 → A3 → A4 → A5 → A6 → A7 → A8 → A9 → A10 → A11 → A12 → Option δ} : bnd12 (some (a1, a2, a3, a4, a5, a6, a7, a8, a9, a10, a11, a12)) f = f a1 a2 a3 a4 a5 a6 a7 a8 a9 a10 a11 a12 := rfl
theorem bnd13_e {A1 A2 A3 A4 A5 A6 A7 A8 A9 A10 A11 A12 A13 δ : Type} {a1 : A1} {a2 : A2} {a3 : A3} {a4 : A4} {a5 : A5} {a6 : A6} {a7 : A7} {a8 : A8} {a9 : A9} {a10 : A10} {a11 : A11} {a12 : A12} {a13 : A13} {f : A1 → A2 → A3 → A4 → A5 → A6 → A7 → A8 → A9 → A10 → A11 → A12 → A13 → Option δ} : bnd13 (some (a1, a2, a3, a4, a5, a6, a7, a8, a9, a10, a11, a12, a13)) f = f a1 a2 a3 a4 a5 a6 a7 a8 a9 a10 a11 a12 a13 := rfl
theorem bnd14_e {A1 A2 A3 A4 A5 A6 A7 A8 A9 A10 A11 A12 A13 A14 δ : Type} {a1 : A1} {a2 : A2} {a3 : A3} {a4 : A4} {a5 : A5} {a6 : A6} {a7 : A7} {a8 : A8} {a9 : A9} {a10 : A10} {a11 : A11} {a12 : A12} {a13 : A13} {a14 : A14} {f : A1 → A2 → A3 → A4 → A5 → A6 → A7 → A8 → A9 → A10 → A11 → A12 → A13 → A14 → Option δ} : bnd14 (some (a1, a2, a3, a4, a5, a6, a7, a8, a9, a10, a11, a12, a13, a14)) f = f a1 a2 a3 a4 a5 a6 a7 a8 a9 a10 a11 a12 a13 a14 := rfl
theorem bnd15_e {A1 A2 A3 A4 A5 A6 A7 A8 A9 A10 A11 A12 A13 A14 A15 δ : Type} {a1 : A1} {a2 : A2} {a3 : A3} {a4 : A4} {a5 : A5} {a6 : A6} {a7 : A7} {a8 : A8} {a9 : A9} {a10 : A10} {a11 : A11} {a12 : A12} {a13 : A13} {a14 : A14} {a15 : A15} {f : A1 → A2 → A3 → A4 → A5 → A6 → A7 → A8 → A9 → A10 → A11 → A12 → A13 → A14 → A15 → Option δ} : bnd15 (some (a1, a2, a3, a4, a5, a6, a7, a8, a9, a10, a11, a12, a13, a14, a15)) f = f a1 a2 a3 a4 a5 a6 a7 a8 a9 a10 a11 a12 a13 a14 a15 := rfl
theorem bnd16_e {A1 A2 A3 A4 A5 A6 A7 A8 A9 A10 A11 A12 A13 A14 A15 A16 δ : Type} {a1 : A1} {a2 : A2} {a3 : A3} {a4 : A4} {a5 : A5} {a6 : A6} {a7 : A7} {a8 : A8} {a9 : A9} {a10 : A10} {a11 : A11} {a12 : A12} {a13 : A13} {a14 : A14} {a15 : A15} {a16 : A16} {f : A1 → A2 → A3 → A4 → A5 → A6 → A7 → A8 → A9 → A10 → A11 → A12 → A13 → A14 → A15 → A16 → Option δ} : bnd16 (some (a1, a2, a3, a4, a5, a6, a7, a8, a9, a10, a11, a12, a13, a14, a15, a16)) f = f a1 a2 a3 a4 a5 a6 a7 a8 a9 a10 a11 a12 a13 a14 a15 a16 := rfl
theorem bnd17_e {A1 A2 A3 A4 A5 A6 A7 A8 A9 A10 A11 A12 A13 A14 A15 A16 A17 δ : Type} {a1 : A1} {a2 : A2} {a3 : A3} {a4 : A4} {a5 : A5} {a6 : A6} {a7 : A7} {a8 : A8} {a9 : A9} {a10 : A10} {a11 : A11} {a12 : A12} {a13 : A13} {a14 : A14} {a15 : A15} {a16 : A16} {a17 : A17} {f : A1 → A2 → A3 → A4 → A5 → A6 → A7 → A8 → A9 → A10 → A11 → A12 → A13 → A14 → A15 → A16 → A17 → Option δ} : bnd17 (some (a1, a2, a3, a4, a5, a6, a7, a8, a9, a10, a11, a12, a13, a14, a15, a16, a17)) f = f a1 a2 a3 a4 a5 a6 a7 a8 a9 a10 a11 a12 a13 a14 a15 a16 a17 := rfl
theorem bnd18_e {A1 A2 A3 A4 A5 A6 A7 A8 A9 A10 A11 A12 A13 A14 A15 A16 A17 A18 δ : Type} {a1 : A1} {a2 : A2} {a3 : A3} {a4 : A4} {a5 : A5} {a6 : A6} {a7 : A7} {a8 : A8} {a9 : A9} {a10 : A10} {a11 : A11} {a12 : A12} {a13 : A13} {a14 : A14} {a15 : A15} {a16 : A16} {a17 : A17} {a18 : A18} {f : A1 → A2 → A3 → A4 → A5 → A6 → A7 → A8 → A9 → A10 → A11 → A12 → A13 → A14 → A15 → A16 → A17 → A18 → Option δ} : bnd18 (some (a1, a2, a3, a4, a5, a6, a7, a8, a9, a10, a11, a12, a13, a14, a15, a16, a17, a18)) f = f a1 a2 a3 a4 a5 a6 a7 a8 a9 a10 a11 a12 a13 a14 a15 a16 a17 a18 := rfl
theorem bnd0_e {δ : Type} {f : Option δ} : bnd0 (some ()) f = f := rfl
theorem ck_nI {α : Type} {i n : Nat} {k : Option α} (h : i < n) (hn : n < 2 ^ 31) : ck (nI i) n k = k := if_neg (nI_in h hn)
theorem ck_i {α : Type} {x : Int32} {i n : Nat} {k : Option α} (hx : x = nI i) (h : i < n) (hn : n < 2 ^ 31) : ck x n k = k := by rw [hx]; exact ck_nI h hn
theorem cz_nI {α : Type} {n : Nat} {k : Option α} (h : 0 < n) (hn : n < 2 ^ 31) : cz (nI n) k = k := if_neg (nI_ne0 h hn)
theorem zr_0 {α : Type} {k : Option α} : zr 0 k = k := if_pos (by decide)
theorem zr_1 {α : Type} {k : Option α} : zr 1 k = k := if_pos (by decide)
theorem zr_b {α : Type} {c : Prop} {_ : Decidable c} {k : Option α} : zr (if c then 1 else 0) k = k := by
  by_cases h : c
  · rw [if_pos h]; exact zr_1
  · rw [if_neg h]; exact zr_0
theorem b_ne0 {c : Prop} {_ : Decidable c} : ((if c then (1 : Int32) else 0) = 0) ↔ ¬ c := by
  by_cases h : c
  · rw [if_pos h]; exact ⟨fun q => absurd q (by decide), fun q => absurd h q⟩
  · rw [if_neg h]; exact ⟨fun _ => h, fun _ => rfl⟩
theorem ix (x : Int32) {n : Nat} (hn : n < 2 ^ 31) : x < 0 ∨ nI n ≤ x ∨ ∃ j : Nat, j < n ∧ x = nI j := pk_ix x hn
theorem irem_nI {a d : Nat} (ha : a < 2 ^ 31) (h0 : 0 < d) (hd : d < 2 ^ 31) : irem (nI a) (nI d) = nI (a % d) := pk_rem ha h0 hd
theorem it1_inv {A1 δ : Type} {F : (A1 → Option δ) → A1 → Option δ} {x1 : A1} (I : Nat → A1 → Prop) (Q : Option δ → Prop) (e : Nat)
    (hs : ∀ (K : A1 → Option δ) (i : Nat) (x1 : A1), i < e → I i x1 → ∃ (y1 : A1), F K x1 = K y1 ∧ I (i + 1) y1) (he : ∀ (K : A1 → Option δ) (x1 : A1), I e x1 → Q (F K x1)) (h0 : I 0 x1) {n : Nat} (hn : e < n) : Q (it1 F n x1) := by
  have key : ∀ (n i : Nat) (x1 : A1), i ≤ e → e < i + n → I i x1 → Q (it1 F n x1) := by
    intro n
    induction n with
    | zero => intro i x1 h1 h2; omega
    | succ n ih =>
      intro i x1 h1 h2 hi
      show Q (F (it1 F n) x1)
      rcases Nat.lt_or_ge i e with q | q
      · obtain ⟨y1, e1, e2⟩ := hs (it1 F n) i x1 q hi
        rw [e1]
        exact ih (i + 1) y1 (by omega) (by omega) e2
      · have e1 : i = e := by omega
        subst e1
        exact he _ x1 hi
  exact key n 0 x1 (Nat.zero_le _) (by omega) h0
theorem it1_way {A1 δ : Type} {F : (A1 → Option δ) → A1 → Option δ} {x1 : A1} (I : Nat → A1 → Prop) (Q : Option δ → Prop) (e : Nat)
    (hs : ∀ (K : A1 → Option δ) (i : Nat) (x1 : A1), i ≤ e → I i x1 → Q (F K x1) ∨ (i < e ∧ ∃ (y1 : A1), F K x1 = K y1 ∧ I (i + 1) y1)) (h0 : I 0 x1) {n : Nat} (hn : e < n) : Q (it1 F n x1) := by
  have key : ∀ (n i : Nat) (x1 : A1), i ≤ e → e < i + n → I i x1 → Q (it1 F n x1) := by
    intro n
    induction n with
    | zero => intro i x1 h1 h2; omega
    | succ n ih =>
      intro i x1 h1 h2 hi
      show Q (F (it1 F n) x1)
      rcases hs (it1 F n) i x1 h1 hi with q | ⟨q, y1, e1, e2⟩
      · exact q
      · rw [e1]
        exact ih (i + 1) y1 (by omega) (by omega) e2
  exact key n 0 x1 (Nat.zero_le _) (by omega) h0
theorem it2_inv {A1 A2 δ : Type} {F : (A1 → A2 → Option δ) → A1 → A2 → Option δ} {x1 : A1} {x2 : A2} (I : Nat → A1 → A2 → Prop) (Q : Option δ → Prop) (e : Nat)
    (hs : ∀ (K : A1 → A2 → Option δ) (i : Nat) (x1 : A1) (x2 : A2), i < e → I i x1 x2 → ∃ (y1 : A1) (y2 : A2), F K x1 x2 = K y1 y2 ∧ I (i + 1) y1 y2) (he : ∀ (K : A1 → A2 → Option δ) (x1 : A1) (x2 : A2), I e x1 x2 → Q (F K x1 x2)) (h0 : I 0 x1 x2) {n : Nat} (hn : e < n) : Q (it2 F n x1 x2) := by
  have key : ∀ (n i : Nat) (x1 : A1) (x2 : A2), i ≤ e → e < i + n → I i x1 x2 → Q (it2 F n x1 x2) := by
    intro n
    induction n with
    | zero => intro i x1 x2 h1 h2; omega
    | succ n ih =>
      intro i x1 x2 h1 h2 hi
      show Q (F (it2 F n) x1 x2)
      rcases Nat.lt_or_ge i e with q | q
      · obtain ⟨y1, y2, e1, e2⟩ := hs (it2 F n) i x1 x2 q hi
        rw [e1]
        exact ih (i + 1) y1 y2 (by omega) (by omega) e2
      · have e1 : i = e := by omega
        subst e1
        exact he _ x1 x2 hi
  exact key n 0 x1 x2 (Nat.zero_le _) (by omega) h0
theorem it2_way {A1 A2 δ : Type} {F : (A1 → A2 → Option δ) → A1 → A2 → Option δ} {x1 : A1} {x2 : A2} (I : Nat → A1 → A2 → Prop) (Q : Option δ → Prop) (e : Nat)
    (hs : ∀ (K : A1 → A2 → Option δ) (i : Nat) (x1 : A1) (x2 : A2), i ≤ e → I i x1 x2 → Q (F K x1 x2) ∨ (i < e ∧ ∃ (y1 : A1) (y2 : A2), F K x1 x2 = K y1 y2 ∧ I (i + 1) y1 y2)) (h0 : I 0 x1 x2) {n : Nat} (hn : e < n) : Q (it2 F n x1 x2) := by
  have key : ∀ (n i : Nat) (x1 : A1) (x2 : A2), i ≤ e → e < i + n → I i x1 x2 → Q (it2 F n x1 x2) := by
    intro n
    induction n with
    | zero => intro i x1 x2 h1 h2; omega
    | succ n ih =>
      intro i x1 x2 h1 h2 hi
      show Q (F (it2 F n) x1 x2)
      rcases hs (it2 F n) i x1 x2 h1 hi with q | ⟨q, y1, y2, e1, e2⟩
      · exact q
      · rw [e1]
        exact ih (i + 1) y1 y2 (by omega) (by omega) e2
  exact key n 0 x1 x2 (Nat.zero_le _) (by omega) h0
theorem it3_inv {A1 A2 A3 δ : Type} {F : (A1 → A2 → A3 → Option δ) → A1 → A2 → A3 → Option δ} {x1 : A1} {x2 : A2} {x3 : A3} (I : Nat → A1 → A2 → A3 → Prop) (Q : Option δ → Prop) (e : Nat)
    (hs : ∀ (K : A1 → A2 → A3 → Option δ) (i : Nat) (x1 : A1) (x2 : A2) (x3 : A3), i < e → I i x1 x2 x3 → ∃ (y1 : A1) (y2 : A2) (y3 : A3), F K x1 x2 x3 = K y1 y2 y3 ∧ I (i + 1) y1 y2 y3) (he : ∀ (K : A1 → A2 → A3 → Option δ) (x1 : A1) (x2 : A2) (x3 : A3), I e x1 x2 x3 → Q (F K x1 x2 x3)) (h0 : I 0 x1 x2 x3) {n : Nat} (hn : e < n) : Q (it3 F n x1 x2 x3) := by
  have key : ∀ (n i : Nat) (x1 : A1) (x2 : A2) (x3 : A3), i ≤ e → e < i + n → I i x1 x2 x3 → Q (it3 F n x1 x2 x3) := by
    intro n
    induction n with
    | zero => intro i x1 x2 x3 h1 h2; omega
    | succ n ih =>
      intro i x1 x2 x3 h1 h2 hi
      show Q (F (it3 F n) x1 x2 x3)
      rcases Nat.lt_or_ge i e with q | q
      · obtain ⟨y1, y2, y3, e1, e2⟩ := hs (it3 F n) i x1 x2 x3 q hi
        rw [e1]
        exact ih (i + 1) y1 y2 y3 (by omega) (by omega) e2
      · have e1 : i = e := by omega
        subst e1
        exact he _ x1 x2 x3 hi
  exact key n 0 x1 x2 x3 (Nat.zero_le _) (by omega) h0
theorem it3_way {A1 A2 A3 δ : Type} {F : (A1 → A2 → A3 → Option δ) → A1 → A2 → A3 → Option δ} {x1 : A1} {x2 : A2} {x3 : A3} (I : Nat → A1 → A2 → A3 → Prop) (Q : Option δ → Prop) (e : Nat)
    (hs : ∀ (K : A1 → A2 → A3 → Option δ) (i : Nat) (x1 : A1) (x2 : A2) (x3 : A3), i ≤ e → I i x1 x2 x3 → Q (F K x1 x2 x3) ∨ (i < e ∧ ∃ (y1 : A1) (y2 : A2) (y3 : A3), F K x1 x2 x3 = K y1 y2 y3 ∧ I (i + 1) y1 y2 y3)) (h0 : I 0 x1 x2 x3) {n : Nat} (hn : e < n) : Q (it3 F n x1 x2 x3) := by
  have key : ∀ (n i : Nat) (x1 : A1) (x2 : A2) (x3 : A3), i ≤ e → e < i + n → I i x1 x2 x3 → Q (it3 F n x1 x2 x3) := by
    intro n
    induction n with
    | zero => intro i x1 x2 x3 h1 h2; omega
    | succ n ih =>
      intro i x1 x2 x3 h1 h2 hi
      show Q (F (it3 F n) x1 x2 x3)
      rcases hs (it3 F n) i x1 x2 x3 h1 hi with q | ⟨q, y1, y2, y3, e1, e2⟩
      · exact q
      · rw [e1]
        exact ih (i + 1) y1 y2 y3 (by omega) (by omega) e2
  exact key n 0 x1 x2 x3 (Nat.zero_le _) (by omega) h0
theorem it4_inv {A1 A2 A3 A4 δ : Type} {F : (A1 → A2 → A3 → A4 → Option δ) → A1 → A2 → A3 → A4 → Option δ} {x1 : A1} {x2 : A2} {x3 : A3} {x4 : A4} (I : Nat → A1 → A2 → A3 → A4 → Prop) (Q : Option δ → Prop) (e : Nat)
    (hs : ∀ (K : A1 → A2 → A3 → A4 → Option δ) (i : Nat) (x1 : A1) (x2 : A2) (x3 : A3) (x4 : A4), i < e → I i x1 x2 x3 x4 → ∃ (y1 : A1) (y2 : A2) (y3 : A3) (y4 : A4), F K x1 x2 x3 x4 = K y1 y2 y3 y4 ∧ I (i + 1) y1 y2 y3 y4) (he : ∀ (K : A1 → A2 → A3 → A4 → Option δ) (x1 : A1) (x2 : A2) (x3 : A3) (x4 : A4), I e x1 x2 x3 x4 → Q (F K x1 x2 x3 x4)) (h0 : I 0 x1 x2 x3 x4) {n : Nat} (hn : e < n) : Q (it4 F n x1 x2 x3 x4) := by
  have key : ∀ (n i : Nat) (x1 : A1) (x2 : A2) (x3 : A3) (x4 : A4), i ≤ e → e < i + n → I i x1 x2 x3 x4 → Q (it4 F n x1 x2 x3 x4) := by
    intro n
    induction n with
    | zero => intro i x1 x2 x3 x4 h1 h2; omega
    | succ n ih =>
      intro i x1 x2 x3 x4 h1 h2 hi
      show Q (F (it4 F n) x1 x2 x3 x4)
      rcases Nat.lt_or_ge i e with q | q
      · obtain ⟨y1, y2, y3, y4, e1, e2⟩ := hs (it4 F n) i x1 x2 x3 x4 q hi
        rw [e1]
        exact ih (i + 1) y1 y2 y3 y4 (by omega) (by omega) e2
      · have e1 : i = e := by omega
        subst e1
        exact he _ x1 x2 x3 x4 hi
  exact key n 0 x1 x2 x3 x4 (Nat.zero_le _) (by omega) h0
theorem it4_way {A1 A2 A3 A4 δ : Type} {F : (A1 → A2 → A3 → A4 → Option δ) → A1 → A2 → A3 → A4 → Option δ} {x1 : A1} {x2 : A2} {x3 : A3} {x4 : A4} (I : Nat → A1 → A2 → A3 → A4 → Prop) (Q : Option δ → Prop) (e : Nat)
    (hs : ∀ (K : A1 → A2 → A3 → A4 → Option δ) (i : Nat) (x1 : A1) (x2 : A2) (x3 : A3) (x4 : A4), i ≤ e → I i x1 x2 x3 x4 → Q (F K x1 x2 x3 x4) ∨ (i < e ∧ ∃ (y1 : A1) (y2 : A2) (y3 : A3) (y4 : A4), F K x1 x2 x3 x4 = K y1 y2 y3 y4 ∧ I (i + 1) y1 y2 y3 y4)) (h0 : I 0 x1 x2 x3 x4) {n : Nat} (hn : e < n) : Q (it4 F n x1 x2 x3 x4) := by
  have key : ∀ (n i : Nat) (x1 : A1) (x2 : A2) (x3 : A3) (x4 : A4), i ≤ e → e < i + n → I i x1 x2 x3 x4 → Q (it4 F n x1 x2 x3 x4) := by
    intro n
    induction n with
    | zero => intro i x1 x2 x3 x4 h1 h2; omega
    | succ n ih =>
      intro i x1 x2 x3 x4 h1 h2 hi
      show Q (F (it4 F n) x1 x2 x3 x4)
      rcases hs (it4 F n) i x1 x2 x3 x4 h1 hi with q | ⟨q, y1, y2, y3, y4, e1, e2⟩
      · exact q
      · rw [e1]
        exact ih (i + 1) y1 y2 y3 y4 (by omega) (by omega) e2
  exact key n 0 x1 x2 x3 x4 (Nat.zero_le _) (by omega) h0
theorem it5_inv {A1 A2 A3 A4 A5 δ : Type} {F : (A1 → A2 → A3 → A4 → A5 → Option δ) → A1 → A2 → A3 → A4 → A5 → Option δ} {x1 : A1} {x2 : A2} {x3 : A3} {x4 : A4} {x5 : A5} (I : Nat → A1 → A2 → A3 → A4 → A5 → Prop) (Q : Option δ → Prop) (e : Nat)
    (hs : ∀ (K : A1 → A2 → A3 → A4 → A5 → Option δ) (i : Nat) (x1 : A1) (x2 : A2) (x3 : A3) (x4 : A4) (x5 : A5), i < e → I i x1 x2 x3 x4 x5 → ∃ (y1 : A1) (y2 : A2) (y3 : A3) (y4 : A4) (y5 : A5), F K x1 x2 x3 x4 x5 = K y1 y2 y3 y4 y5 ∧ I (i + 1) y1 y2 y3 y4 y5) (he : ∀ (K : A1 → A2 → A3 → A4 → A5 → Option δ) (x1 : A1) (x2 : A2) (x3 : A3) (x4 : A4) (x5 : A5), I e x1 x2 x3 x4 x5 → Q (F K x1 x2 x3 x4 x5)) (h0 : I 0 x1 x2 x3 x4 x5) {n : Nat} (hn : e < n) : Q (it5 F n x1 x2 x3 x4 x5) := by
  have key : ∀ (n i : Nat) (x1 : A1) (x2 : A2) (x3 : A3) (x4 : A4) (x5 : A5), i ≤ e → e < i + n → I i x1 x2 x3 x4 x5 → Q (it5 F n x1 x2 x3 x4 x5) := by
    intro n
    induction n with
    | zero => intro i x1 x2 x3 x4 x5 h1 h2; omega
    | succ n ih =>
      intro i x1 x2 x3 x4 x5 h1 h2 hi
      show Q (F (it5 F n) x1 x2 x3 x4 x5)
      rcases Nat.lt_or_ge i e with q | q
      · obtain ⟨y1, y2, y3, y4, y5, e1, e2⟩ := hs (it5 F n) i x1 x2 x3 x4 x5 q hi
        rw [e1]
        exact ih (i + 1) y1 y2 y3 y4 y5 (by omega) (by omega) e2
      · have e1 : i = e := by omega
        subst e1
        exact he _ x1 x2 x3 x4 x5 hi
  exact key n 0 x1 x2 x3 x4 x5 (Nat.zero_le _) (by omega) h0
theorem it5_way {A1 A2 A3 A4 A5 δ : Type} {F : (A1 → A2 → A3 → A4 → A5 → Option δ) → A1 → A2 → A3 → A4 → A5 → Option δ} {x1 : A1} {x2 : A2} {x3 : A3} {x4 : A4} {x5 : A5} (I : Nat → A1 → A2 → A3 → A4 → A5 → Prop) (Q : Option δ → Prop) (e : Nat)
    (hs : ∀ (K : A1 → A2 → A3 → A4 → A5 → Option δ) (i : Nat) (x1 : A1) (x2 : A2) (x3 : A3) (x4 : A4) (x5 : A5), i ≤ e → I i x1 x2 x3 x4 x5 → Q (F K x1 x2 x3 x4 x5) ∨ (i < e ∧ ∃ (y1 : A1) (y2 : A2) (y3 : A3) (y4 : A4) (y5 : A5), F K x1 x2 x3 x4 x5 = K y1 y2 y3 y4 y5 ∧ I (i + 1) y1 y2 y3 y4 y5)) (h0 : I 0 x1 x2 x3 x4 x5) {n : Nat} (hn : e < n) : Q (it5 F n x1 x2 x3 x4 x5) := by
  have key : ∀ (n i : Nat) (x1 : A1) (x2 : A2) (x3 : A3) (x4 : A4) (x5 : A5), i ≤ e → e < i + n → I i x1 x2 x3 x4 x5 → Q (it5 F n x1 x2 x3 x4 x5) := by
    intro n
    induction n with
    | zero => intro i x1 x2 x3 x4 x5 h1 h2; omega
    | succ n ih =>
      intro i x1 x2 x3 x4 x5 h1 h2 hi
      show Q (F (it5 F n) x1 x2 x3 x4 x5)
      rcases hs (it5 F n) i x1 x2 x3 x4 x5 h1 hi with q | ⟨q, y1, y2, y3, y4, y5, e1, e2⟩
      · exact q
      · rw [e1]
        exact ih (i + 1) y1 y2 y3 y4 y5 (by omega) (by omega) e2
  exact key n 0 x1 x2 x3 x4 x5 (Nat.zero_le _) (by omega) h0
theorem it6_inv {A1 A2 A3 A4 A5 A6 δ : Type} {F : (A1 → A2 → A3 → A4 → A5 → A6 → Option δ) → A1 → A2 → A3 → A4 → A5 → A6 → Option δ} {x1 : A1} {x2 : A2} {x3 : A3} {x4 : A4} {x5 : A5} {x6 : A6} (I : Nat → A1 → A2 → A3 → A4 → A5 → A6 → Prop) (Q : Option δ → Prop) (e : Nat)
    (hs : ∀ (K : A1 → A2 → A3 → A4 → A5 → A6 → Option δ) (i : Nat) (x1 : A1) (x2 : A2) (x3 : A3) (x4 : A4) (x5 : A5) (x6 : A6), i < e → I i x1 x2 x3 x4 x5 x6 → ∃ (y1 : A1) (y2 : A2) (y3 : A3) (y4 : A4) (y5 : A5) (y6 : A6), F K x1 x2 x3 x4 x5 x6 = K y1 y2 y3 y4 y5 y6 ∧ I (i + 1) y1 y2 y3 y4 y5 y6) (he : ∀ (K : A1 → A2 → A3 → A4 → A5 → A6 → Option δ) (x1 : A1) (x2 : A2) (x3 : A3) (x4 : A4) (x5 : A5) (x6 : A6), I e x1 x2 x3 x4 x5 x6 → Q (F K x1 x2 x3 x4 x5 x6)) (h0 : I 0 x1 x2 x3 x4 x5 x6) {n : Nat} (hn : e < n) : Q (it6 F n x1 x2 x3 x4 x5 x6) := by
  have key : ∀ (n i : Nat) (x1 : A1) (x2 : A2) (x3 : A3) (x4 : A4) (x5 : A5) (x6 : A6), i ≤ e → e < i + n → I i x1 x2 x3 x4 x5 x6 → Q (it6 F n x1 x2 x3 x4 x5 x6) := by
    intro n
    induction n with
    | zero => intro i x1 x2 x3 x4 x5 x6 h1 h2; omega
    | succ n ih =>
      intro i x1 x2 x3 x4 x5 x6 h1 h2 hi
      show Q (F (it6 F n) x1 x2 x3 x4 x5 x6)
      rcases Nat.lt_or_ge i e with q | q
      · obtain ⟨y1, y2, y3, y4, y5, y6, e1, e2⟩ := hs (it6 F n) i x1 x2 x3 x4 x5 x6 q hi
        rw [e1]
        exact ih (i + 1) y1 y2 y3 y4 y5 y6 (by omega) (by omega) e2
      · have e1 : i = e := by omega
        subst e1
        exact he _ x1 x2 x3 x4 x5 x6 hi
  exact key n 0 x1 x2 x3 x4 x5 x6 (Nat.zero_le _) (by omega) h0
theorem it6_way {A1 A2 A3 A4 A5 A6 δ : Type} {F : (A1 → A2 → A3 → A4 → A5 → A6 → Option δ) → A1 → A2 → A3 → A4 → A5 → A6 → Option δ} {x1 : A1} {x2 : A2} {x3 : A3} {x4 : A4} {x5 : A5} {x6 : A6} (I : Nat → A1 → A2 → A3 → A4 → A5 → A6 → Prop) (Q : Option δ → Prop) (e : Nat)
    (hs : ∀ (K : A1 → A2 → A3 → A4 → A5 → A6 → Option δ) (i : Nat) (x1 : A1) (x2 : A2) (x3 : A3) (x4 : A4) (x5 : A5) (x6 : A6), i ≤ e → I i x1 x2 x3 x4 x5 x6 → Q (F K x1 x2 x3 x4 x5 x6) ∨ (i < e ∧ ∃ (y1 : A1) (y2 : A2) (y3 : A3) (y4 : A4) (y5 : A5) (y6 : A6), F K x1 x2 x3 x4 x5 x6 = K y1 y2 y3 y4 y5 y6 ∧ I (i + 1) y1 y2 y3 y4 y5 y6)) (h0 : I 0 x1 x2 x3 x4 x5 x6) {n : Nat} (hn : e < n) : Q (it6 F n x1 x2 x3 x4 x5 x6) := by
  have key : ∀ (n i : Nat) (x1 : A1) (x2 : A2) (x3 : A3) (x4 : A4) (x5 : A5) (x6 : A6), i ≤ e → e < i + n → I i x1 x2 x3 x4 x5 x6 → Q (it6 F n x1 x2 x3 x4 x5 x6) := by
    intro n
    induction n with
    | zero => intro i x1 x2 x3 x4 x5 x6 h1 h2; omega
    | succ n ih =>
      intro i x1 x2 x3 x4 x5 x6 h1 h2 hi
      show Q (F (it6 F n) x1 x2 x3 x4 x5 x6)
      rcases hs (it6 F n) i x1 x2 x3 x4 x5 x6 h1 hi with q | ⟨q, y1, y2, y3, y4, y5, y6, e1, e2⟩
      · exact q
      · rw [e1]
        exact ih (i + 1) y1 y2 y3 y4 y5 y6 (by omega) (by omega) e2
  exact key n 0 x1 x2 x3 x4 x5 x6 (Nat.zero_le _) (by omega) h0
