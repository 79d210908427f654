theorem mod_fill {p q r : Nat} (hp : isP p) (hr : r < p) : ((2 * q + (p - r)) % p + r) % p = (2 * q) % p := by
  rcases hp with rfl | rfl | rfl | rfl <;> omega
theorem mod_is {p q r u : Nat} (hp : isP p) (hr : r < p) (hu : u < p) (h : (u + r) % p = (2 * q) % p) : (2 * q + (p - r)) % p = u := by
  rcases hp with rfl | rfl | rfl | rfl <;> omega
theorem mod_two {p u r r' q : Nat} (hp : isP p) (hr : r < p) (hr' : r' < p) (h : (u + r) % p = (2 * q) % p) (h' : (u + r') % p = (2 * q) % p) : r = r' := by
  rcases hp with rfl | rfl | rfl | rfl <;> omega
/-- a bigon's inner ends O, O' (over) and U, U' (under) are fixed by the outer ones Q, R -/
theorem bigon_fill {c o p n : Nat} {f : Nat → Nat} (hp : isP p) (hV : Vd c o f) {v w O O' Q Q' U U' R R' : Nat} (hv : v < c) (hw : w < c) (hvw : v ≠ w)
    (lO : O < 4 * c ∧ O' < 4 * c ∧ U < 4 * c ∧ U' < 4 * c ∧ Q < 4 * c ∧ Q' < 4 * c ∧ R < 4 * c ∧ R' < 4 * c) (dv : O / 4 = v ∧ Q / 4 = v ∧ U / 4 = v ∧ R / 4 = v) (dw : O' / 4 = w ∧ Q' / 4 = w ∧ U' / 4 = w ∧ R' / 4 = w)
    (nv : O ≠ Q ∧ O ≠ U ∧ O ≠ R ∧ Q ≠ U ∧ Q ≠ R ∧ U ≠ R) (nw : O' ≠ Q' ∧ O' ≠ U' ∧ O' ≠ R' ∧ Q' ≠ U' ∧ Q' ≠ R' ∧ U' ≠ R')
    (eO : f O = f O') (eU : f U = f U') (cv : ∀ y, CE p y v ↔ y O = y Q ∧ (y U + y R) % p = (2 * y O) % p) (cw : ∀ y, CE p y w ↔ y O' = y Q' ∧ (y U' + y R') % p = (2 * y O') % p)
    (h : HC (ColV (fun x => Vlt (4 * c) x && !(x == O || x == O' || (x == U || x == U'))) f p (fun y => (∀ u, u < c → (u ≠ v ∧ u ≠ w) → CE p y u) ∧ y R = y R' ∧ y Q = y Q')) n) : HC (Col c f p) n := by
  have hp0 := (isP_lt hp).1
  have vw : ∀ {a b : Nat}, a / 4 = v → b / 4 = w → a ≠ b := fun {a b} ha hb e => hvw (by rw [← ha, e, hb])
  have nQ1 : ¬ (Q = O ∨ Q = O') := fun z => z.elim (fun e => nv.1 e.symm) (fun e => vw dv.2.1 dw.1 e)
  have nQ2 : ¬ (Q = U ∨ Q = U') := fun z => z.elim (fun e => nv.2.2.2.1 e) (fun e => vw dv.2.1 dw.2.2.1 e)
  have nR1 : ¬ (R = O ∨ R = O') := fun z => z.elim (fun e => nv.2.2.1 e.symm) (fun e => vw dv.2.2.2 dw.1 e)
  have nR2 : ¬ (R = U ∨ R = U') := fun z => z.elim (fun e => nv.2.2.2.2.2 e.symm) (fun e => vw dv.2.2.2 dw.2.2.1 e)
  have nQ1' : ¬ (Q' = O ∨ Q' = O') := fun z => z.elim (fun e => vw dv.1 dw.2.1 e.symm) (fun e => nw.1 e.symm)
  have nQ2' : ¬ (Q' = U ∨ Q' = U') := fun z => z.elim (fun e => vw dv.2.2.1 dw.2.1 e.symm) (fun e => nw.2.2.2.1 e)
  have nR1' : ¬ (R' = O ∨ R' = O') := fun z => z.elim (fun e => vw dv.1 dw.2.2.2 e.symm) (fun e => nw.2.2.1 e.symm)
  have nR2' : ¬ (R' = U ∨ R' = U') := fun z => z.elim (fun e => vw dv.2.2.1 dw.2.2.2 e.symm) (fun e => nw.2.2.2.2.2 e.symm)
  have nUO : ∀ x, (x = U ∨ x = U') → ¬ (x = O ∨ x = O') := fun x hx z => by
    rcases hx with e1 | e1 <;> rcases z with e2 | e2
    · exact nv.2.1 (e2.symm.trans e1)
    · exact vw dv.2.2.1 dw.1 (e1.symm.trans e2)
    · exact vw dv.1 dw.2.2.1 (e2.symm.trans e1)
    · exact nw.2.1 (e2.symm.trans e1)
  have out : ∀ u x, u ≠ v → u ≠ w → x / 4 = u → ¬ (x = O ∨ x = O') ∧ ¬ (x = U ∨ x = U') := fun u x h1 h2 hx => ⟨fun z => by
    rcases z with e | e
    · exact h1 (by rw [← hx, e, dv.1])
    · exact h2 (by rw [← hx, e, dw.1]), fun z => by
    rcases z with e | e
    · exact h1 (by rw [← hx, e, dv.2.2.1])
    · exact h2 (by rw [← hx, e, dw.2.2.1])⟩
  have nOO : O ≠ O' := vw dv.1 dw.1
  have nUU : U ≠ U' := vw dv.2.2.1 dw.2.2.1
  clear nv nw
  have inV : ∀ x, (fun x => Vlt (4 * c) x && !(x == O || x == O' || (x == U || x == U'))) x = true ↔ x < 4 * c ∧ ¬ (x = O ∨ x = O') ∧ ¬ (x = U ∨ x = U') := fun x => by
    simp only [Bool.and_eq_true, Vlt_iff, Bool.not_eq_true', Bool.or_eq_false_iff, beq_eq_false_iff_ne, ne_eq, not_or]
  have one : ∀ A A', A < 4 * c → A' < 4 * c → A ≠ A' → f A = f A' → ∀ x, x < 4 * c → (f x = f A → x = A ∨ x = A') := fun A A' hA hA' ne e x hx ex => by
    obtain ⟨t, h1, h2, h3, h4⟩ := (Vd.mt hV) A hA
    have e2 := (h4 A' hA' e.symm).resolve_left (fun z => ne z.symm)
    rcases h4 x hx ex with r | r
    · exact Or.inl r
    · exact Or.inr (r.trans e2.symm)
  have twoO := one O O' lO.1 lO.2.1 nOO eO
  have twoU := one U U' lO.2.2.1 lO.2.2.2.1 nUU eU
  -- what is filled in
  have F1 : ∀ (y : Nat → Nat) x, (x = O ∨ x = O') → (if x = O ∨ x = O' then y Q else if x = U ∨ x = U' then (2 * y Q + (p - y R)) % p else y x) = y Q := fun y x hx => if_pos hx
  have F2 : ∀ (y : Nat → Nat) x, (x = U ∨ x = U') → (if x = O ∨ x = O' then y Q else if x = U ∨ x = U' then (2 * y Q + (p - y R)) % p else y x) = (2 * y Q + (p - y R)) % p := fun y x hx => by rw [if_neg (nUO x hx), if_pos hx]
  have F3 : ∀ (y : Nat → Nat) x, ¬ (x = O ∨ x = O') → ¬ (x = U ∨ x = U') → (if x = O ∨ x = O' then y Q else if x = U ∨ x = U' then (2 * y Q + (p - y R)) % p else y x) = y x := fun y x h1 h2 => by rw [if_neg h1, if_neg h2]
  have off : ∀ (y : Nat → Nat) u, u ≠ v → u ≠ w → (CE p (fun x => if x = O ∨ x = O' then y Q else if x = U ∨ x = U' then (2 * y Q + (p - y R)) % p else y x) u ↔ CE p y u) := fun y u h1 h2 => by
    have val : ∀ x, x / 4 = u → (if x = O ∨ x = O' then y Q else if x = U ∨ x = U' then (2 * y Q + (p - y R)) % p else y x) = y x := fun x hx => F3 y x (out u x h1 h2 hx).1 (out u x h1 h2 hx).2
    unfold CE
    simp only [val (4 * u) (by omega), val (4 * u + 1) (by omega), val (4 * u + 2) (by omega), val (4 * u + 3) (by omega)]
  have off0 : ∀ (y : Nat → Nat) u, u ≠ v → u ≠ w → (CE p (fun x => if x = O ∨ x = O' then 0 else if x = U ∨ x = U' then 0 else y x) u ↔ CE p y u) := fun y u h1 h2 => by
    have val : ∀ x, x / 4 = u → (if x = O ∨ x = O' then 0 else if x = U ∨ x = U' then 0 else y x) = y x := fun x hx => by rw [if_neg (out u x h1 h2 hx).1, if_neg (out u x h1 h2 hx).2]
    unfold CE
    simp only [val (4 * u) (by omega), val (4 * u + 1) (by omega), val (4 * u + 2) (by omega), val (4 * u + 3) (by omega)]
  refine h.bij (fun y x => if x = O ∨ x = O' then y Q else if x = U ∨ x = U' then (2 * y Q + (p - y R)) % p else y x) (fun y hy => ?_) (fun y y' hy hy' e => ?_) (fun y hy => ?_)
  · obtain ⟨y1, y2, y3, y4, y5, y6⟩ := hy
    refine (col_V hV _).mpr ⟨fun e he => ?_, fun e => ?_, fun e e' he he' ef => ?_, fun u hu => ?_⟩
    · have hn : ¬ e < 4 * c := fun z => by rw [Vlt_iff.mpr z] at he; cases he
      show (if e = O ∨ e = O' then y Q else if e = U ∨ e = U' then (2 * y Q + (p - y R)) % p else y e) = 0
      rw [F3 y e (fun z => hn (by rcases z with e1 | e1 <;> rw [e1]; exact lO.1; exact lO.2.1)) (fun z => hn (by rcases z with e1 | e1 <;> rw [e1]; exact lO.2.2.1; exact lO.2.2.2.1))]
      exact y1 e (Bool.eq_false_iff.mpr (fun z => hn ((inV e).mp z).1))
    · show (if e = O ∨ e = O' then y Q else if e = U ∨ e = U' then (2 * y Q + (p - y R)) % p else y e) < p
      by_cases z : e = O ∨ e = O'
      · rw [if_pos z]; exact y2 _
      · rw [if_neg z]
        by_cases z2 : e = U ∨ e = U'
        · rw [if_pos z2]; exact Nat.mod_lt _ (by omega)
        · rw [if_neg z2]; exact y2 _
    · have h1 := Vlt_iff.mp he
      have h2 := Vlt_iff.mp he'
      show (if e = O ∨ e = O' then y Q else if e = U ∨ e = U' then (2 * y Q + (p - y R)) % p else y e) = (if e' = O ∨ e' = O' then y Q else if e' = U ∨ e' = U' then (2 * y Q + (p - y R)) % p else y e')
      by_cases z : e = O ∨ e = O'
      · have z' : e' = O ∨ e' = O' := twoO e' h2 (by rcases z with rfl | rfl; exact ef.symm; exact ef.symm.trans eO.symm)
        rw [F1 y e z, F1 y e' z']
      · have z' : ¬ (e' = O ∨ e' = O') := fun w => z (twoO e h1 (by rcases w with rfl | rfl; exact ef; exact ef.trans eO.symm))
        by_cases a : e = U ∨ e = U'
        · have a' : e' = U ∨ e' = U' := twoU e' h2 (by rcases a with rfl | rfl; exact ef.symm; exact ef.symm.trans eU.symm)
          rw [F2 y e a, F2 y e' a']
        · have a' : ¬ (e' = U ∨ e' = U') := fun w => a (twoU e h1 (by rcases w with rfl | rfl; exact ef; exact ef.trans eU.symm))
          rw [F3 y e z a, F3 y e' z' a']
          exact y3 e e' ((inV e).mpr ⟨h1, z, a⟩) ((inV e').mpr ⟨h2, z', a'⟩) ef
    · by_cases zv : u = v
      · subst zv
        refine (cv _).mpr ⟨?_, ?_⟩
        · rw [F1 y O (Or.inl rfl), F3 y Q nQ1 nQ2]
        · rw [F2 y U (Or.inl rfl), F3 y R nR1 nR2, F1 y O (Or.inl rfl)]
          exact mod_fill hp (y2 _)
      · by_cases zw : u = w
        · subst zw
          refine (cw _).mpr ⟨?_, ?_⟩
          · rw [F1 y O' (Or.inr rfl), F3 y Q' nQ1' nQ2']; exact y6
          · rw [F2 y U' (Or.inr rfl), F3 y R' nR1' nR2', F1 y O' (Or.inr rfl), ← y5]
            exact mod_fill hp (y2 _)
        · exact (off y u zv zw).mpr (y4 u hu ⟨zv, zw⟩)
  · funext x
    by_cases z : (x = O ∨ x = O') ∨ (x = U ∨ x = U')
    · have hf : ∀ y : Nat → Nat, ColV (fun x => Vlt (4 * c) x && !(x == O || x == O' || (x == U || x == U'))) f p (fun y => (∀ u, u < c → (u ≠ v ∧ u ≠ w) → CE p y u) ∧ y R = y R' ∧ y Q = y Q') y → y x = 0 := fun y hy => hy.1 x (Bool.eq_false_iff.mpr (fun w => by have := (inV x).mp w; exact z.elim this.2.1 this.2.2))
      rw [hf y hy, hf y' hy']
    · have := congrFun e x
      simp only [F3 _ x (fun q => z (Or.inl q)) (fun q => z (Or.inr q))] at this
      exact this
  · obtain ⟨y1, y2, y3, y4⟩ := (col_V hV y).mp hy
    have lt : ∀ x, x < 4 * c → Vlt (4 * c) x = true := fun x => Vlt_iff.mpr
    have aO : y O = y O' := y3 _ _ (lt _ lO.1) (lt _ lO.2.1) eO
    have aU : y U = y U' := y3 _ _ (lt _ lO.2.2.1) (lt _ lO.2.2.2.1) eU
    obtain ⟨c1, c2⟩ := (cv y).mp (y4 v hv)
    obtain ⟨c3, c4⟩ := (cw y).mp (y4 w hw)
    rw [← aU, ← aO] at c4
    have rr : y R = y R' := mod_two hp (y2 _) (y2 _) c2 c4
    have qq : y Q = y Q' := by rw [← c1, aO, c3]
    have G3 : ∀ x, ¬ (x = O ∨ x = O') → ¬ (x = U ∨ x = U') → (if x = O ∨ x = O' then 0 else if x = U ∨ x = U' then 0 else y x) = y x := fun x h1 h2 => by rw [if_neg h1, if_neg h2]
    have gQ := G3 Q nQ1 nQ2
    have gR := G3 R nR1 nR2
    refine ⟨fun x => if x = O ∨ x = O' then 0 else if x = U ∨ x = U' then 0 else y x, ⟨fun e he => ?_, fun e => ?_, fun e e' he he' ef => ?_, fun u hu hne => ?_, ?_, ?_⟩, ?_⟩
    · show (if e = O ∨ e = O' then 0 else if e = U ∨ e = U' then 0 else y e) = 0
      by_cases z : e = O ∨ e = O'
      · rw [if_pos z]
      · rw [if_neg z]
        by_cases z2 : e = U ∨ e = U'
        · rw [if_pos z2]
        · rw [if_neg z2]
          exact y1 e (Bool.eq_false_iff.mpr (fun q => by rw [(inV e).mpr ⟨Vlt_iff.mp q, z, z2⟩] at he; cases he))
    · show (if e = O ∨ e = O' then 0 else if e = U ∨ e = U' then 0 else y e) < p
      by_cases z : e = O ∨ e = O'
      · rw [if_pos z]; omega
      · rw [if_neg z]
        by_cases z2 : e = U ∨ e = U'
        · rw [if_pos z2]; omega
        · rw [if_neg z2]; exact y2 _
    · obtain ⟨g1, g2, g3⟩ := (inV e).mp he
      obtain ⟨g4, g5, g6⟩ := (inV e').mp he'
      show (if e = O ∨ e = O' then 0 else if e = U ∨ e = U' then 0 else y e) = (if e' = O ∨ e' = O' then 0 else if e' = U ∨ e' = U' then 0 else y e')
      rw [G3 e g2 g3, G3 e' g5 g6]
      exact y3 e e' (lt _ g1) (lt _ g4) ef
    · exact (off0 y u hne.1 hne.2).mpr (y4 u hu)
    · show (if R = O ∨ R = O' then 0 else if R = U ∨ R = U' then 0 else y R) = (if R' = O ∨ R' = O' then 0 else if R' = U ∨ R' = U' then 0 else y R')
      rw [gR, G3 R' nR1' nR2']; exact rr
    · show (if Q = O ∨ Q = O' then 0 else if Q = U ∨ Q = U' then 0 else y Q) = (if Q' = O ∨ Q' = O' then 0 else if Q' = U ∨ Q' = U' then 0 else y Q')
      rw [gQ, G3 Q' nQ1' nQ2']; exact qq
    · funext x
      show (if x = O ∨ x = O' then (if Q = O ∨ Q = O' then 0 else if Q = U ∨ Q = U' then 0 else y Q) else if x = U ∨ x = U' then (2 * (if Q = O ∨ Q = O' then 0 else if Q = U ∨ Q = U' then 0 else y Q) + (p - (if R = O ∨ R = O' then 0 else if R = U ∨ R = U' then 0 else y R))) % p else (if x = O ∨ x = O' then 0 else if x = U ∨ x = U' then 0 else y x)) = y x
      rw [gQ, gR]
      by_cases z : x = O ∨ x = O'
      · rw [if_pos z]
        rcases z with rfl | rfl
        · exact c1.symm
        · rw [← aO]; exact c1.symm
      · rw [if_neg z]
        by_cases z2 : x = U ∨ x = U'
        · rw [if_pos z2]
          rw [c1] at c2
          rw [mod_is hp (y2 R) (y2 U) c2]
          rcases z2 with rfl | rfl
          · rfl
          · exact aU
        · rw [if_neg z2, if_neg z, if_neg z2]
