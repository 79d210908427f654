/-! ===== colourings under the moves ===== -/
def CE (p : Nat) (y : Nat → Nat) (v : Nat) : Prop := y (4 * v + 1) = y (4 * v + 3) ∧ (y (4 * v) + y (4 * v + 2)) % p = (2 * y (4 * v + 1)) % p
def ColV (V : Nat → Bool) (f : Nat → Nat) (p : Nat) (E : (Nat → Nat) → Prop) (y : Nat → Nat) : Prop := (∀ e, V e = false → y e = 0) ∧ (∀ e, y e < p) ∧ (∀ e e', V e = true → V e' = true → f e = f e' → y e = y e') ∧ E y
theorem dl2_off {V : Nat → Bool} {a b : Nat} : dl2 V a b a = false ∧ dl2 V a b b = false := by
  unfold dl2; simp
theorem col_jn {V : Nat → Bool} {f : Nat → Nat} {p n a b : Nat} {E : (Nat → Nat) → Prop} (hp : 0 < p) (hm : Mt (fun x => V x = true) f) (ha : V a = true) (hb : V b = true) (hab : a ≠ b) (hE : ∀ y y', (∀ e, e ≠ a → e ≠ b → y e = y' e) → (E y ↔ E y'))
    (h : HC (ColV (dl2 V a b) (jnF f a b) p E) n) : HC (ColV V f p (fun y => E y ∧ y a = y b)) (n * p ^ jnO f a b) := by
  have off : ∀ y, ColV (dl2 V a b) (jnF f a b) p E y → y a = 0 ∧ y b = 0 := fun y hy => ⟨hy.1 a dl2_off.1, hy.1 b dl2_off.2⟩
  have vn : ∀ e, V e = false → e ≠ a ∧ e ≠ b ∧ dl2 V a b e = false := fun e he => by
    refine ⟨fun z => ?_, fun z => ?_, ?_⟩
    · rw [z, ha] at he; cases he
    · rw [z, hb] at he; cases he
    · unfold dl2; rw [he]; rfl
  by_cases q : f a = f b
  · have eO : jnO f a b = 1 := by unfold jnO; rw [if_pos q]
    have eF : jnF f a b = f := by unfold jnF; rw [if_pos q]
    rw [eO, Nat.pow_one]
    rw [eF] at h off
    have two : ∀ x, V x = true → f x = f a → x = a ∨ x = b := fun x hx ex => by
      obtain ⟨t, h1, h2, h3, h4⟩ := hm a ha
      have e2 := (h4 b hb q.symm).resolve_left (fun z => hab z.symm)
      rcases h4 x hx ex with r | r
      · exact Or.inl r
      · exact Or.inr (r.trans e2.symm)
    refine h.mul hp (fun y t e => if e = a ∨ e = b then t else y e) (fun y t hy ht => ?_) (fun y y' t u hy hy' ht hu e => ?_) (fun y hy => ?_)
    · obtain ⟨y1, y2, y3, y4⟩ := hy
      refine ⟨fun e he => ?_, fun e => ?_, fun e e' he he' ef => ?_, ?_, ?_⟩
      · obtain ⟨n1, n2, n3⟩ := vn e he
        show (if e = a ∨ e = b then t else y e) = 0
        rw [if_neg (by omega)]
        exact y1 e n3
      · show (if e = a ∨ e = b then t else y e) < p
        by_cases z : e = a ∨ e = b
        · rw [if_pos z]; exact ht
        · rw [if_neg z]; exact y2 e
      · show (if e = a ∨ e = b then t else y e) = (if e' = a ∨ e' = b then t else y e')
        by_cases z : e = a ∨ e = b
        · have z' : e' = a ∨ e' = b := two e' he' (by rcases z with rfl | rfl; exact ef.symm; exact ef.symm.trans q.symm)
          rw [if_pos z, if_pos z']
        · have z' : ¬ (e' = a ∨ e' = b) := fun w => z (two e he (by rcases w with rfl | rfl; exact ef; exact ef.trans q.symm))
          rw [if_neg z, if_neg z']
          exact y3 e e' (dl2_iff.mpr ⟨he, by omega, by omega⟩) (dl2_iff.mpr ⟨he', by omega, by omega⟩) ef
      · exact (hE _ y (fun e n1 n2 => if_neg (by omega))).mpr y4
      · show (if a = a ∨ a = b then t else y a) = (if b = a ∨ b = b then t else y b)
        rw [if_pos (Or.inl rfl), if_pos (Or.inr rfl)]
    · obtain ⟨o1, o2⟩ := off y hy
      obtain ⟨o3, o4⟩ := off y' hy'
      refine ⟨?_, ?_⟩
      · funext x
        by_cases z : x = a
        · rw [z, o1, o3]
        · by_cases z2 : x = b
          · rw [z2, o2, o4]
          · have := congrFun e x
            simp only [if_neg (show ¬ (x = a ∨ x = b) by omega)] at this
            exact this
      · have := congrFun e a
        simp only [if_pos (show a = a ∨ a = b from Or.inl rfl)] at this
        exact this
    · obtain ⟨y1, y2, y3, y4, y5⟩ := hy
      refine ⟨fun e => if e = a ∨ e = b then 0 else y e, y a, ⟨fun e he => ?_, fun e => ?_, fun e e' he he' ef => ?_, ?_⟩, y2 a, ?_⟩
      · show (if e = a ∨ e = b then 0 else y e) = 0
        by_cases z : e = a ∨ e = b
        · rw [if_pos z]
        · rw [if_neg z]
          refine y1 e (Bool.eq_false_iff.mpr (fun w => ?_))
          rw [dl2_iff.mpr ⟨w, by omega, by omega⟩] at he
          cases he
      · show (if e = a ∨ e = b then 0 else y e) < p
        by_cases z : e = a ∨ e = b
        · rw [if_pos z]; exact hp
        · rw [if_neg z]; exact y2 e
      · obtain ⟨v1, v2, v3⟩ := dl2_iff.mp he
        obtain ⟨w1, w2, w3⟩ := dl2_iff.mp he'
        show (if e = a ∨ e = b then 0 else y e) = (if e' = a ∨ e' = b then 0 else y e')
        rw [if_neg (by omega), if_neg (by omega)]
        exact y3 e e' v1 w1 ef
      · exact (hE _ y (fun e n1 n2 => if_neg (by omega))).mpr y4
      · funext e
        show (if e = a ∨ e = b then y a else if e = a ∨ e = b then 0 else y e) = y e
        by_cases z : e = a ∨ e = b
        · rw [if_pos z]
          rcases z with rfl | rfl
          · rfl
          · exact y5
        · rw [if_neg z, if_neg z]
  · have eO : jnO f a b = 0 := by unfold jnO; rw [if_neg q]
    have eF : jnF f a b = rel f (min (f a) (f b)) (max (f a) (f b)) := by unfold jnF; rw [if_neg q]
    rw [eO, Nat.pow_zero, Nat.mul_one]
    obtain ⟨a', a1, a2, a3, a4⟩ := hm a ha
    obtain ⟨b', b1, b2, b3, b4⟩ := hm b hb
    have ab' : a' ≠ b := fun z => q (by rw [← z, a3])
    have ba' : b' ≠ a := fun z => q (by rw [← z, b3])
    have Va' : dl2 V a b a' = true := dl2_iff.mpr ⟨a1, a2, ab'⟩
    have Vb' : dl2 V a b b' = true := dl2_iff.mpr ⟨b1, ba', b2⟩
    have jab : jnF f a b a' = jnF f a b b' := by rw [eF]; exact rel_eq.mpr (Or.inr ⟨Or.inl a3, Or.inr b3⟩)
    have g_o : ∀ x, x ≠ a → x ≠ b → (if x = a then a' else if x = b then b' else x) = x := fun x h1 h2 => by rw [if_neg h1, if_neg h2]
    have g_a : (if a = a then a' else if a = b then b' else a) = a' := if_pos rfl
    have g_b : (if b = a then a' else if b = b then b' else b) = b' := by rw [if_neg (fun z => hab z.symm), if_pos rfl]
    have g_V : ∀ x, V x = true → dl2 V a b (if x = a then a' else if x = b then b' else x) = true := fun x hx => by
      by_cases z1 : x = a
      · subst z1; rw [if_pos rfl]; exact Va'
      · by_cases z2 : x = b
        · subst z2; rw [if_neg z1, if_pos rfl]; exact Vb'
        · rw [g_o x z1 z2]; exact dl2_iff.mpr ⟨hx, z1, z2⟩
    have g_f : ∀ x, f (if x = a then a' else if x = b then b' else x) = f x := fun x => by
      by_cases z1 : x = a
      · subst z1; rw [if_pos rfl]; exact a3
      · by_cases z2 : x = b
        · subst z2; rw [if_neg z1, if_pos rfl]; exact b3
        · rw [g_o x z1 z2]
    refine h.bij (fun y e => y (if e = a then a' else if e = b then b' else e)) (fun y hy => ?_) (fun y y' hy hy' e => ?_) (fun y hy => ?_)
    · obtain ⟨y1, y2, y3, y4⟩ := hy
      refine ⟨fun e he => ?_, fun e => y2 _, fun e e' he he' ef => y3 _ _ (g_V e he) (g_V e' he') (jn_eq (by rw [g_f, g_f]; exact ef)), ?_, ?_⟩
      · obtain ⟨n1, n2, n3⟩ := vn e he
        show y (if e = a then a' else if e = b then b' else e) = 0
        rw [g_o e n1 n2]
        exact y1 e n3
      · exact (hE _ y (fun e n1 n2 => by show y (if e = a then a' else if e = b then b' else e) = y e; rw [g_o e n1 n2])).mpr y4
      · show y (if a = a then a' else if a = b then b' else a) = y (if b = a then a' else if b = b then b' else b)
        rw [g_a, g_b]
        exact y3 _ _ Va' Vb' jab
    · obtain ⟨o1, o2⟩ := off y hy
      obtain ⟨o3, o4⟩ := off y' hy'
      funext x
      by_cases z : x = a
      · rw [z, o1, o3]
      · by_cases z2 : x = b
        · rw [z2, o2, o4]
        · have := congrFun e x
          simp only [g_o x z z2] at this
          exact this
    · obtain ⟨y1, y2, y3, y4, y5⟩ := hy
      refine ⟨fun e => if e = a ∨ e = b then 0 else y e, ⟨fun e he => ?_, fun e => ?_, fun e e' he he' ef => ?_, ?_⟩, ?_⟩
      · show (if e = a ∨ e = b then 0 else y e) = 0
        by_cases z : e = a ∨ e = b
        · rw [if_pos z]
        · rw [if_neg z]
          refine y1 e (Bool.eq_false_iff.mpr (fun w => ?_))
          rw [dl2_iff.mpr ⟨w, by omega, by omega⟩] at he
          cases he
      · show (if e = a ∨ e = b then 0 else y e) < p
        by_cases z : e = a ∨ e = b
        · rw [if_pos z]; exact hp
        · rw [if_neg z]; exact y2 e
      · obtain ⟨v1, v2, v3⟩ := dl2_iff.mp he
        obtain ⟨w1, w2, w3⟩ := dl2_iff.mp he'
        show (if e = a ∨ e = b then 0 else y e) = (if e' = a ∨ e' = b then 0 else y e')
        rw [if_neg (by omega), if_neg (by omega)]
        rw [eF] at ef
        have to : ∀ e, V e = true → (f e = f a ∨ f e = f b) → y e = y a := fun e he z => by
          rcases z with z | z
          · exact y3 e a he ha z
          · exact (y3 e b he hb z).trans y5.symm
        rcases rel_eq.mp ef with z | ⟨z1, z2⟩
        · exact y3 e e' v1 w1 z
        · exact (to e v1 z1).trans (to e' w1 z2).symm
      · exact (hE _ y (fun e n1 n2 => if_neg (by omega))).mpr y4
      · funext e
        show (if (if e = a then a' else if e = b then b' else e) = a ∨ (if e = a then a' else if e = b then b' else e) = b then 0 else y (if e = a then a' else if e = b then b' else e)) = y e
        by_cases z1 : e = a
        · rw [z1, g_a, if_neg (by omega)]; exact y3 _ _ a1 ha a3
        · by_cases z2 : e = b
          · rw [z2, g_b, if_neg (by omega)]; exact y3 _ _ b1 hb b3
          · rw [g_o e z1 z2, if_neg (by omega)]
theorem col_move {V : Nat → Bool} {f g : Nat → Nat} {p n c c' : Nat} {de ga nu : Nat → Nat} {E : (Nat → Nat) → Prop} (hp : 0 < p) {Out : Nat → Prop} (hE : ∀ y, E y ↔ ∀ u, u < c → Out u → CE p y u)
    (hd : ∀ x, x < 4 * c' → V (de x) = true ∧ ga (de x) = x ∧ g x = f (de x)) (hg : ∀ e, V e = true → ga e < 4 * c' ∧ de (ga e) = e) (hn : ∀ u i, u < c' → i < 4 → de (4 * u + i) = 4 * nu u + i) (hn2 : ∀ u, u < c' → nu u < c ∧ Out (nu u)) (hn3 : ∀ u, u < c → Out u → ∃ u', u' < c' ∧ nu u' = u)
    (h : HC (ColV (Vlt (4 * c')) g p (fun y => ∀ u, u < c' → CE p y u)) n) : HC (ColV V f p E) n := by
  have val : ∀ (y : Nat → Nat) u i, u < c' → i < 4 → (if V (4 * nu u + i) = true then y (ga (4 * nu u + i)) else 0) = y (4 * u + i) := fun y u i hu hi => by
    have a := hd (4 * u + i) (by omega)
    rw [hn u i hu hi] at a
    rw [if_pos a.1, a.2.1]
  have ce : ∀ (y : Nat → Nat) u, u < c' → (CE p (fun e => if V e = true then y (ga e) else 0) (nu u) ↔ CE p y u) := fun y u hu => by
    unfold CE
    have v0 := val y u 0 hu (by omega)
    have v1 := val y u 1 hu (by omega)
    have v2 := val y u 2 hu (by omega)
    have v3 := val y u 3 hu (by omega)
    simp only [Nat.add_zero] at v0
    simp only [v0, v1, v2, v3]
  refine h.bij (fun y e => if V e = true then y (ga e) else 0) (fun y hy => ?_) (fun y y' hy hy' e => ?_) (fun y hy => ?_)
  · obtain ⟨y1, y2, y3, y4⟩ := hy
    refine ⟨fun e he => ?_, fun e => ?_, fun e e' he he' ef => ?_, ?_⟩
    · show (if V e = true then y (ga e) else 0) = 0
      rw [he]; rfl
    · show (if V e = true then y (ga e) else 0) < p
      by_cases z : V e = true
      · rw [if_pos z]; exact y2 _
      · rw [if_neg z]; exact hp
    · show (if V e = true then y (ga e) else 0) = (if V e' = true then y (ga e') else 0)
      obtain ⟨k1, k2⟩ := hg e he
      obtain ⟨k3, k4⟩ := hg e' he'
      rw [if_pos he, if_pos he']
      exact y3 _ _ (Vlt_iff.mpr k1) (Vlt_iff.mpr k3) (by rw [(hd _ k1).2.2, (hd _ k3).2.2, k2, k4]; exact ef)
    · refine (hE _).mpr (fun u hu ho => ?_)
      obtain ⟨u', h1, rfl⟩ := hn3 u hu ho
      exact (ce y u' h1).mpr (y4 u' h1)
  · funext x
    by_cases z : x < 4 * c'
    · obtain ⟨d1, d2, _⟩ := hd x z
      have := congrFun e (de x)
      simp only [if_pos d1, d2] at this
      exact this
    · have v : Vlt (4 * c') x = false := Bool.eq_false_iff.mpr (fun w => z (Vlt_iff.mp w))
      rw [hy.1 x v, hy'.1 x v]
  · obtain ⟨y1, y2, y3, y4⟩ := hy
    have back : ∀ e, (if V e = true then (if ga e < 4 * c' then y (de (ga e)) else 0) else 0) = y e := fun e => by
      by_cases z : V e = true
      · obtain ⟨k1, k2⟩ := hg e z
        rw [if_pos z, if_pos k1, k2]
      · rw [if_neg z, y1 e (by simpa using z)]
    refine ⟨fun x => if x < 4 * c' then y (de x) else 0, ⟨fun x hx => ?_, fun x => ?_, fun x x' hx hx' ef => ?_, fun u hu => ?_⟩, funext back⟩
    · show (if x < 4 * c' then y (de x) else 0) = 0
      rw [if_neg (fun z => by rw [Vlt_iff.mpr z] at hx; cases hx)]
    · show (if x < 4 * c' then y (de x) else 0) < p
      by_cases z : x < 4 * c'
      · rw [if_pos z]; exact y2 _
      · rw [if_neg z]; exact hp
    · have k1 := Vlt_iff.mp hx
      have k2 := Vlt_iff.mp hx'
      show (if x < 4 * c' then y (de x) else 0) = (if x' < 4 * c' then y (de x') else 0)
      rw [if_pos k1, if_pos k2]
      exact y3 _ _ (hd x k1).1 (hd x' k2).1 (by rw [← (hd x k1).2.2, ← (hd x' k2).2.2]; exact ef)
    · refine (ce _ u hu).mp ?_
      have e : (fun e => if V e = true then (if ga e < 4 * c' then y (de (ga e)) else 0) else 0) = y := funext back
      show CE p (fun e => if V e = true then (if ga e < 4 * c' then y (de (ga e)) else 0) else 0) (nu u)
      rw [e]
      exact (hE y).mp y4 _ (hn2 u hu).1 (hn2 u hu).2
theorem col_V {c o p : Nat} {f : Nat → Nat} (hV : Vd c o f) (y : Nat → Nat) : Col c f p y ↔ ColV (Vlt (4 * c)) f p (fun y => ∀ u, u < c → CE p y u) y := by
  have ht := ot_inv hV
  constructor
  · rintro ⟨a, b, d, g⟩
    refine ⟨fun e he => a e (Nat.le_of_not_lt (fun z => by rw [Vlt_iff.mpr z] at he; cases he)), b, fun e e' he he' ef => ?_, g⟩
    rcases ot_only hV (Vlt_iff.mp he) (Vlt_iff.mp he') ef with r | r
    · rw [r]
    · rw [r]; exact (d e (Vlt_iff.mp he)).symm
  · rintro ⟨a, b, d, g⟩
    refine ⟨fun e he => a e (Bool.eq_false_iff.mpr (fun z => by have := Vlt_iff.mp z; omega)), b, fun e he => ?_, g⟩
    exact d _ _ (Vlt_iff.mpr (ht e he).1) (Vlt_iff.mpr he) (ot_f hV he)
/-- the equation at a crossing, seen from the end i -/
theorem CE_en {p v i : Nat} (hi : i < 4) (y : Nat → Nat) : CE p y v ↔ if i % 2 = 0 then (y (en v (i + 1)) = y (en v (i + 3)) ∧ (y (en v i) + y (en v (i + 2))) % p = (2 * y (en v (i + 1))) % p) else (y (en v i) = y (en v (i + 2)) ∧ (y (en v (i + 1)) + y (en v (i + 3))) % p = (2 * y (en v i)) % p) := by
  unfold CE en
  rcases (show i = 0 ∨ i = 1 ∨ i = 2 ∨ i = 3 by omega) with rfl | rfl | rfl | rfl
  · simp
  · simp [Nat.add_comm (y (4 * v + 2))]
  · simp only [show (2 : Nat) % 2 = 0 from rfl, if_true, show (2 + 1) % 4 = 3 from rfl, show (2 + 3) % 4 = 1 from rfl, show (2 : Nat) % 4 = 2 from rfl, show (2 + 2) % 4 = 0 from rfl, Nat.add_zero]
    constructor
    · rintro ⟨a, b⟩; exact ⟨a.symm, by rw [Nat.add_comm, b, a]⟩
    · rintro ⟨a, b⟩; exact ⟨a.symm, by rw [Nat.add_comm, b, a]⟩
  · simp only [show ¬ (3 : Nat) % 2 = 0 from by decide, if_false, show (3 + 1) % 4 = 0 from rfl, show (3 + 3) % 4 = 2 from rfl, show (3 : Nat) % 4 = 3 from rfl, show (3 + 2) % 4 = 1 from rfl, Nat.add_zero]
    constructor
    · rintro ⟨a, b⟩; exact ⟨a.symm, by rw [b, a]⟩
    · rintro ⟨a, b⟩; exact ⟨a.symm, by rw [b, a]⟩
theorem mod_same {p a b : Nat} (hp : isP p) (ha : a < p) (hb : b < p) (h : (a + b) % p = (2 * a) % p) : b = a := by
  rcases hp with rfl | rfl | rfl | rfl <;> omega
theorem kink_col {c o p n : Nat} {f : Nat → Nat} (hp : isP p) (hV : Vd c o f) {v k : Nat} (hv : v < c) (hk : k < 4) (hE : kE f v k) (ho : (kkD (c, o, f) v k).2.1 ≤ 4) (h : HC (Col (c - 1) (kkD (c, o, f) v k).2.2 p) n) : HC (Col c f p) (n * p ^ jnO f (en v (k + 2)) (en v (k + 3))) := by
  have hp0 := (isP_lt hp).1
  have hW : Vd (c - 1) (kkD (c, o, f) v k).2.1 (kkD (c, o, f) v k).2.2 := kk_VS (d := (c, o, f)) hV hv hk hE ho
  have n01 : en v k ≠ en v (k + 1) := by unfold en; omega
  have n23 : en v (k + 2) ≠ en v (k + 3) := by unfold en; omega
  have hne : en v (k + 2) ≠ en v k ∧ en v (k + 2) ≠ en v (k + 1) ∧ en v (k + 3) ≠ en v k ∧ en v (k + 3) ≠ en v (k + 1) := by unfold en; omega
  have lv : ∀ i, Vlt (4 * c) (en v i) = true := fun i => Vlt_iff.mpr (en_lt4 hv)
  have two : ∀ x, x < 4 * c → f x = f (en v k) → x = en v k ∨ x = en v (k + 1) := fun x hx ex => by
    obtain ⟨t, h1, h2, h3, h4⟩ := (Vd.mt hV) (en v k) (en_lt4 hv)
    have e2 := (h4 (en v (k + 1)) (en_lt4 hv) hE.symm).resolve_left (fun z => n01 z.symm)
    rcases h4 x hx ex with r | r
    · exact Or.inl r
    · exact Or.inr (r.trans e2.symm)
  have m1 := mt_del (mt_V hV) (lv k) (lv (k + 1)) n01 hE
  have v2 : dl2 (Vlt (4 * c)) (en v k) (en v (k + 1)) (en v (k + 2)) = true := dl2_iff.mpr ⟨lv _, hne.1, hne.2.1⟩
  have v3 : dl2 (Vlt (4 * c)) (en v k) (en v (k + 1)) (en v (k + 3)) = true := dl2_iff.mpr ⟨lv _, hne.2.2.1, hne.2.2.2⟩
  have all4 : ∀ x, x / 4 = v → x = en v k ∨ x = en v (k + 1) ∨ x = en v (k + 2) ∨ x = en v (k + 3) := fun x hx => en_all hk hx
  -- the diagram without v
  have s1 : HC (ColV (dl2 (dl2 (Vlt (4 * c)) (en v k) (en v (k + 1))) (en v (k + 2)) (en v (k + 3))) (jnF f (en v (k + 2)) (en v (k + 3))) p (fun y => ∀ u, u < c → u ≠ v → CE p y u)) n := by
    have vv : ∀ x, dl2 (dl2 (Vlt (4 * c)) (en v k) (en v (k + 1))) (en v (k + 2)) (en v (k + 3)) x = true ↔ x < 4 * c ∧ x / 4 ≠ v := fun x => by
      rw [dl2_iff, dl2_iff, Vlt_iff]
      have := en4 v x hk
      constructor
      · rintro ⟨⟨h0, h1, h2⟩, h3, h4⟩; exact ⟨h0, this.mp ⟨h1, h2, h3, h4⟩⟩
      · rintro ⟨h0, h1⟩
        obtain ⟨a1, a2, a3, a4⟩ := this.mpr h1
        exact ⟨⟨h0, a1, a2⟩, a3, a4⟩
    refine col_move (c := c) (c' := c - 1) (g := (kkD (c, o, f) v k).2.2) (de := dl v) (ga := dm v) (nu := fun u => if u < v then u else u + 1) (Out := fun u => u ≠ v) (by omega) (fun y => Iff.rfl) (fun x hx => ⟨(vv _).mpr ⟨dl_lt hv hx, dl_ne v x⟩, dm_dl v x, dl_drp _ v x⟩) (fun e he => ?_) (fun u i hu hi => dl_4 v u i hi) (fun u hu => ?_) (fun u hu hne => ?_) (h.congr (fun y => col_V hW y))
    · obtain ⟨h1, h2⟩ := (vv e).mp he
      exact ⟨dm_lt hv h1 h2, dl_dm h2⟩
    · by_cases z : u < v
      · simp only [if_pos z]; omega
      · simp only [if_neg z]; omega
    · by_cases z : u < v
      · exact ⟨u, by omega, if_pos z⟩
      · exact ⟨u - 1, by omega, by rw [if_neg (by omega)]; omega⟩
  have s2 := col_jn (p := p) (E := fun y => ∀ u, u < c → u ≠ v → CE p y u) (by omega) m1 v2 v3 n23 (fun y y' hy => by
    have key : ∀ u, u ≠ v → (CE p y u ↔ CE p y' u) := fun u hu => by
      unfold CE
      rw [hy (4 * u) (by unfold en; omega) (by unfold en; omega), hy (4 * u + 1) (by unfold en; omega) (by unfold en; omega), hy (4 * u + 2) (by unfold en; omega) (by unfold en; omega), hy (4 * u + 3) (by unfold en; omega) (by unfold en; omega)]
    exact ⟨fun z u h1 h2 => (key u h2).mp (z u h1 h2), fun z u h1 h2 => (key u h2).mpr (z u h1 h2)⟩) s1
  refine s2.bij (fun y e => if e = en v k ∨ e = en v (k + 1) then y (en v (k + 2)) else y e) (fun y hy => ?_) (fun y y' hy hy' e => ?_) (fun y hy => ?_)
  · obtain ⟨y1, y2, y3, y4, y5⟩ := hy
    refine (col_V hV _).mpr ⟨fun e he => ?_, fun e => ?_, fun e e' he he' ef => ?_, fun u hu => ?_⟩
    · show (if e = en v k ∨ e = en v (k + 1) then y (en v (k + 2)) else y e) = 0
      have hn : ¬ (e = en v k ∨ e = en v (k + 1)) := fun z => by rcases z with rfl | rfl <;> rw [lv] at he <;> cases he
      rw [if_neg hn]
      refine y1 e (Bool.eq_false_iff.mpr (fun w => ?_))
      rw [(dl2_iff.mp w).1] at he; cases he
    · show (if e = en v k ∨ e = en v (k + 1) then y (en v (k + 2)) else y e) < p
      by_cases z : e = en v k ∨ e = en v (k + 1)
      · rw [if_pos z]; exact y2 _
      · rw [if_neg z]; exact y2 _
    · show (if e = en v k ∨ e = en v (k + 1) then y (en v (k + 2)) else y e) = (if e' = en v k ∨ e' = en v (k + 1) then y (en v (k + 2)) else y e')
      have h1 := Vlt_iff.mp he
      have h2 := Vlt_iff.mp he'
      by_cases z : e = en v k ∨ e = en v (k + 1)
      · have z' : e' = en v k ∨ e' = en v (k + 1) := two e' h2 (by rcases z with rfl | rfl; exact ef.symm; exact ef.symm.trans hE.symm)
        rw [if_pos z, if_pos z']
      · have z' : ¬ (e' = en v k ∨ e' = en v (k + 1)) := fun w => z (two e h1 (by rcases w with rfl | rfl; exact ef; exact ef.trans hE.symm))
        rw [if_neg z, if_neg z']
        exact y3 e e' (dl2_iff.mpr ⟨he, fun w => z (Or.inl w), fun w => z (Or.inr w)⟩) (dl2_iff.mpr ⟨he', fun w => z' (Or.inl w), fun w => z' (Or.inr w)⟩) ef
    · by_cases z : u = v
      · have val : ∀ x, x / 4 = v → (if x = en v k ∨ x = en v (k + 1) then y (en v (k + 2)) else y x) = y (en v (k + 2)) := fun x hx => by
          by_cases w : x = en v k ∨ x = en v (k + 1)
          · rw [if_pos w]
          · rw [if_neg w]
            rcases all4 x hx with r | r | r | r
            · exact absurd (Or.inl r) w
            · exact absurd (Or.inr r) w
            · rw [r]
            · rw [r]; exact y5.symm
        subst z
        unfold CE
        simp only [val (4 * u) (by omega), val (4 * u + 1) (by omega), val (4 * u + 2) (by omega), val (4 * u + 3) (by omega)]
        exact ⟨trivial, by congr 1; omega⟩
      · have val : ∀ x, x / 4 = u → (if x = en v k ∨ x = en v (k + 1) then y (en v (k + 2)) else y x) = y x := fun x hx => if_neg (fun w => by rcases w with rfl | rfl <;> rw [en_div] at hx <;> exact z hx.symm)
        have := y4 u hu z
        unfold CE at this ⊢
        simp only [val (4 * u) (by omega), val (4 * u + 1) (by omega), val (4 * u + 2) (by omega), val (4 * u + 3) (by omega)]
        exact this
  · funext x
    by_cases z : x = en v k
    · rw [z, hy.1 _ dl2_off.1, hy'.1 _ dl2_off.1]
    · by_cases z2 : x = en v (k + 1)
      · rw [z2, hy.1 _ dl2_off.2, hy'.1 _ dl2_off.2]
      · have := congrFun e x
        simp only [if_neg (show ¬ (x = en v k ∨ x = en v (k + 1)) from fun w => w.elim z z2)] at this
        exact this
  · obtain ⟨y1, y2, y3, y4⟩ := (col_V hV y).mp hy
    have a01 : y (en v k) = y (en v (k + 1)) := y3 _ _ (lv _) (lv _) hE
    have eqs : y (en v (k + 2)) = y (en v (k + 3)) ∧ y (en v k) = y (en v (k + 2)) := by
      have := (CE_en hk y).mp (y4 v hv)
      by_cases q : k % 2 = 0
      · rw [if_pos q] at this
        obtain ⟨g1, g2⟩ := this
        rw [a01] at g2
        have := mod_same hp (y2 _) (y2 _) g2
        rw [this, ← g1, a01]; exact ⟨rfl, rfl⟩
      · rw [if_neg q] at this
        obtain ⟨g1, g2⟩ := this
        rw [← a01] at g2
        have := mod_same hp (y2 _) (y2 _) g2
        rw [this, ← g1]; exact ⟨rfl, rfl⟩
    refine ⟨fun e => if e = en v k ∨ e = en v (k + 1) then 0 else y e, ⟨fun e he => ?_, fun e => ?_, fun e e' he he' ef => ?_, fun u hu hne => ?_, ?_⟩, ?_⟩
    · show (if e = en v k ∨ e = en v (k + 1) then 0 else y e) = 0
      by_cases z : e = en v k ∨ e = en v (k + 1)
      · rw [if_pos z]
      · rw [if_neg z]
        refine y1 e (Bool.eq_false_iff.mpr (fun w => ?_))
        rw [dl2_iff.mpr ⟨w, fun w => z (Or.inl w), fun w => z (Or.inr w)⟩] at he; cases he
    · show (if e = en v k ∨ e = en v (k + 1) then 0 else y e) < p
      by_cases z : e = en v k ∨ e = en v (k + 1)
      · rw [if_pos z]; omega
      · rw [if_neg z]; exact y2 _
    · obtain ⟨g1, g2, g3⟩ := dl2_iff.mp he
      obtain ⟨g4, g5, g6⟩ := dl2_iff.mp he'
      show (if e = en v k ∨ e = en v (k + 1) then 0 else y e) = (if e' = en v k ∨ e' = en v (k + 1) then 0 else y e')
      rw [if_neg (fun w => w.elim g2 g3), if_neg (fun w => w.elim g5 g6)]
      exact y3 e e' g1 g4 ef
    · have val : ∀ x, x / 4 = u → (if x = en v k ∨ x = en v (k + 1) then 0 else y x) = y x := fun x hx => if_neg (fun w => by rcases w with rfl | rfl <;> rw [en_div] at hx <;> exact hne hx.symm)
      have := y4 u hu
      unfold CE at this ⊢
      simp only [val (4 * u) (by omega), val (4 * u + 1) (by omega), val (4 * u + 2) (by omega), val (4 * u + 3) (by omega)]
      exact this
    · show (if en v (k + 2) = en v k ∨ en v (k + 2) = en v (k + 1) then 0 else y (en v (k + 2))) = (if en v (k + 3) = en v k ∨ en v (k + 3) = en v (k + 1) then 0 else y (en v (k + 3)))
      rw [if_neg (fun w => w.elim hne.1 hne.2.1), if_neg (fun w => w.elim hne.2.2.1 hne.2.2.2)]
      exact eqs.1
    · funext e
      show (if e = en v k ∨ e = en v (k + 1) then (if en v (k + 2) = en v k ∨ en v (k + 2) = en v (k + 1) then 0 else y (en v (k + 2))) else (if e = en v k ∨ e = en v (k + 1) then 0 else y e)) = y e
      by_cases z : e = en v k ∨ e = en v (k + 1)
      · rw [if_pos z, if_neg (fun w => w.elim hne.1 hne.2.1)]
        rcases z with rfl | rfl
        · exact eqs.2.symm
        · rw [← a01]; exact eqs.2.symm
      · rw [if_neg z, if_neg z]
