/-! ===== orientations, the writhe ===== -/
def Ori (c : Nat) (f : Nat → Nat) (mu : Nat → Bool) : Prop := ∀ x, x < 4 * c → mu (tn 2 x) = !mu x ∧ mu (ot c f x) = !mu x
def sgZ (mu : Nat → Bool) (v : Nat) : Int := if mu (4 * v) = mu (4 * v + 3) then 1 else -1
def wZ (mu : Nat → Bool) (c : Nat) : Int := fb_si (sgZ mu) c
theorem sgs_wZ (m : Int32) : ∀ c, sgs m c = Int32.ofInt (wZ (bt m) c)
  | 0 => rfl
  | c + 1 => by
    show sgs m c + sgn m c = Int32.ofInt (wZ (bt m) c + sgZ (bt m) c)
    rw [Int32.ofInt_add, ← sgs_wZ m c]
    congr 1
    unfold sgn sgZ
    by_cases q : bt m (4 * c) = bt m (4 * c + 3)
    · rw [if_pos q, if_pos q]; rfl
    · rw [if_neg q, if_neg q]; rfl
theorem ori_class {c o : Nat} {f : Nat → Nat} (hV : Vd c o f) {m : Int32} (h : OKm c f 17 m) : Ori c f (bt m) := fun x hx => by
  obtain ⟨_, _, h3, h4, h5⟩ := h
  have t22 : ∀ y, tn 2 (tn 2 y) = y := fun y => by unfold tn; omega
  have some : ∀ y, y < 4 * c → bt m y = true ∨ bt m (tn 2 y) = true := fun y hy => by
    have := h5 y hy (by have := hV.le16 y; omega)
    unfold sym at this
    rw [Bool.or_eq_true] at this
    exact this
  have a1 : bt m (tn 2 x) = !bt m x := by
    cases q : bt m x with
    | true => exact h3 x hx q
    | false => exact (some x hx).resolve_left (by rw [q]; decide)
  refine ⟨a1, ?_⟩
  cases q : bt m x with
  | false =>
    rw [q] at a1
    have := h4 _ (tn_lt hx) a1
    have e : p2 c f (tn 2 x) = ot c f x := by unfold p2; rw [t22]
    rw [e] at this
    rw [this]; rfl
  | true =>
    have hP := p2_perm hV
    obtain ⟨k, k1, k2, k3⟩ := orb_per hP hx
    have all : ∀ n, bt m (itr (p2 c f) n x) = true := by
      intro n
      induction n with
      | zero => exact q
      | succ n ih => exact h4 _ (itr_lt hP hx n) ih
    obtain ⟨j, rfl⟩ : ∃ j, k = j + 1 := ⟨k - 1, by omega⟩
    have hy := itr_lt hP hx j
    have e : ot c f (tn 2 (itr (p2 c f) j x)) = x := k3
    have e2 : ot c f x = tn 2 (itr (p2 c f) j x) := by
      rw [← e, (ot_inv hV _ (tn_lt hy)).2.1]
      exact congrArg (tn 2) (by rw [e])
    rw [e2, h3 _ hy (all j)]; rfl
theorem ori_unique {c o : Nat} {f : Nat → Nat} (hV : Vd c o f) {mu nu : Nat → Bool} (h1 : Ori c f mu) (h2 : Ori c f nu) (hone : nCl c f 2 = 1) {x y : Nat} (hx : x < 4 * c) (hy : y < 4 * c) : mu x = nu x ↔ mu y = nu y := by
  rw [nCl_cc hV] at hone
  have c1 := cc_all hone hx hy (Vlt_iff.mpr hx) (Vlt_iff.mpr hy)
  refine c1 (fun z => mu z = nu z) (fun u w r => ?_)
  obtain ⟨hu, rfl | rfl⟩ := r
  · rw [(h1 u hu).2, (h2 u hu).2]
    cases mu u <;> cases nu u <;> decide
  · rw [(h1 u hu).1, (h2 u hu).1]
    cases mu u <;> cases nu u <;> decide
theorem ori_w {c o : Nat} {f : Nat → Nat} (hV : Vd c o f) {mu nu : Nat → Bool} (h1 : Ori c f mu) (h2 : Ori c f nu) (hone : c = 0 ∨ nCl c f 2 = 1) : wZ mu c = wZ nu c := by
  rcases hone with rfl | hone
  · rfl
  · refine fb_si_cong (fun v hv => ?_)
    have u := ori_unique hV h1 h2 hone (x := 4 * v) (y := 4 * v + 3) (by omega) (by omega)
    unfold sgZ
    have : (mu (4 * v) = mu (4 * v + 3)) ↔ (nu (4 * v) = nu (4 * v + 3)) := by
      revert u
      cases mu (4 * v) <;> cases mu (4 * v + 3) <;> cases nu (4 * v) <;> cases nu (4 * v + 3) <;> decide
    by_cases q : mu (4 * v) = mu (4 * v + 3)
    · rw [if_pos q, if_pos (this.mp q)]
    · rw [if_neg q, if_neg (fun z => q (this.mpr z))]
/-! mirror -/
theorem mir_ori {c o : Nat} {f : Nat → Nat} (hV : Vd c o f) {mu : Nat → Bool} (h : Ori c f mu) : Ori c (mirF f c) (fun x => mu (tn 1 x)) := fun x hx => by
  have h1 : tn 1 x < 4 * c := tn_lt hx
  refine ⟨?_, ?_⟩
  · show mu (tn 1 (tn 2 x)) = !mu (tn 1 x)
    rw [show tn 1 (tn 2 x) = tn 2 (tn 1 x) by unfold tn; omega]
    exact (h _ h1).1
  · show mu (tn 1 (ot c (mirF f c) x)) = !mu (tn 1 x)
    rw [mir_ot hV hx, (tn_tn _).2]
    exact (h _ h1).2
theorem mir_w {c : Nat} {f : Nat → Nat} {mu : Nat → Bool} (h : Ori c f mu) : wZ (fun x => mu (tn 1 x)) c = -wZ mu c := by
  unfold wZ
  rw [← si_neg]
  refine fb_si_cong (fun v hv => ?_)
  have a := (h (4 * v + 1) (by omega)).1
  rw [show tn 2 (4 * v + 1) = 4 * v + 3 by unfold tn; omega] at a
  show (if mu (tn 1 (4 * v)) = mu (tn 1 (4 * v + 3)) then (1 : Int) else -1) = -(if mu (4 * v) = mu (4 * v + 3) then (1 : Int) else -1)
  rw [show tn 1 (4 * v) = 4 * v + 1 by unfold tn; omega, show tn 1 (4 * v + 3) = 4 * v by unfold tn; omega, a]
  cases mu (4 * v) <;> cases mu (4 * v + 1) <;> decide
/-! removals -/
def OriS (V : Nat → Bool) (f : Nat → Nat) (mu : Nat → Bool) : Prop := ∀ x y, V x = true → V y = true → x ≠ y → f x = f y → mu y = !mu x
theorem oris_of {c o : Nat} {f : Nat → Nat} (hV : Vd c o f) {mu : Nat → Bool} (h : Ori c f mu) : OriS (Vlt (4 * c)) f mu := fun x y hx hy ne e => by
  have hx := Vlt_iff.mp hx
  have hy := Vlt_iff.mp hy
  rcases ot_only hV hx hy e with r | r
  · exact absurd r.symm ne
  · rw [r]; exact (h x hx).2
theorem oris_jn {V : Nat → Bool} {f : Nat → Nat} {mu : Nat → Bool} (h : OriS V f mu) {p q : Nat} (hp : V p = true) (hq : V q = true) (e : mu q = !mu p) : OriS (dl2 V p q) (jnF f p q) mu := fun x y hx hy ne ef => by
  obtain ⟨vx, xp, xq⟩ := dl2_iff.mp hx
  obtain ⟨vy, yp, yq⟩ := dl2_iff.mp hy
  unfold jnF at ef
  by_cases z : f p = f q
  · rw [if_pos z] at ef; exact h x y vx vy ne ef
  · rw [if_neg z] at ef
    rcases rel_eq.mp ef with r | ⟨r1, r2⟩
    · exact h x y vx vy ne r
    · rcases r1 with r1 | r1 <;> rcases r2 with r2 | r2
      · exact h x y vx vy ne (r1.trans r2.symm)
      · have a := h p x hp vx (fun w => xp w.symm) r1.symm
        have b := h q y hq vy (fun w => yq w.symm) r2.symm
        rw [b, a, e]
      · have a := h q x hq vx (fun w => xq w.symm) r1.symm
        have b := h p y hp vy (fun w => yp w.symm) r2.symm
        rw [b, a, e, Bool.not_not]
      · exact h x y vx vy ne (r1.trans r2.symm)
theorem oris_sub {V V2 : Nat → Bool} {f : Nat → Nat} {mu : Nat → Bool} (h : OriS V f mu) (hs : ∀ x, V2 x = true → V x = true) : OriS V2 f mu := fun x y hx hy => h x y (hs x hx) (hs y hy)
theorem si_drop (s : Nat → Int) {c v : Nat} (hv : v < c) : fb_si s c = fb_si (fun u => s (if u < v then u else u + 1)) (c - 1) + s v := by
  obtain ⟨n, rfl⟩ : ∃ n, c = v + (1 + n) := ⟨c - v - 1, by omega⟩
  have e1 : fb_si (fun u => s (if u < v then u else u + 1)) v = fb_si s v := fb_si_cong (fun k hk => by
    show s (if k < v then k else k + 1) = s k
    rw [if_pos hk])
  have e2 : fb_si (fun k => (fun u => s (if u < v then u else u + 1)) (v + k)) n = fb_si (fun k => s (v + (1 + k))) n := fb_si_cong (fun k hk => by
    show s (if v + k < v then v + k else v + k + 1) = s (v + (1 + k))
    rw [if_neg (by omega)]
    congr 1
    omega)
  have e3 : fb_si (fun k => s (v + k)) 1 = s v := by
    rw [fb_si_succ]
    show 0 + s (v + 0) = s v
    rw [Int.zero_add]; rfl
  have A : fb_si s (v + (1 + n)) = fb_si s v + (s v + fb_si (fun k => s (v + (1 + k))) n) := by rw [fb_si_split, fb_si_split, e3]
  have B : fb_si (fun u => s (if u < v then u else u + 1)) (v + n) = fb_si s v + fb_si (fun k => s (v + (1 + k))) n := by rw [fb_si_split, e1, e2]
  rw [show v + (1 + n) - 1 = v + n by omega, A, B]
  omega
theorem dl_4 (v u i : Nat) (hi : i < 4) : dl v (4 * u + i) = 4 * (if u < v then u else u + 1) + i := by
  unfold dl
  by_cases z : u < v
  · rw [if_pos z, if_pos (by omega)]
  · rw [if_neg z, if_neg (by omega)]; omega
theorem w_drop {mu : Nat → Bool} {c v : Nat} (hv : v < c) : wZ mu c = wZ (fun x => mu (dl v x)) (c - 1) + sgZ mu v := by
  unfold wZ
  rw [si_drop _ hv]
  congr 1
  refine fb_si_cong (fun u hu => ?_)
  show sgZ mu (if u < v then u else u + 1) = sgZ (fun x => mu (dl v x)) u
  have a := dl_4 v u 0 (by omega)
  have b := dl_4 v u 3 (by omega)
  have a : dl v (4 * u) = 4 * (if u < v then u else u + 1) := a
  show (if mu (4 * (if u < v then u else u + 1)) = mu (4 * (if u < v then u else u + 1) + 3) then (1 : Int) else -1) = (if mu (dl v (4 * u)) = mu (dl v (4 * u + 3)) then 1 else -1)
  rw [a, b]
theorem ori_drop {c o : Nat} {mu : Nat → Bool} {V : Nat → Bool} {g : Nat → Nat} {v : Nat} (hW : Vd (c - 1) o (drp g v)) (hv : v < c) (hS : OriS V g mu) (hVV : ∀ x, x < 4 * (c - 1) → V (dl v x) = true) (h2 : ∀ x, x < 4 * c → x / 4 ≠ v → mu (tn 2 x) = !mu x) : Ori (c - 1) (drp g v) (fun x => mu (dl v x)) := fun x hx => by
  have ht := ot_inv hW
  obtain ⟨a, b, d⟩ := ht x hx
  refine ⟨?_, ?_⟩
  · show mu (dl v (tn 2 x)) = !mu (dl v x)
    rw [dl_tn]
    exact h2 _ (dl_lt hv hx) (dl_ne v x)
  · show mu (dl v (ot (c - 1) (drp g v) x)) = !mu (dl v x)
    refine hS _ _ (hVV x hx) (hVV _ a) (fun e => d (dl_inj e).symm) ?_
    have := ot_f hW hx
    rw [dl_drp, dl_drp] at this
    exact this.symm
theorem en_tn {v k : Nat} : tn 2 (en v k) = en v (k + 2) ∧ tn 2 (en v (k + 1)) = en v (k + 3) := by unfold tn en; omega
theorem kink_ori {c o : Nat} {f : Nat → Nat} (hV : Vd c o f) {v k : Nat} (hv : v < c) (hk : k < 4) (hE : kE f v k) (ho : (kkD (c, o, f) v k).2.1 ≤ 4) {mu : Nat → Bool} (h : Ori c f mu) :
    Ori (c - 1) (kkD (c, o, f) v k).2.2 (fun x => mu (dl v x)) ∧ sgZ mu v = if k % 2 = 0 then 1 else -1 := by
  have hW : Vd (c - 1) (kkD (c, o, f) v k).2.1 (drp (jnF f (en v (k + 2)) (en v (k + 3))) v) := kk_VS (d := (c, o, f)) hV hv hk hE ho
  have n01 : en v k ≠ en v (k + 1) := by unfold en; omega
  have a0 := oris_of hV h _ _ (Vlt_iff.mpr (en_lt4 (k := k) hv)) (Vlt_iff.mpr (en_lt4 (k := k + 1) hv)) n01 hE
  have a2 := (h _ (en_lt4 (k := k) hv)).1
  have a3 := (h _ (en_lt4 (k := k + 1) hv)).1
  rw [en_tn.1] at a2
  rw [en_tn.2] at a3
  have e23 : mu (en v (k + 3)) = !mu (en v (k + 2)) := by rw [a3, a2, a0]
  refine ⟨?_, ?_⟩
  · refine ori_drop hW hv (oris_jn (oris_of hV h) (Vlt_iff.mpr (en_lt4 hv)) (Vlt_iff.mpr (en_lt4 hv)) e23) (fun x hx => ?_) (fun x hx _ => (h x hx).1)
    rw [dl2_iff]
    have := dl_ne v x
    exact ⟨Vlt_iff.mpr (dl_lt hv hx), fun z => this (by rw [z]; exact en_div v _), fun z => this (by rw [z]; exact en_div v _)⟩
  · unfold sgZ
    unfold en at a0 a2 a3
    rcases (show k = 0 ∨ k = 1 ∨ k = 2 ∨ k = 3 by omega) with rfl | rfl | rfl | rfl
    · simp at a0 a2 a3
      rw [a3, a0]; simp
    · simp at a0 a2 a3
      rw [a2, a3, a0]; simp
    · simp at a0 a2 a3
      rw [a0, a2]; simp
    · simp at a0 a2 a3
      rw [a0]; simp
theorem bigon_ori {c o : Nat} {f : Nat → Nat} (hV : Vd c o f) {v w i j : Nat} (hv : v < c) (hw : w < c) (hvw : v ≠ w) (hi : i < 4) (hj : j < 4) (hE : bE f v w (4 * i + j)) (ho : (bgD (c, o, f) v w (4 * i + j)).2.1 ≤ 4) {mu : Nat → Bool} (h : Ori c f mu) :
    Ori (c - 1 - 1) (bgD (c, o, f) v w (4 * i + j)).2.2 (fun x => mu (dl (max v w) (dl (min v w) x))) ∧ sgZ mu v + sgZ mu w = 0 := by
  have hW : Vd (c - 1 - 1) (bgD (c, o, f) v w (4 * i + j)).2.1 (bgD (c, o, f) v w (4 * i + j)).2.2 := bg_VS (d := (c, o, f)) hV hv hw hvw (by omega) hE ho
  have ei : (4 * i + j) / 4 = i := by omega
  have ej : (4 * i + j) % 4 = j := by omega
  obtain ⟨hp, hE1, hE2⟩ := hE
  rw [ei, ej] at hE1 hE2 hp
  have ef : (bgD (c, o, f) v w (4 * i + j)).2.2 = drp (drp (jnF (jnF f (en v (i + 2)) (en w (j + 3))) (en v (i + 3)) (en w (j + 2))) (max v w)) (min v w) := by
    show drp (drp (bgG f v w (4 * i + j)) (max v w)) (min v w) = _
    unfold bgG bgF
    rw [ei, ej]
  have vw : ∀ a b, en v a ≠ en w b := fun a b => by unfold en; omega
  have b1 := oris_of hV h _ _ (Vlt_iff.mpr (en_lt4 (k := i) hv)) (Vlt_iff.mpr (en_lt4 (k := j + 1) hw)) (vw _ _) hE1
  have b2 := oris_of hV h _ _ (Vlt_iff.mpr (en_lt4 (k := i + 1) hv)) (Vlt_iff.mpr (en_lt4 (k := j) hw)) (vw _ _) hE2
  have x2 := (h _ (en_lt4 (k := i) hv)).1
  have x3 := (h _ (en_lt4 (k := i + 1) hv)).1
  have y2 := (h _ (en_lt4 (k := j) hw)).1
  have y3 := (h _ (en_lt4 (k := j + 1) hw)).1
  rw [en_tn.1] at x2 y2
  rw [en_tn.2] at x3 y3
  have e1 : mu (en w (j + 3)) = !mu (en v (i + 2)) := by rw [y3, x2, b1]
  have e2 : mu (en w (j + 2)) = !mu (en v (i + 3)) := by rw [y2, x3, b2]
  refine ⟨?_, ?_⟩
  · rw [ef] at hW ⊢
    have o1 := oris_jn (oris_of hV h) (Vlt_iff.mpr (en_lt4 (k := i + 2) hv)) (Vlt_iff.mpr (en_lt4 (k := j + 3) hw)) e1
    have o2 := oris_jn (p := en v (i + 3)) (q := en w (j + 2)) o1 (dl2_iff.mpr ⟨Vlt_iff.mpr (en_lt4 hv), by unfold en; omega, vw _ _⟩) (dl2_iff.mpr ⟨Vlt_iff.mpr (en_lt4 hw), fun z => vw _ _ z.symm, by unfold en; omega⟩) e2
    have inV : ∀ x, x < 4 * c → x / 4 ≠ v → x / 4 ≠ w → dl2 (dl2 (Vlt (4 * c)) (en v (i + 2)) (en w (j + 3))) (en v (i + 3)) (en w (j + 2)) x = true := fun x hx h1 h2 => by
      rw [dl2_iff, dl2_iff]
      exact ⟨⟨Vlt_iff.mpr hx, fun z => h1 (by rw [z]; exact en_div v _), fun z => h2 (by rw [z]; exact en_div w _)⟩, fun z => h1 (by rw [z]; exact en_div v _), fun z => h2 (by rw [z]; exact en_div w _)⟩
    have ht := ot_inv hW
    intro x hx
    obtain ⟨a, b, d⟩ := ht x hx
    refine ⟨?_, ?_⟩
    · show mu (dl (max v w) (dl (min v w) (tn 2 x))) = !mu (dl (max v w) (dl (min v w) x))
      rw [dl_tn, dl_tn]
      exact (h _ ((dl_dl_lt hv hw hvw x).mpr hx)).1
    · show mu (dl (max v w) (dl (min v w) (ot (c - 1 - 1) _ x))) = !mu (dl (max v w) (dl (min v w) x))
      have n1 := dl_dl_ne hvw x
      have n2 := dl_dl_ne hvw (ot (c - 1 - 1) (drp (drp (jnF (jnF f (en v (i + 2)) (en w (j + 3))) (en v (i + 3)) (en w (j + 2))) (max v w)) (min v w)) x)
      refine o2 _ _ (inV _ ((dl_dl_lt hv hw hvw x).mpr hx) n1.1 n1.2) (inV _ ((dl_dl_lt hv hw hvw _).mpr a) n2.1 n2.2) (fun e => d (dl_inj (dl_inj e)).symm) ?_
      have := ot_f hW hx
      rw [dl_drp, dl_drp, dl_drp, dl_drp] at this
      exact this.symm
  · have s1 : (mu (4 * v) = mu (4 * v + 3)) ↔ ((mu (en v i) = mu (en v (i + 1))) ↔ i % 2 = 1) := by
      have t0 := (h (4 * v) (by omega)).1
      have t1 := (h (4 * v + 1) (by omega)).1
      rw [show tn 2 (4 * v) = 4 * v + 2 by unfold tn; omega] at t0
      rw [show tn 2 (4 * v + 1) = 4 * v + 3 by unfold tn; omega] at t1
      unfold en
      rcases (show i = 0 ∨ i = 1 ∨ i = 2 ∨ i = 3 by omega) with rfl | rfl | rfl | rfl <;> simp [t0, t1] <;> cases mu (4 * v) <;> cases mu (4 * v + 1) <;> decide
    have s2 : (mu (4 * w) = mu (4 * w + 3)) ↔ ((mu (en w j) = mu (en w (j + 1))) ↔ j % 2 = 1) := by
      have t0 := (h (4 * w) (by omega)).1
      have t1 := (h (4 * w + 1) (by omega)).1
      rw [show tn 2 (4 * w) = 4 * w + 2 by unfold tn; omega] at t0
      rw [show tn 2 (4 * w + 1) = 4 * w + 3 by unfold tn; omega] at t1
      unfold en
      rcases (show j = 0 ∨ j = 1 ∨ j = 2 ∨ j = 3 by omega) with rfl | rfl | rfl | rfl <;> simp [t0, t1] <;> cases mu (4 * w) <;> cases mu (4 * w + 1) <;> decide
    have s3 : (mu (en w j) = mu (en w (j + 1))) ↔ (mu (en v i) = mu (en v (i + 1))) := by
      rw [b1, b2]
      cases mu (en v i) <;> cases mu (en v (i + 1)) <;> decide
    have hj2 : (j % 2 = 1) ↔ ¬ (i % 2 = 1) := by omega
    rw [s3, hj2] at s2
    unfold sgZ
    by_cases q : mu (4 * v) = mu (4 * v + 3)
    · have e := s1.mp q
      have q2 : ¬ mu (4 * w) = mu (4 * w + 3) := fun z => by
        have z := s2.mp z
        by_cases hI : i % 2 = 1
        · exact z.mp (e.mpr hI) hI
        · exact hI (e.mp (z.mpr hI))
      rw [if_pos q, if_neg q2]; rfl
    · have e : ¬ (mu (en v i) = mu (en v (i + 1)) ↔ i % 2 = 1) := fun z => q (s1.mpr z)
      have q2 : mu (4 * w) = mu (4 * w + 3) := s2.mpr ⟨fun hE hI => e ⟨fun _ => hI, fun _ => hE⟩, fun hI => Classical.byContradiction (fun hE => e ⟨fun h => absurd h hE, fun h => absurd h hI⟩)⟩
      rw [if_neg q, if_pos q2]; rfl
