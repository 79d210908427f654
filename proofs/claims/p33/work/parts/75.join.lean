/-! ===== arcs joined, ends left out, crossings dropped: what becomes of the classes ===== -/
/-- arcs between the ends V, and the pairs L -/
def aR (V : Nat → Bool) (f : Nat → Nat) (L : Nat → Nat → Prop) : Nat → Nat → Prop := fun x y => (V x = true ∧ V y = true ∧ f x = f y) ∨ L x y
def dl2 (V : Nat → Bool) (p q : Nat) : Nat → Bool := fun x => V x && (!(x == p) && !(x == q))
theorem dl2_iff {V : Nat → Bool} {p q x : Nat} : dl2 V p q x = true ↔ V x = true ∧ x ≠ p ∧ x ≠ q := by
  unfold dl2
  simp
theorem con_off {L : Nat → Nat → Prop} {p x : Nat} (h : ∀ u w, L u w → u ≠ p ∧ w ≠ p) (c : Con L x p) : x = p :=
  (c (fun z => z = p) (fun u w q => ⟨fun e => absurd e (h u w q).1, fun e => absurd e (h u w q).2⟩)).mpr rfl
theorem cc_del {V : Nat → Bool} {f : Nat → Nat} {L : Nat → Nat → Prop} {M p q : Nat} (hM : ∀ x, V x = true → x < M) (hm : Mt (fun x => V x = true) f) (hp : V p = true) (hq : V q = true) (hpq : p ≠ q) (e : f p = f q)
    (hL : ∀ x y, L x y → (x ≠ p ∧ x ≠ q) ∧ y ≠ p ∧ y ≠ q) : cc V (aR V f L) M = cc (dl2 V p q) (aR (dl2 V p q) f L) M + 1 := by
  have two : ∀ x, V x = true → f x = f p → x = p ∨ x = q := fun x hx ex => by
    obtain ⟨t, h1, h2, h3, h4⟩ := hm p hp
    have e2 := (h4 q hq e.symm).resolve_left (fun z => hpq z.symm)
    rcases h4 x hx ex with r | r
    · exact Or.inl r
    · exact Or.inr (r.trans e2.symm)
  have cls : ∀ x, Con (aR V f L) p x → x = p ∨ x = q := fun x c => (c (fun z => z = p ∨ z = q) (fun u w r => by
    rcases r with ⟨hu, hw, ef⟩ | r
    · constructor
      · rintro (rfl | rfl)
        · exact two w hw ef.symm
        · exact two w hw (ef.symm.trans e.symm)
      · rintro (rfl | rfl)
        · exact two u hu ef
        · exact two u hu (ef.trans e.symm)
    · have := hL u w r
      exact ⟨fun z => by omega, fun z => by omega⟩)).mp (Or.inl rfl)
  have cpq : Con (aR V f L) p q := Con.of (Or.inl ⟨hp, hq, e⟩)
  rw [cc_gone (V2 := dl2 V p q) hp (hM p hp) (fun x hx => by
    rw [dl2_iff]
    constructor
    · rintro ⟨h1, h2, h3⟩
      exact ⟨h1, fun c => by rcases cls x c with r | r <;> contradiction⟩
    · rintro ⟨h1, h2⟩
      exact ⟨h1, fun z => h2 (z ▸ Con.rf), fun z => h2 (z ▸ cpq)⟩)]
  congr 1
  refine cc_cong (fun _ _ => rfl) (fun x y hx hy vx vy => ⟨fun c => ?_, Con.mono (fun u w r => ?_)⟩)
  · have op : ∀ u w, aR (dl2 V p q) f L u w → u ≠ p ∧ w ≠ p := fun u w r => by
      rcases r with ⟨h1, h2, _⟩ | r
      · exact ⟨(dl2_iff.mp h1).2.1, (dl2_iff.mp h2).2.1⟩
      · have := hL u w r; omega
    have oq : ∀ u w, aR (dl2 V p q) f L u w → u ≠ q ∧ w ≠ q := fun u w r => by
      rcases r with ⟨h1, h2, _⟩ | r
      · exact ⟨(dl2_iff.mp h1).2.2, (dl2_iff.mp h2).2.2⟩
      · have := hL u w r; omega
    have vx := (dl2_iff.mp vx).2
    have np : ¬ Con (aR (dl2 V p q) f L) x p := fun z => vx.1 (con_off op z)
    have nq : ¬ Con (aR (dl2 V p q) f L) x q := fun z => vx.2 (con_off oq z)
    refine (c (fun z => Con (aR (dl2 V p q) f L) x z) (fun u w r => ?_)).mp Con.rf
    rcases r with ⟨hu, hw, ef⟩ | r
    · by_cases zu : u = p ∨ u = q
      · have zw : w = p ∨ w = q := by
          rcases zu with rfl | rfl
          · exact two w hw ef.symm
          · exact two w hw (ef.symm.trans e.symm)
        have nu : ¬ Con (aR (dl2 V p q) f L) x u := by rcases zu with rfl | rfl <;> assumption
        have nw : ¬ Con (aR (dl2 V p q) f L) x w := by rcases zw with rfl | rfl <;> assumption
        exact ⟨fun z => absurd z nu, fun z => absurd z nw⟩
      · by_cases zw : w = p ∨ w = q
        · exact absurd (by
            rcases zw with rfl | rfl
            · exact two u hu ef
            · exact two u hu (ef.trans e.symm)) zu
        · have c2 : Con (aR (dl2 V p q) f L) u w := Con.of (Or.inl ⟨dl2_iff.mpr ⟨hu, fun z => zu (Or.inl z), fun z => zu (Or.inr z)⟩, dl2_iff.mpr ⟨hw, fun z => zw (Or.inl z), fun z => zw (Or.inr z)⟩, ef⟩)
          exact ⟨fun z => z.tr c2, fun z => z.tr c2.sy⟩
    · have c2 : Con (aR (dl2 V p q) f L) u w := Con.of (Or.inr r)
      exact ⟨fun z => z.tr c2, fun z => z.tr c2.sy⟩
  · rcases r with ⟨h1, h2, h3⟩ | r
    · exact Con.of (Or.inl ⟨(dl2_iff.mp h1).1, (dl2_iff.mp h2).1, h3⟩)
    · exact Con.of (Or.inr r)
theorem rel_eq {f : Nat → Nat} {a b u w : Nat} : rel f (min a b) (max a b) u = rel f (min a b) (max a b) w ↔ f u = f w ∨ ((f u = a ∨ f u = b) ∧ (f w = a ∨ f w = b)) := by
  unfold rel
  by_cases h1 : f u = max a b <;> by_cases h2 : f w = max a b
  · rw [if_pos h1, if_pos h2]
    exact ⟨fun _ => Or.inl (h1.trans h2.symm), fun _ => rfl⟩
  · rw [if_pos h1, if_neg h2]; omega
  · rw [if_neg h1, if_pos h2]; omega
  · rw [if_neg h1, if_neg h2]; omega
theorem cc_jn {V : Nat → Bool} {f : Nat → Nat} {L : Nat → Nat → Prop} {M p q : Nat} (hM : ∀ x, V x = true → x < M) (hm : Mt (fun x => V x = true) f) (hp : V p = true) (hq : V q = true) (hpq : p ≠ q)
    (hL : ∀ x y, L x y → (x ≠ p ∧ x ≠ q) ∧ y ≠ p ∧ y ≠ q) : cc V (addE (aR V f L) p q) M = jnO f p q + cc (dl2 V p q) (aR (dl2 V p q) (jnF f p q) L) M := by
  by_cases e : f p = f q
  · unfold jnO jnF
    rw [if_pos e, if_pos e, cc_same (Con.of (Or.inl ⟨hp, hq, e⟩)), cc_del hM hm hp hq hpq e hL]
    omega
  · unfold jnO jnF
    rw [if_neg e, if_neg e, Nat.zero_add]
    obtain ⟨p', a1, a2, a3, a4⟩ := hm p hp
    obtain ⟨q', b1, b2, b3, b4⟩ := hm q hq
    have pq' : p' ≠ q := fun z => e (by rw [← z, a3])
    have qp' : q' ≠ p := fun z => e (by rw [← z, b3])
    have cp : Con (addE (aR V f L) p q) p p' := con_up (Con.of (Or.inl ⟨hp, a1, a3.symm⟩))
    have cq : Con (addE (aR V f L) p q) q q' := con_up (Con.of (Or.inl ⟨hq, b1, b3.symm⟩))
    have g_o : ∀ x, x ≠ p → x ≠ q → (if x = p then p' else if x = q then q' else x) = x := fun x h1 h2 => by rw [if_neg h1, if_neg h2]
    have g_p : (if p = p then p' else if p = q then q' else p) = p' := if_pos rfl
    have g_q : (if q = p then p' else if q = q then q' else q) = q' := by rw [if_neg (fun z => hpq z.symm), if_pos rfl]
    have g_V : ∀ x, V x = true → dl2 V p q (if x = p then p' else if x = q then q' else x) = true := fun x hx => by
      rw [dl2_iff]
      by_cases z1 : x = p
      · subst z1; rw [if_pos rfl]; exact ⟨a1, a2, pq'⟩
      · by_cases z2 : x = q
        · subst z2; rw [if_neg z1, if_pos rfl]; exact ⟨b1, qp', b2⟩
        · rw [g_o x z1 z2]; exact ⟨hx, z1, z2⟩
    have g_f : ∀ x, f (if x = p then p' else if x = q then q' else x) = f x := fun x => by
      by_cases z1 : x = p
      · subst z1; rw [if_pos rfl]; exact a3
      · by_cases z2 : x = q
        · subst z2; rw [if_neg z1, if_pos rfl]; exact b3
        · rw [g_o x z1 z2]
    have back : ∀ u w, aR (dl2 V p q) (rel f (min (f p) (f q)) (max (f p) (f q))) L u w → Con (addE (aR V f L) p q) u w := fun u w r => by
      rcases r with ⟨h1, h2, h3⟩ | r
      · have hu := (dl2_iff.mp h1).1
        have hw := (dl2_iff.mp h2).1
        have to : ∀ u, V u = true → (f u = f p ∨ f u = f q) → Con (addE (aR V f L) p q) u p := fun u hu z => by
          rcases z with z | z
          · exact con_up (Con.of (Or.inl ⟨hu, hp, z⟩))
          · exact (con_up (Con.of (Or.inl ⟨hu, hq, z⟩))).tr con_new.sy
        rcases rel_eq.mp h3 with z | ⟨z1, z2⟩
        · exact con_up (Con.of (Or.inl ⟨hu, hw, z⟩))
        · exact (to u hu z1).tr (to w hw z2).sy
      · exact con_up (Con.of (Or.inr r))
    refine Nat.le_antisymm (cc_le (fun x => if x = p then p' else if x = q then q' else x) (fun x hx vx => ⟨hM _ (dl2_iff.mp (g_V x vx)).1, g_V x vx⟩) (fun x y hx hy vx vy c => ?_)) (cc_le (fun x => x) (fun x hx vx => ⟨hx, (dl2_iff.mp vx).1⟩) (fun x y hx hy vx vy c => ?_))
    · have to : ∀ x, Con (addE (aR V f L) p q) x (if x = p then p' else if x = q then q' else x) := fun x => by
        by_cases z1 : x = p
        · subst z1; rw [if_pos rfl]; exact cp
        · by_cases z2 : x = q
          · subst z2; rw [if_neg z1, if_pos rfl]; exact cq
          · rw [g_o x z1 z2]; exact Con.rf
      exact (to x).tr ((c.mono back).tr (to y).sy)
    · have vx := dl2_iff.mp vx
      have vy := dl2_iff.mp vy
      have m := c.map (L2 := aR (dl2 V p q) (rel f (min (f p) (f q)) (max (f p) (f q))) L) (fun x => if x = p then p' else if x = q then q' else x) (fun u w r => by
        rcases r with (⟨hu, hw, ef⟩ | r) | ⟨rfl, rfl⟩
        · exact Con.of (Or.inl ⟨g_V u hu, g_V w hw, rel_eq.mpr (Or.inl (by rw [g_f, g_f]; exact ef))⟩)
        · obtain ⟨⟨n1, n2⟩, n3, n4⟩ := hL u w r
          show Con _ (if u = p then p' else if u = q then q' else u) (if w = p then p' else if w = q then q' else w)
          rw [g_o u n1 n2, g_o w n3 n4]
          exact Con.of (Or.inr r)
        · exact Con.of (Or.inl ⟨g_V _ hp, g_V _ hq, rel_eq.mpr (Or.inr ⟨Or.inl (g_f _), Or.inr (g_f _)⟩)⟩))
      rw [g_o x vx.2.1 vx.2.2, g_o y vy.2.1 vy.2.2] at m
      exact m
/-- the old number of an end, once the crossing v is dropped -/
def dl (v x : Nat) : Nat := if x < 4 * v then x else x + 4
theorem dl_drp (g : Nat → Nat) (v x : Nat) : drp g v x = g (dl v x) := by
  unfold drp dl
  by_cases z : x < 4 * v
  · rw [if_pos z, if_pos z]
  · rw [if_neg z, if_neg z]
theorem dl_ne (v x : Nat) : dl v x / 4 ≠ v := by
  unfold dl
  by_cases z : x < 4 * v
  · rw [if_pos z]; omega
  · rw [if_neg z]; omega
theorem dl_lt {c v x : Nat} (hv : v < c) (hx : x < 4 * (c - 1)) : dl v x < 4 * c := by
  unfold dl
  by_cases z : x < 4 * v
  · rw [if_pos z]; omega
  · rw [if_neg z]; omega
theorem dl_inj {v x y : Nat} (h : dl v x = dl v y) : x = y := by
  unfold dl at h
  by_cases z : x < 4 * v <;> by_cases w : y < 4 * v
  · rw [if_pos z, if_pos w] at h; exact h
  · rw [if_pos z, if_neg w] at h; omega
  · rw [if_neg z, if_pos w] at h; omega
  · rw [if_neg z, if_neg w] at h; omega
/-- back -/
def dm (v y : Nat) : Nat := if y < 4 * v then y else y - 4
theorem dl_dm {v y : Nat} (h : y / 4 ≠ v) : dl v (dm v y) = y := by
  unfold dl dm
  by_cases z : y < 4 * v
  · rw [if_pos z, if_pos z]
  · rw [if_neg z, if_neg (by omega)]; omega
theorem dm_dl (v x : Nat) : dm v (dl v x) = x := by
  unfold dl dm
  by_cases z : x < 4 * v
  · rw [if_pos z, if_pos z]
  · rw [if_neg z, if_neg (by omega)]; omega
theorem dm_lt {c v y : Nat} (hv : v < c) (hy : y < 4 * c) (h : y / 4 ≠ v) : dm v y < 4 * (c - 1) := by
  unfold dm
  by_cases z : y < 4 * v
  · rw [if_pos z]; omega
  · rw [if_neg z]; omega
theorem cc_drop {V : Nat → Bool} {f : Nat → Nat} {L : Nat → Nat → Prop} {c v : Nat} (hv : v < c) (hV : ∀ x, V x = true → x < 4 * c ∧ x / 4 ≠ v) (hL : ∀ x y, L x y → V x = true ∧ V y = true) :
    cc V (aR V f L) (4 * c) = cc (fun x => V (dl v x)) (aR (fun x => V (dl v x)) (drp f v) (fun x y => L (dl v x) (dl v y))) (4 * (c - 1)) := by
  have fwd : ∀ x y, V x = true → V y = true → Con (aR V f L) x y → Con (aR (fun x => V (dl v x)) (drp f v) (fun x y => L (dl v x) (dl v y))) (dm v x) (dm v y) := fun x y _ _ c => by
    refine c.map (dm v) (fun u w r => ?_)
    rcases r with ⟨hu, hw, ef⟩ | r
    · refine Con.of (Or.inl ⟨?_, ?_, ?_⟩)
      · show V (dl v (dm v u)) = true
        rw [dl_dm (hV u hu).2]; exact hu
      · show V (dl v (dm v w)) = true
        rw [dl_dm (hV w hw).2]; exact hw
      · rw [dl_drp, dl_drp, dl_dm (hV u hu).2, dl_dm (hV w hw).2]; exact ef
    · obtain ⟨hu, hw⟩ := hL u w r
      refine Con.of (Or.inr ?_)
      show L (dl v (dm v u)) (dl v (dm v w))
      rw [dl_dm (hV u hu).2, dl_dm (hV w hw).2]
      exact r
  have bwd : ∀ x y, Con (aR (fun x => V (dl v x)) (drp f v) (fun x y => L (dl v x) (dl v y))) x y → Con (aR V f L) (dl v x) (dl v y) := fun x y c => by
    refine c.map (dl v) (fun u w r => ?_)
    rcases r with ⟨hu, hw, ef⟩ | r
    · exact Con.of (Or.inl ⟨hu, hw, by rw [dl_drp, dl_drp] at ef; exact ef⟩)
    · exact Con.of (Or.inr r)
  refine Nat.le_antisymm (cc_le (dm v) (fun x hx vx => ⟨dm_lt hv hx (hV x vx).2, ?_⟩) (fun x y hx hy vx vy q => ?_)) (cc_le (dl v) (fun x hx vx => ⟨dl_lt hv hx, vx⟩) (fun x y hx hy vx vy q => ?_))
  · show V (dl v (dm v x)) = true
    rw [dl_dm (hV x vx).2]; exact vx
  · have := bwd _ _ q
    rw [dl_dm (hV x vx).2, dl_dm (hV y vy).2] at this
    exact this
  · have := fwd _ _ vx vy q
    rw [dm_dl, dm_dl] at this
    exact this
theorem aR_cong {V V2 : Nat → Bool} {f : Nat → Nat} {L L2 : Nat → Nat → Prop} {M : Nat} (hV : ∀ x, V x = V2 x) (hL : ∀ x y, L x y ↔ L2 x y) : cc V (aR V f L) M = cc V2 (aR V2 f L2) M := by
  have e : V = V2 := funext hV
  subst e
  exact cc_pairs (fun x y r => Con.of (r.imp (fun z => z) (fun z => (hL x y).mp z))) (fun x y r => Con.of (r.imp (fun z => z) (fun z => (hL x y).mpr z)))
/-- the crossings' pairs as a relation -/
def sR (N : Nat) (s : Nat → Nat) : Nat → Nat → Prop := fun x y => x < N ∧ y = s x
theorem fR_aR {c o : Nat} {f s : Nat → Nat} (hV : Vd c o f) {V : Nat → Bool} {M : Nat} : cc V (fR (4 * c) (ot c f) s) M = cc V (aR (Vlt (4 * c)) f (sR (4 * c) s)) M := by
  have ht := ot_inv hV
  refine cc_pairs (fun x y r => ?_) (fun x y r => ?_)
  · obtain ⟨hx, rfl | rfl⟩ := r
    · exact Con.of (Or.inl ⟨Vlt_iff.mpr hx, Vlt_iff.mpr (ht x hx).1, (ot_f hV hx).symm⟩)
    · exact Con.of (Or.inr ⟨hx, rfl⟩)
  · rcases r with ⟨hx, hy, e⟩ | ⟨hx, rfl⟩
    · rcases ot_only hV (Vlt_iff.mp hx) (Vlt_iff.mp hy) e with r | r
      · exact Con.eq r.symm
      · rw [r]; exact Con.of ⟨Vlt_iff.mp hx, Or.inl rfl⟩
    · exact Con.of ⟨hx, Or.inr rfl⟩
