/-! ===== a kink, a bigon removed: what becomes of the classes ===== -/
/-- the pairs of the crossings other than v -/
def oS (N : Nat) (s : Nat → Nat) (v : Nat) : Nat → Nat → Prop := fun x y => x < N ∧ x / 4 ≠ v ∧ y = s x
theorem vv_split {c o : Nat} {f s : Nat → Nat} (hV : Vd c o f) {v a b d e : Nat} (ha : a < 4 * c) (hd : d < 4 * c) (hb : b < 4 * c) (he : e < 4 * c) (va : a / 4 = v) (vb : b / 4 = v) (vd : d / 4 = v) (ve : e / 4 = v) (all : ∀ x, x / 4 = v → x = a ∨ x = b ∨ x = d ∨ x = e)
    (sa : s a = b) (sb : s b = a) (sd : s d = e) (se : s e = d) : cc (Vlt (4 * c)) (fR (4 * c) (ot c f) s) (4 * c) = cc (Vlt (4 * c)) (addE (addE (aR (Vlt (4 * c)) f (oS (4 * c) s v)) a b) d e) (4 * c) := by
  rw [fR_aR hV]
  refine cc_pairs (fun x y q => ?_) (fun x y q => ?_)
  · rcases q with q | ⟨hx, rfl⟩
    · exact con_up (con_up (Con.of (Or.inl q)))
    · by_cases z : x / 4 = v
      · rcases all x z with r | r | r | r
        · subst r; rw [sa]; exact con_up con_new
        · subst r; rw [sb]; exact con_up con_new.sy
        · subst r; rw [sd]; exact con_new
        · subst r; rw [se]; exact con_new.sy
      · exact con_up (con_up (Con.of (Or.inr ⟨hx, z, rfl⟩)))
  · rcases q with ((q | ⟨hx, _, rfl⟩) | ⟨rfl, rfl⟩) | ⟨rfl, rfl⟩
    · exact Con.of (Or.inl q)
    · exact Con.of (Or.inr ⟨hx, rfl⟩)
    · exact Con.of (Or.inr ⟨ha, sa.symm⟩)
    · exact Con.of (Or.inr ⟨hd, sd.symm⟩)
theorem mt_V {c o : Nat} {f : Nat → Nat} (hV : Vd c o f) : Mt (fun x => Vlt (4 * c) x = true) f := (Vd.mt hV).congr (fun x => Vlt_iff.symm)
theorem mt_del {V : Nat → Bool} {f : Nat → Nat} (h : Mt (fun x => V x = true) f) {p q : Nat} (hp : V p = true) (hq : V q = true) (hpq : p ≠ q) (e : f p = f q) : Mt (fun x => dl2 V p q x = true) f := (h.del hp hq hpq e).congr (fun _ => dl2_iff.symm)
theorem mt_jn {V : Nat → Bool} {f : Nat → Nat} (h : Mt (fun x => V x = true) f) {p q : Nat} (hp : V p = true) (hq : V q = true) (hpq : p ≠ q) : Mt (fun x => dl2 V p q x = true) (jnF f p q) := (jn_mt h hp hq hpq).congr (fun _ => dl2_iff.symm)
/-- equal arcs stay equal -/
theorem jn_eq {f : Nat → Nat} {p q x y : Nat} (h : f x = f y) : jnF f p q x = jnF f p q y := by
  unfold jnF
  by_cases z : f p = f q
  · rw [if_pos z]; exact h
  · rw [if_neg z]; exact rel_eq.mpr (Or.inl h)
theorem en_lt4 {v k c : Nat} (h : v < c) : en v k < 4 * c := by unfold en; omega
theorem en_div (v k : Nat) : en v k / 4 = v := by unfold en; omega
theorem en_ne {v k i j : Nat} (h : (k + i) % 4 ≠ (k + j) % 4) : en v (k + i) ≠ en v (k + j) := by unfold en; omega
theorem en_all {v k x : Nat} (hk : k < 4) (h : x / 4 = v) : x = en v k ∨ x = en v (k + 1) ∨ x = en v (k + 2) ∨ x = en v (k + 3) := by unfold en; omega
/-- the kink's outer ends joined: one class more than afterwards (the small loop) -/
theorem kink_base {c o : Nat} {f s s' : Nat → Nat} (hV : Vd c o f) {v k : Nat} (hv : v < c) (hk : k < 4) (hE : kE f v k) (ho : (kkD (c, o, f) v k).2.1 ≤ 4) (hs : ∀ x, x < 4 * c → s x < 4 * c ∧ s x / 4 = x / 4) (hs' : ∀ x, x < 4 * (c - 1) → dl v (s' x) = s (dl v x)) :
    o + cc (Vlt (4 * c)) (addE (aR (Vlt (4 * c)) f (oS (4 * c) s v)) (en v (k + 2)) (en v (k + 3))) (4 * c) = (kkD (c, o, f) v k).2.1 + 1 + cc (Vlt (4 * (c - 1))) (fR (4 * (c - 1)) (ot (c - 1) (kkD (c, o, f) v k).2.2) s') (4 * (c - 1)) := by
  have hW : Vd (c - 1) (kkD (c, o, f) v k).2.1 (kkD (c, o, f) v k).2.2 := kk_VS (d := (c, o, f)) hV hv hk hE ho
  have hM : ∀ x, Vlt (4 * c) x = true → x < 4 * c := fun x => Vlt_iff.mp
  have n01 : en v k ≠ en v (k + 1) := by unfold en; omega
  have n23 : en v (k + 2) ≠ en v (k + 3) := by unfold en; omega
  have hL : ∀ x y, oS (4 * c) s v x y → x / 4 ≠ v ∧ y / 4 ≠ v := fun x y r => by
    obtain ⟨h1, h2, rfl⟩ := r
    exact ⟨h2, by rw [(hs x h1).2]; exact h2⟩
  have off : ∀ x, x / 4 ≠ v → ∀ i, x ≠ en v i := fun x hx i z => hx (by rw [z]; exact en_div v i)
  have j1 := cc_jn (L := oS (4 * c) s v) hM (mt_V hV) (p := en v (k + 2)) (q := en v (k + 3)) (Vlt_iff.mpr (en_lt4 hv)) (Vlt_iff.mpr (en_lt4 hv)) n23 (fun x y r => ⟨⟨off x (hL x y r).1 _, off x (hL x y r).1 _⟩, off y (hL x y r).2 _, off y (hL x y r).2 _⟩)
  have m1 := mt_jn (mt_V hV) (p := en v (k + 2)) (q := en v (k + 3)) (Vlt_iff.mpr (en_lt4 hv)) (Vlt_iff.mpr (en_lt4 hv)) n23
  have v0 : dl2 (Vlt (4 * c)) (en v (k + 2)) (en v (k + 3)) (en v k) = true := dl2_iff.mpr ⟨Vlt_iff.mpr (en_lt4 hv), by unfold en; omega, by unfold en; omega⟩
  have v1 : dl2 (Vlt (4 * c)) (en v (k + 2)) (en v (k + 3)) (en v (k + 1)) = true := dl2_iff.mpr ⟨Vlt_iff.mpr (en_lt4 hv), by unfold en; omega, by unfold en; omega⟩
  have e1 : jnF f (en v (k + 2)) (en v (k + 3)) (en v k) = jnF f (en v (k + 2)) (en v (k + 3)) (en v (k + 1)) := jn_eq hE
  have j2 := cc_del (V := dl2 (Vlt (4 * c)) (en v (k + 2)) (en v (k + 3))) (L := oS (4 * c) s v) (M := 4 * c) (fun x hx => hM x (dl2_iff.mp hx).1) m1 v0 v1 n01 e1 (fun x y r => ⟨⟨off x (hL x y r).1 _, off x (hL x y r).1 _⟩, off y (hL x y r).2 _, off y (hL x y r).2 _⟩)
  have vv : ∀ x, dl2 (dl2 (Vlt (4 * c)) (en v (k + 2)) (en v (k + 3))) (en v k) (en v (k + 1)) x = true ↔ x < 4 * c ∧ x / 4 ≠ v := fun x => by
    rw [dl2_iff, dl2_iff, Vlt_iff]
    unfold en
    omega
  have j3 := cc_drop (f := jnF f (en v (k + 2)) (en v (k + 3))) (V := dl2 (dl2 (Vlt (4 * c)) (en v (k + 2)) (en v (k + 3))) (en v k) (en v (k + 1))) (L := oS (4 * c) s v) hv (fun x hx => (vv x).mp hx) (fun x y r => ⟨(vv x).mpr ⟨r.1, (hL x y r).1⟩, (vv y).mpr ⟨by rw [r.2.2]; exact (hs x r.1).1, (hL x y r).2⟩⟩)
  have j4 : cc (fun x => dl2 (dl2 (Vlt (4 * c)) (en v (k + 2)) (en v (k + 3))) (en v k) (en v (k + 1)) (dl v x)) (aR (fun x => dl2 (dl2 (Vlt (4 * c)) (en v (k + 2)) (en v (k + 3))) (en v k) (en v (k + 1)) (dl v x)) (drp (jnF f (en v (k + 2)) (en v (k + 3))) v) (fun x y => oS (4 * c) s v (dl v x) (dl v y))) (4 * (c - 1)) = cc (Vlt (4 * (c - 1))) (aR (Vlt (4 * (c - 1))) (drp (jnF f (en v (k + 2)) (en v (k + 3))) v) (sR (4 * (c - 1)) s')) (4 * (c - 1)) := by
    have dlt : ∀ x, dl v x < 4 * c ↔ x < 4 * (c - 1) := fun x => by
      constructor
      · intro z
        have := dm_lt hv z (dl_ne v x)
        rw [dm_dl] at this
        exact this
      · exact dl_lt hv
    refine aR_cong (fun x => ?_) (fun x y => ?_)
    · rw [Bool.eq_iff_iff, vv, Vlt_iff, dlt]
      exact ⟨fun z => z.1, fun z => ⟨z, dl_ne v x⟩⟩
    · constructor
      · rintro ⟨h1, _, h3⟩
        have hx := (dlt x).mp h1
        exact ⟨hx, dl_inj (h3.trans (hs' x hx).symm)⟩
      · rintro ⟨h1, rfl⟩
        exact ⟨(dlt x).mpr h1, dl_ne v x, hs' x h1⟩
  rw [fR_aR hW]
  have eo : (kkD (c, o, f) v k).2.1 = o + jnO f (en v (k + 2)) (en v (k + 3)) := rfl
  have ef : (kkD (c, o, f) v k).2.2 = drp (jnF f (en v (k + 2)) (en v (k + 3))) v := rfl
  rw [eo, ef, ← j4, ← j3]
  omega
/-- in the base with the outer ends joined the two inner ends are a class -/
theorem kink_apart {c o : Nat} {f s : Nat → Nat} (hV : Vd c o f) {v k : Nat} (hv : v < c) (hE : kE f v k) (hs : ∀ x, x < 4 * c → s x < 4 * c ∧ s x / 4 = x / 4) : ¬ Con (addE (aR (Vlt (4 * c)) f (oS (4 * c) s v)) (en v (k + 2)) (en v (k + 3))) (en v k) (en v (k + 3)) := by
  intro q
  have two : ∀ x, x < 4 * c → f x = f (en v k) → x = en v k ∨ x = en v (k + 1) := fun x hx ex => by
    obtain ⟨t, h1, h2, h3, h4⟩ := (Vd.mt hV) (en v k) (en_lt4 hv)
    have e2 := (h4 (en v (k + 1)) (en_lt4 hv) hE.symm).resolve_left (fun z => by unfold en at z; omega)
    rcases h4 x hx ex with r | r
    · exact Or.inl r
    · exact Or.inr (r.trans e2.symm)
  have := (q (fun z => z = en v k ∨ z = en v (k + 1)) (fun x y r => by
    rcases r with (⟨hx, hy, e⟩ | ⟨h1, h2, rfl⟩) | ⟨rfl, rfl⟩
    · have hx := Vlt_iff.mp hx
      have hy := Vlt_iff.mp hy
      constructor
      · rintro (rfl | rfl)
        · exact two y hy e.symm
        · exact two y hy (e.symm.trans hE.symm)
      · rintro (rfl | rfl)
        · exact two x hx e
        · exact two x hx (e.trans hE.symm)
    · have h3 := (hs x h1).2
      constructor
      · rintro (rfl | rfl) <;> exact absurd (en_div v _) h2
      · rintro (z | z) <;> rw [z, en_div] at h3 <;> exact absurd h3.symm h2
    · unfold en
      constructor
      · intro z; omega
      · intro z; omega)).mp (Or.inl rfl)
  unfold en at this
  omega
/-- the three ways to pair the ends of a kink -/
theorem kink_P {c o : Nat} {f s s' : Nat → Nat} (hV : Vd c o f) {v k : Nat} (hv : v < c) (hk : k < 4) (hE : kE f v k) (ho : (kkD (c, o, f) v k).2.1 ≤ 4) (hs : ∀ x, x < 4 * c → s x < 4 * c ∧ s x / 4 = x / 4) (hs' : ∀ x, x < 4 * (c - 1) → dl v (s' x) = s (dl v x))
    (h0 : s (en v k) = en v (k + 1)) (h1 : s (en v (k + 1)) = en v k) (h2 : s (en v (k + 2)) = en v (k + 3)) (h3 : s (en v (k + 3)) = en v (k + 2)) :
    o + cc (Vlt (4 * c)) (fR (4 * c) (ot c f) s) (4 * c) = (kkD (c, o, f) v k).2.1 + 1 + cc (Vlt (4 * (c - 1))) (fR (4 * (c - 1)) (ot (c - 1) (kkD (c, o, f) v k).2.2) s') (4 * (c - 1)) := by
  rw [← kink_base hV hv hk hE ho hs hs', vv_split hV (en_lt4 hv) (en_lt4 hv) (en_lt4 hv) (en_lt4 hv) (en_div v _) (en_div v _) (en_div v _) (en_div v _) (fun x hx => en_all hk hx) h0 h1 h2 h3]
  congr 1
  have c01 : Con (aR (Vlt (4 * c)) f (oS (4 * c) s v)) (en v k) (en v (k + 1)) := Con.of (Or.inl ⟨Vlt_iff.mpr (en_lt4 hv), Vlt_iff.mpr (en_lt4 hv), hE⟩)
  refine cc_pairs (fun x y q => ?_) (fun x y q => ?_)
  · rcases q with (q | ⟨rfl, rfl⟩) | ⟨rfl, rfl⟩
    · exact con_up (Con.of q)
    · exact con_up c01
    · exact con_new
  · rcases q with q | ⟨rfl, rfl⟩
    · exact con_up (con_up (Con.of q))
    · exact con_new
theorem kink_Q {c o : Nat} {f s s' : Nat → Nat} (hV : Vd c o f) {v k : Nat} (hv : v < c) (hk : k < 4) (hE : kE f v k) (ho : (kkD (c, o, f) v k).2.1 ≤ 4) (hs : ∀ x, x < 4 * c → s x < 4 * c ∧ s x / 4 = x / 4) (hs' : ∀ x, x < 4 * (c - 1) → dl v (s' x) = s (dl v x))
    (h0 : (s (en v k) = en v (k + 3) ∧ s (en v (k + 3)) = en v k ∧ s (en v (k + 1)) = en v (k + 2) ∧ s (en v (k + 2)) = en v (k + 1)) ∨ (s (en v k) = en v (k + 2) ∧ s (en v (k + 2)) = en v k ∧ s (en v (k + 1)) = en v (k + 3) ∧ s (en v (k + 3)) = en v (k + 1))) :
    o + cc (Vlt (4 * c)) (fR (4 * c) (ot c f) s) (4 * c) = (kkD (c, o, f) v k).2.1 + cc (Vlt (4 * (c - 1))) (fR (4 * (c - 1)) (ot (c - 1) (kkD (c, o, f) v k).2.2) s') (4 * (c - 1)) := by
  have b := kink_base hV hv hk hE ho hs hs'
  have m := cc_merge (V := Vlt (4 * c)) (M := 4 * c) (fun x => Vlt_iff.mp) (Vlt_iff.mpr (en_lt4 hv)) (Vlt_iff.mpr (en_lt4 hv)) (kink_apart hV (k := k) hv hE hs)
  have c01 : Con (aR (Vlt (4 * c)) f (oS (4 * c) s v)) (en v k) (en v (k + 1)) := Con.of (Or.inl ⟨Vlt_iff.mpr (en_lt4 hv), Vlt_iff.mpr (en_lt4 hv), hE⟩)
  have key : cc (Vlt (4 * c)) (fR (4 * c) (ot c f) s) (4 * c) = cc (Vlt (4 * c)) (addE (addE (aR (Vlt (4 * c)) f (oS (4 * c) s v)) (en v (k + 2)) (en v (k + 3))) (en v k) (en v (k + 3))) (4 * c) := by
    rcases h0 with ⟨h0, h3, h1, h2⟩ | ⟨h0, h2, h1, h3⟩
    · rw [vv_split hV (en_lt4 hv) (en_lt4 hv) (en_lt4 hv) (en_lt4 hv) (en_div v _) (en_div v _) (en_div v _) (en_div v _) (fun x hx => by have := en_all hk hx; omega) h0 h3 h1 h2]
      refine cc_pairs (fun x y q => ?_) (fun x y q => ?_)
      · have a : Con (addE (addE (aR (Vlt (4 * c)) f (oS (4 * c) s v)) (en v (k + 2)) (en v (k + 3))) (en v k) (en v (k + 3))) (en v k) (en v (k + 3)) := con_new
        have a2 := con_up (a := en v k) (b := en v (k + 3)) (con_up (a := en v (k + 2)) (b := en v (k + 3)) c01)
        rcases q with (q | ⟨rfl, rfl⟩) | ⟨rfl, rfl⟩
        · exact con_up (con_up (Con.of q))
        · exact a
        · exact a2.sy.tr (a.tr (con_up con_new).sy)
      · have a : Con (addE (addE (aR (Vlt (4 * c)) f (oS (4 * c) s v)) (en v k) (en v (k + 3))) (en v (k + 1)) (en v (k + 2))) (en v (k + 1)) (en v (k + 2)) := con_new
        have a1 : Con (addE (addE (aR (Vlt (4 * c)) f (oS (4 * c) s v)) (en v k) (en v (k + 3))) (en v (k + 1)) (en v (k + 2))) (en v k) (en v (k + 3)) := con_up con_new
        have a2 := con_up (a := en v (k + 1)) (b := en v (k + 2)) (con_up (a := en v k) (b := en v (k + 3)) c01)
        rcases q with (q | ⟨rfl, rfl⟩) | ⟨rfl, rfl⟩
        · exact con_up (con_up (Con.of q))
        · exact a.sy.tr (a2.sy.tr a1)
        · exact a1
    · rw [vv_split hV (en_lt4 hv) (en_lt4 hv) (en_lt4 hv) (en_lt4 hv) (en_div v _) (en_div v _) (en_div v _) (en_div v _) (fun x hx => by have := en_all hk hx; omega) h0 h2 h1 h3]
      refine cc_pairs (fun x y q => ?_) (fun x y q => ?_)
      · have a : Con (addE (addE (aR (Vlt (4 * c)) f (oS (4 * c) s v)) (en v (k + 2)) (en v (k + 3))) (en v k) (en v (k + 3))) (en v k) (en v (k + 3)) := con_new
        have a1 : Con (addE (addE (aR (Vlt (4 * c)) f (oS (4 * c) s v)) (en v (k + 2)) (en v (k + 3))) (en v k) (en v (k + 3))) (en v (k + 2)) (en v (k + 3)) := con_up con_new
        have a2 := con_up (a := en v k) (b := en v (k + 3)) (con_up (a := en v (k + 2)) (b := en v (k + 3)) c01)
        rcases q with (q | ⟨rfl, rfl⟩) | ⟨rfl, rfl⟩
        · exact con_up (con_up (Con.of q))
        · exact a.tr a1.sy
        · exact a2.sy.tr a
      · have a : Con (addE (addE (aR (Vlt (4 * c)) f (oS (4 * c) s v)) (en v k) (en v (k + 2))) (en v (k + 1)) (en v (k + 3))) (en v (k + 1)) (en v (k + 3)) := con_new
        have a1 : Con (addE (addE (aR (Vlt (4 * c)) f (oS (4 * c) s v)) (en v k) (en v (k + 2))) (en v (k + 1)) (en v (k + 3))) (en v k) (en v (k + 2)) := con_up con_new
        have a2 := con_up (a := en v (k + 1)) (b := en v (k + 3)) (con_up (a := en v k) (b := en v (k + 2)) c01)
        rcases q with (q | ⟨rfl, rfl⟩) | ⟨rfl, rfl⟩
        · exact con_up (con_up (Con.of q))
        · exact a1.sy.tr (a2.tr a)
        · exact a2.tr a
  omega
