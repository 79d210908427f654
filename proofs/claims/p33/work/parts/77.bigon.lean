/-! ===== a bigon removed ===== -/
def oS2 (N : Nat) (s : Nat → Nat) (v w : Nat) : Nat → Nat → Prop := fun x y => x < N ∧ (x / 4 ≠ v ∧ x / 4 ≠ w) ∧ y = s x
def Four (N v : Nat) (s : Nat → Nat) (a b d e : Nat) : Prop := (a < N ∧ b < N ∧ d < N ∧ e < N) ∧ (∀ x, x / 4 = v → x = a ∨ x = b ∨ x = d ∨ x = e) ∧ s a = b ∧ s b = a ∧ s d = e ∧ s e = d
theorem ww_split {c o : Nat} {f s : Nat → Nat} (hV : Vd c o f) {v w a b d e a' b' d' e' : Nat} (h1 : Four (4 * c) v s a b d e) (h2 : Four (4 * c) w s a' b' d' e') : cc (Vlt (4 * c)) (fR (4 * c) (ot c f) s) (4 * c) = cc (Vlt (4 * c)) (addE (addE (addE (addE (aR (Vlt (4 * c)) f (oS2 (4 * c) s v w)) a b) d e) a' b') d' e') (4 * c) := by
  obtain ⟨⟨l1, l2, l3, l4⟩, all, sa, sb, sd, se⟩ := h1
  obtain ⟨⟨l1', l2', l3', l4'⟩, all', sa', sb', sd', se'⟩ := h2
  rw [fR_aR hV]
  refine cc_pairs (fun x y q => ?_) (fun x y q => ?_)
  · rcases q with q | ⟨hx, rfl⟩
    · exact con_up (con_up (con_up (con_up (Con.of (Or.inl q)))))
    · by_cases z : x / 4 = v
      · rcases all x z with r | r | r | r
        · subst r; rw [sa]; exact con_up (con_up (con_up con_new))
        · subst r; rw [sb]; exact con_up (con_up (con_up con_new.sy))
        · subst r; rw [sd]; exact con_up (con_up con_new)
        · subst r; rw [se]; exact con_up (con_up con_new.sy)
      · by_cases z' : x / 4 = w
        · rcases all' x z' with r | r | r | r
          · subst r; rw [sa']; exact con_up con_new
          · subst r; rw [sb']; exact con_up con_new.sy
          · subst r; rw [sd']; exact con_new
          · subst r; rw [se']; exact con_new.sy
        · exact con_up (con_up (con_up (con_up (Con.of (Or.inr ⟨hx, ⟨z, z'⟩, rfl⟩)))))
  · rcases q with ((((q | ⟨hx, _, rfl⟩) | ⟨rfl, rfl⟩) | ⟨rfl, rfl⟩) | ⟨rfl, rfl⟩) | ⟨rfl, rfl⟩
    · exact Con.of (Or.inl q)
    · exact Con.of (Or.inr ⟨hx, rfl⟩)
    · exact Con.of (Or.inr ⟨l1, sa.symm⟩)
    · exact Con.of (Or.inr ⟨l3, sd.symm⟩)
    · exact Con.of (Or.inr ⟨l1', sa'.symm⟩)
    · exact Con.of (Or.inr ⟨l3', sd'.symm⟩)
/-- what keeps apart -/
def Iso (h : Nat → Prop) (L : Nat → Nat → Prop) : Prop := ∀ x y, L x y → (h x ↔ h y)
theorem Iso.add {h : Nat → Prop} {L : Nat → Nat → Prop} (H : Iso h L) {a b : Nat} (e : h a ↔ h b) : Iso h (addE L a b) := fun x y q => by
  rcases q with q | ⟨rfl, rfl⟩
  · exact H x y q
  · exact e
theorem Iso.no {h : Nat → Prop} {L : Nat → Nat → Prop} (H : Iso h L) {a b : Nat} (ha : h a) (hb : ¬ h b) : ¬ Con L a b := fun c => hb ((c h H).mp ha)
theorem cc_jn2 {V : Nat → Bool} {f : Nat → Nat} {L : Nat → Nat → Prop} {M p q a b : Nat} : cc V (addE (addE (aR V f L) p q) a b) M = cc V (addE (aR V f (addE L a b)) p q) M := by
  refine cc_pairs (fun x y r => ?_) (fun x y r => ?_)
  · rcases r with ((r | r) | ⟨rfl, rfl⟩) | ⟨rfl, rfl⟩
    · exact Con.of (Or.inl (Or.inl r))
    · exact Con.of (Or.inl (Or.inr (Or.inl r)))
    · exact con_new
    · exact Con.of (Or.inl (Or.inr (Or.inr ⟨rfl, rfl⟩)))
  · rcases r with (r | (r | ⟨rfl, rfl⟩)) | ⟨rfl, rfl⟩
    · exact con_up (con_up (Con.of (Or.inl r)))
    · exact con_up (con_up (Con.of (Or.inr r)))
    · exact con_new
    · exact con_up con_new
theorem cc_jn3 {V : Nat → Bool} {f : Nat → Nat} {L : Nat → Nat → Prop} {M a b : Nat} : cc V (aR V f (addE L a b)) M = cc V (addE (aR V f L) a b) M := by
  refine cc_pairs (fun x y r => ?_) (fun x y r => ?_)
  · rcases r with r | (r | ⟨rfl, rfl⟩)
    · exact Con.of (Or.inl (Or.inl r))
    · exact Con.of (Or.inl (Or.inr r))
    · exact con_new
  · rcases r with (r | r) | ⟨rfl, rfl⟩
    · exact Con.of (Or.inl r)
    · exact Con.of (Or.inr (Or.inl r))
    · exact Con.of (Or.inr (Or.inr ⟨rfl, rfl⟩))
theorem dl_dl_lt {c v w : Nat} (hv : v < c) (hw : w < c) (hvw : v ≠ w) (x : Nat) : dl (max v w) (dl (min v w) x) < 4 * c ↔ x < 4 * (c - 1 - 1) := by
  constructor
  · intro z
    have a := dm_lt (show max v w < c by omega) z (dl_ne _ _)
    rw [dm_dl] at a
    have b := dm_lt (show min v w < c - 1 by omega) a (dl_ne _ _)
    rw [dm_dl] at b
    exact b
  · intro z
    exact dl_lt (by omega) (dl_lt (show min v w < c - 1 by omega) z)
theorem dl_dl_ne {v w : Nat} (hvw : v ≠ w) (x : Nat) : dl (max v w) (dl (min v w) x) / 4 ≠ v ∧ dl (max v w) (dl (min v w) x) / 4 ≠ w := by
  have a := dl_ne (max v w) (dl (min v w) x)
  have b := dl_ne (min v w) x
  have d : dl (max v w) (dl (min v w) x) / 4 ≠ min v w := by
    have e : dl (max v w) (dl (min v w) x) = if dl (min v w) x < 4 * max v w then dl (min v w) x else dl (min v w) x + 4 := rfl
    rw [e]
    by_cases z : dl (min v w) x < 4 * max v w
    · rw [if_pos z]; exact b
    · rw [if_neg z]; omega
  omega
theorem dl_under {c v w x : Nat} (hv : v < c) (hw : w < c) (hvw : v ≠ w) (h : dl (max v w) x < 4 * c ∧ dl (max v w) x / 4 ≠ v ∧ dl (max v w) x / 4 ≠ w) : x < 4 * (c - 1) ∧ x / 4 ≠ min v w := by
  have b := dm_lt (show max v w < c by omega) h.1 (dl_ne _ _)
  rw [dm_dl] at b
  refine ⟨b, fun z => ?_⟩
  have e : dl (max v w) x = x := by unfold dl; rw [if_pos (by omega)]
  rw [e] at h
  omega
set_option maxHeartbeats 4000000 in
theorem bigon_base {c o : Nat} {f s s' : Nat → Nat} (hV : Vd c o f) {v w i j : Nat} (hv : v < c) (hw : w < c) (hvw : v ≠ w) (hi : i < 4) (hj : j < 4) (hE : bE f v w (4 * i + j)) (ho : (bgD (c, o, f) v w (4 * i + j)).2.1 ≤ 4) (hs : ∀ x, x < 4 * c → s x < 4 * c ∧ s x / 4 = x / 4) (hs' : ∀ x, x < 4 * (c - 1 - 1) → dl (max v w) (dl (min v w) (s' x)) = s (dl (max v w) (dl (min v w) x))) :
    o + cc (Vlt (4 * c)) (addE (addE (aR (Vlt (4 * c)) f (oS2 (4 * c) s v w)) (en v (i + 2)) (en w (j + 3))) (en v (i + 3)) (en w (j + 2))) (4 * c) = (bgD (c, o, f) v w (4 * i + j)).2.1 + 2 + cc (Vlt (4 * (c - 1 - 1))) (fR (4 * (c - 1 - 1)) (ot (c - 1 - 1) (bgD (c, o, f) v w (4 * i + j)).2.2) s') (4 * (c - 1 - 1)) := by
  have hW : Vd (c - 1 - 1) (bgD (c, o, f) v w (4 * i + j)).2.1 (bgD (c, o, f) v w (4 * i + j)).2.2 := bg_VS (d := (c, o, f)) hV hv hw hvw (by omega) hE ho
  have ei : (4 * i + j) / 4 = i := by omega
  have ej : (4 * i + j) % 4 = j := by omega
  obtain ⟨_, hE1, hE2⟩ := hE
  rw [ei, ej] at hE1 hE2
  have eo : (bgD (c, o, f) v w (4 * i + j)).2.1 = o + jnO f (en v (i + 2)) (en w (j + 3)) + jnO (jnF f (en v (i + 2)) (en w (j + 3))) (en v (i + 3)) (en w (j + 2)) := by
    show o + bgO f v w (4 * i + j) + bgP f v w (4 * i + j) = _
    unfold bgO bgP bgF
    rw [ei, ej]
  have ef : (bgD (c, o, f) v w (4 * i + j)).2.2 = drp (drp (jnF (jnF f (en v (i + 2)) (en w (j + 3))) (en v (i + 3)) (en w (j + 2))) (max v w)) (min v w) := by
    show drp (drp (bgG f v w (4 * i + j)) (max v w)) (min v w) = _
    unfold bgG bgF
    rw [ei, ej]
  have hM : ∀ x, Vlt (4 * c) x = true → x < 4 * c := fun x => Vlt_iff.mp
  have hL : ∀ x y, oS2 (4 * c) s v w x y → (x / 4 ≠ v ∧ x / 4 ≠ w) ∧ y / 4 ≠ v ∧ y / 4 ≠ w := fun x y r => by
    obtain ⟨h1, h2, rfl⟩ := r
    exact ⟨h2, by rw [(hs x h1).2]; exact h2⟩
  have ov : ∀ x, x / 4 ≠ v → ∀ i, x ≠ en v i := fun x hx i z => hx (by rw [z]; exact en_div v i)
  have ow : ∀ x, x / 4 ≠ w → ∀ i, x ≠ en w i := fun x hx i z => hx (by rw [z]; exact en_div w i)
  have lv : ∀ k, en v k < 4 * c := fun k => en_lt4 hv
  have lw : ∀ k, en w k < 4 * c := fun k => en_lt4 hw
  have vw : ∀ a b, en v a ≠ en w b := fun a b => by unfold en; omega
  have d1 : en v (i + 2) ≠ en w (j + 3) := vw _ _
  have d2 : en v (i + 3) ≠ en w (j + 2) := vw _ _
  have X23 : en v (i + 3) ≠ en v (i + 2) := by unfold en; omega
  have Y23 : en w (j + 2) ≠ en w (j + 3) := by unfold en; omega
  have off : ∀ x y, oS2 (4 * c) s v w x y → ∀ a b, (x ≠ en v a ∧ x ≠ en w b) ∧ y ≠ en v a ∧ y ≠ en w b := fun x y r a b =>
    ⟨⟨ov x (hL x y r).1.1 a, ow x (hL x y r).1.2 b⟩, ov y (hL x y r).2.1 a, ow y (hL x y r).2.2 b⟩
  have j1 := cc_jn (f := f) (L := addE (oS2 (4 * c) s v w) (en v (i + 3)) (en w (j + 2))) hM (mt_V hV) (p := en v (i + 2)) (q := en w (j + 3)) (Vlt_iff.mpr (lv _)) (Vlt_iff.mpr (lw _)) d1 (fun x y r => by
    rcases r with r | ⟨rfl, rfl⟩
    · exact off x y r _ _
    · exact ⟨⟨X23, vw _ _⟩, fun z => vw _ _ z.symm, Y23⟩)
  have m1 := mt_jn (mt_V hV) (p := en v (i + 2)) (q := en w (j + 3)) (Vlt_iff.mpr (lv _)) (Vlt_iff.mpr (lw _)) d1
  have v3 : dl2 (Vlt (4 * c)) (en v (i + 2)) (en w (j + 3)) (en v (i + 3)) = true := dl2_iff.mpr ⟨Vlt_iff.mpr (lv _), X23, vw _ _⟩
  have v2 : dl2 (Vlt (4 * c)) (en v (i + 2)) (en w (j + 3)) (en w (j + 2)) = true := dl2_iff.mpr ⟨Vlt_iff.mpr (lw _), fun z => vw _ _ z.symm, Y23⟩
  have j2 := cc_jn (V := dl2 (Vlt (4 * c)) (en v (i + 2)) (en w (j + 3))) (L := oS2 (4 * c) s v w) (M := 4 * c) (fun x hx => hM x (dl2_iff.mp hx).1) m1 v3 v2 d2 (fun x y r => off x y r _ _)
  have m2 := mt_jn (V := dl2 (Vlt (4 * c)) (en v (i + 2)) (en w (j + 3))) m1 v3 v2 d2
  have e01 : jnF (jnF f (en v (i + 2)) (en w (j + 3))) (en v (i + 3)) (en w (j + 2)) (en v i) = jnF (jnF f (en v (i + 2)) (en w (j + 3))) (en v (i + 3)) (en w (j + 2)) (en w (j + 1)) := jn_eq (jn_eq hE1)
  have e10 : jnF (jnF f (en v (i + 2)) (en w (j + 3))) (en v (i + 3)) (en w (j + 2)) (en v (i + 1)) = jnF (jnF f (en v (i + 2)) (en w (j + 3))) (en v (i + 3)) (en w (j + 2)) (en w j) := jn_eq (jn_eq hE2)
  have X02 : en v i ≠ en v (i + 2) ∧ en v i ≠ en v (i + 3) ∧ en v (i + 1) ≠ en v (i + 2) ∧ en v (i + 1) ≠ en v (i + 3) ∧ en v i ≠ en v (i + 1) := by unfold en; omega
  have Y02 : en w j ≠ en w (j + 2) ∧ en w j ≠ en w (j + 3) ∧ en w (j + 1) ≠ en w (j + 2) ∧ en w (j + 1) ≠ en w (j + 3) ∧ en w j ≠ en w (j + 1) := by unfold en; omega
  have vX0 : dl2 (dl2 (Vlt (4 * c)) (en v (i + 2)) (en w (j + 3))) (en v (i + 3)) (en w (j + 2)) (en v i) = true := dl2_iff.mpr ⟨dl2_iff.mpr ⟨Vlt_iff.mpr (lv _), X02.1, vw _ _⟩, X02.2.1, vw _ _⟩
  have vX1 : dl2 (dl2 (Vlt (4 * c)) (en v (i + 2)) (en w (j + 3))) (en v (i + 3)) (en w (j + 2)) (en v (i + 1)) = true := dl2_iff.mpr ⟨dl2_iff.mpr ⟨Vlt_iff.mpr (lv _), X02.2.2.1, vw _ _⟩, X02.2.2.2.1, vw _ _⟩
  have vY0 : dl2 (dl2 (Vlt (4 * c)) (en v (i + 2)) (en w (j + 3))) (en v (i + 3)) (en w (j + 2)) (en w j) = true := dl2_iff.mpr ⟨dl2_iff.mpr ⟨Vlt_iff.mpr (lw _), fun z => vw _ _ z.symm, Y02.2.1⟩, fun z => vw _ _ z.symm, Y02.1⟩
  have vY1 : dl2 (dl2 (Vlt (4 * c)) (en v (i + 2)) (en w (j + 3))) (en v (i + 3)) (en w (j + 2)) (en w (j + 1)) = true := dl2_iff.mpr ⟨dl2_iff.mpr ⟨Vlt_iff.mpr (lw _), fun z => vw _ _ z.symm, Y02.2.2.2.1⟩, fun z => vw _ _ z.symm, Y02.2.2.1⟩
  have j3 := cc_del (V := dl2 (dl2 (Vlt (4 * c)) (en v (i + 2)) (en w (j + 3))) (en v (i + 3)) (en w (j + 2))) (L := oS2 (4 * c) s v w) (M := 4 * c) (fun x hx => hM x (dl2_iff.mp (dl2_iff.mp hx).1).1) m2 vX0 vY1 (vw _ _) e01 (fun x y r => off x y r _ _)
  have m3 := mt_del (V := dl2 (dl2 (Vlt (4 * c)) (en v (i + 2)) (en w (j + 3))) (en v (i + 3)) (en w (j + 2))) m2 vX0 vY1 (vw _ _) e01
  have vX1' := dl2_iff.mpr ⟨vX1, fun z => X02.2.2.2.2 z.symm, vw _ (j + 1)⟩
  have vY0' := dl2_iff.mpr ⟨vY0, fun z => vw i _ z.symm, Y02.2.2.2.2⟩
  have j4 := cc_del (V := dl2 (dl2 (dl2 (Vlt (4 * c)) (en v (i + 2)) (en w (j + 3))) (en v (i + 3)) (en w (j + 2))) (en v i) (en w (j + 1))) (L := oS2 (4 * c) s v w) (M := 4 * c) (fun x hx => hM x (dl2_iff.mp (dl2_iff.mp (dl2_iff.mp hx).1).1).1) m3 vX1' vY0' (vw _ _) e10 (fun x y r => off x y r _ _)
  clear X02 Y02 X23 Y23
  have vv : ∀ x, dl2 (dl2 (dl2 (dl2 (Vlt (4 * c)) (en v (i + 2)) (en w (j + 3))) (en v (i + 3)) (en w (j + 2))) (en v i) (en w (j + 1))) (en v (i + 1)) (en w j) x = true ↔ x < 4 * c ∧ x / 4 ≠ v ∧ x / 4 ≠ w := fun x => by
    rw [dl2_iff, dl2_iff, dl2_iff, dl2_iff, Vlt_iff]
    have a := en4 v x hi
    have b := en4 w x hj
    constructor
    · rintro ⟨⟨⟨⟨h0, h1, h2⟩, h3, h4⟩, h5, h6⟩, h7, h8⟩
      exact ⟨h0, a.mp ⟨h5, h7, h1, h3⟩, b.mp ⟨h8, h6, h4, h2⟩⟩
    · rintro ⟨h0, h1, h2⟩
      obtain ⟨a1, a2, a3, a4⟩ := a.mpr h1
      obtain ⟨b1, b2, b3, b4⟩ := b.mpr h2
      exact ⟨⟨⟨⟨h0, a3, b4⟩, a4, b3⟩, a1, b2⟩, a2, b1⟩
  generalize hV4 : dl2 (dl2 (dl2 (dl2 (Vlt (4 * c)) (en v (i + 2)) (en w (j + 3))) (en v (i + 3)) (en w (j + 2))) (en v i) (en w (j + 1))) (en v (i + 1)) (en w j) = V4 at vv j4
  generalize hf4 : jnF (jnF f (en v (i + 2)) (en w (j + 3))) (en v (i + 3)) (en w (j + 2)) = f4 at j2 j3 j4 ef
  have j5 := cc_drop (f := f4) (V := V4) (L := oS2 (4 * c) s v w) (c := c) (v := max v w) (by omega) (fun x hx => by
    have := (vv x).mp hx
    exact ⟨this.1, by omega⟩) (fun x y r => ⟨(vv x).mpr ⟨r.1, (hL x y r).1⟩, (vv y).mpr ⟨by rw [r.2.2]; exact (hs x r.1).1, (hL x y r).2⟩⟩)
  have j6 := cc_drop (f := drp f4 (max v w)) (V := fun x => V4 (dl (max v w) x)) (L := fun x y => oS2 (4 * c) s v w (dl (max v w) x) (dl (max v w) y)) (c := c - 1) (v := min v w) (by omega) (fun x hx => by
    exact dl_under hv hw hvw ((vv _).mp hx)) (fun x y r => ⟨(vv _).mpr ⟨r.1, (hL _ _ r).1⟩, (vv _).mpr ⟨by rw [r.2.2]; exact (hs _ r.1).1, (hL _ _ r).2⟩⟩)
  have j7 : cc (fun x => V4 (dl (max v w) (dl (min v w) x))) (aR (fun x => V4 (dl (max v w) (dl (min v w) x))) (drp (drp f4 (max v w)) (min v w)) (fun x y => oS2 (4 * c) s v w (dl (max v w) (dl (min v w) x)) (dl (max v w) (dl (min v w) y)))) (4 * (c - 1 - 1)) = cc (Vlt (4 * (c - 1 - 1))) (aR (Vlt (4 * (c - 1 - 1))) (drp (drp f4 (max v w)) (min v w)) (sR (4 * (c - 1 - 1)) s')) (4 * (c - 1 - 1)) := by
    refine aR_cong (fun x => ?_) (fun x y => ?_)
    · rw [Bool.eq_iff_iff, vv, Vlt_iff, dl_dl_lt hv hw hvw]
      exact ⟨fun z => z.1, fun z => ⟨z, dl_dl_ne hvw x⟩⟩
    · constructor
      · rintro ⟨h1, _, h3⟩
        have hx := (dl_dl_lt hv hw hvw x).mp h1
        exact ⟨hx, dl_inj (dl_inj (h3.trans (hs' x hx).symm))⟩
      · rintro ⟨h1, rfl⟩
        exact ⟨(dl_dl_lt hv hw hvw x).mpr h1, dl_dl_ne hvw x, hs' x h1⟩
  rw [fR_aR hW, eo, ef, ← j7, cc_jn2, j1, cc_jn3, j2]
  clear d1 d2 hvw
  omega
/-- the inner ends of the bigon: two classes in the base -/
theorem bigon_iso {c o : Nat} {f s : Nat → Nat} (hV : Vd c o f) {v w i j : Nat} (hv : v < c) (hw : w < c) (hvw : v ≠ w) (e1 : f (en v i) = f (en w (j + 1))) (hs : ∀ x, x < 4 * c → s x < 4 * c ∧ s x / 4 = x / 4) : Iso (fun z => z = en v i ∨ z = en w (j + 1)) (aR (Vlt (4 * c)) f (oS2 (4 * c) s v w)) := fun x y r => by
  have two : ∀ x, x < 4 * c → f x = f (en v i) → x = en v i ∨ x = en w (j + 1) := fun x hx ex => by
    obtain ⟨t, h1, h2, h3, h4⟩ := (Vd.mt hV) (en v i) (en_lt4 hv)
    have e2 := (h4 (en w (j + 1)) (en_lt4 hw) e1.symm).resolve_left (fun z => by unfold en at z; omega)
    rcases h4 x hx ex with r | r
    · exact Or.inl r
    · exact Or.inr (r.trans e2.symm)
  rcases r with ⟨hx, hy, e⟩ | ⟨h1, h2, rfl⟩
  · have hx := Vlt_iff.mp hx
    have hy := Vlt_iff.mp hy
    constructor
    · rintro (rfl | rfl)
      · exact two y hy e.symm
      · exact two y hy (e.symm.trans e1.symm)
    · rintro (rfl | rfl)
      · exact two x hx e
      · exact two x hx (e.trans e1.symm)
  · have h3 := (hs x h1).2
    constructor
    · rintro (rfl | rfl)
      · exact absurd (en_div v _) h2.1
      · exact absurd (en_div w _) h2.2
    · rintro (z | z)
      · rw [z, en_div] at h3; exact absurd h3.symm h2.1
      · rw [z, en_div] at h3; exact absurd h3.symm h2.2
theorem bigon_iso2 {c o : Nat} {f s : Nat → Nat} (hV : Vd c o f) {v w i j : Nat} (hv : v < c) (hw : w < c) (hvw : v ≠ w) (e1 : f (en v (i + 1)) = f (en w j)) (hs : ∀ x, x < 4 * c → s x < 4 * c ∧ s x / 4 = x / 4) : Iso (fun z => z = en v (i + 1) ∨ z = en w j) (aR (Vlt (4 * c)) f (oS2 (4 * c) s v w)) := fun x y r => by
  have ej : en w j = en w (j + 3 + 1) := by unfold en; omega
  rw [ej] at e1 ⊢
  exact bigon_iso hV hv hw hvw e1 hs x y r
set_option maxHeartbeats 4000000 in
/-- the pairings P, Q, T of a bigon's crossing -/
theorem bigon_QQ {c o : Nat} {f s s' : Nat → Nat} (hV : Vd c o f) {v w i j : Nat} (hv : v < c) (hw : w < c) (hvw : v ≠ w) (hi : i < 4) (hj : j < 4) (hE : bE f v w (4 * i + j)) (ho : (bgD (c, o, f) v w (4 * i + j)).2.1 ≤ 4) (hs : ∀ x, x < 4 * c → s x < 4 * c ∧ s x / 4 = x / 4) (hs' : ∀ x, x < 4 * (c - 1 - 1) → dl (max v w) (dl (min v w) (s' x)) = s (dl (max v w) (dl (min v w) x)))
    (h : (Four (4 * c) v s (en v i) (en v (i + 3)) (en v (i + 1)) (en v (i + 2)) ∧ Four (4 * c) w s (en w j) (en w (j + 3)) (en w (j + 1)) (en w (j + 2))) ∨ (Four (4 * c) v s (en v i) (en v (i + 2)) (en v (i + 1)) (en v (i + 3)) ∧ Four (4 * c) w s (en w j) (en w (j + 2)) (en w (j + 1)) (en w (j + 3)))) :
    o + cc (Vlt (4 * c)) (fR (4 * c) (ot c f) s) (4 * c) = (bgD (c, o, f) v w (4 * i + j)).2.1 + cc (Vlt (4 * (c - 1 - 1))) (fR (4 * (c - 1 - 1)) (ot (c - 1 - 1) (bgD (c, o, f) v w (4 * i + j)).2.2) s') (4 * (c - 1 - 1)) := by
  have base := bigon_base hV hv hw hvw hi hj hE ho hs hs'
  obtain ⟨_, hE1, hE2⟩ := hE
  rw [show (4 * i + j) / 4 = i by omega, show (4 * i + j) % 4 = j by omega] at hE1 hE2
  have I1 := bigon_iso hV hv hw hvw hE1 hs
  have I2 := bigon_iso2 hV hv hw hvw hE2 hs
  have hM : ∀ x, Vlt (4 * c) x = true → x < 4 * c := fun x => Vlt_iff.mp
  have lv : ∀ k, Vlt (4 * c) (en v k) = true := fun k => Vlt_iff.mpr (en_lt4 hv)
  have lw : ∀ k, Vlt (4 * c) (en w k) = true := fun k => Vlt_iff.mpr (en_lt4 hw)
  have a01 : Con (aR (Vlt (4 * c)) f (oS2 (4 * c) s v w)) (en v i) (en w (j + 1)) := Con.of (Or.inl ⟨lv _, lw _, hE1⟩)
  have a10 : Con (aR (Vlt (4 * c)) f (oS2 (4 * c) s v w)) (en v (i + 1)) (en w j) := Con.of (Or.inl ⟨lv _, lw _, hE2⟩)
  generalize hB : aR (Vlt (4 * c)) f (oS2 (4 * c) s v w) = B at base I1 I2 a01 a10
  have J1 : Iso (fun z => z = en v i ∨ z = en w (j + 1)) (addE (addE B (en v (i + 2)) (en w (j + 3))) (en v (i + 3)) (en w (j + 2))) :=
    (I1.add (by unfold en; omega)).add (by unfold en; omega)
  have J2 : Iso (fun z => z = en v (i + 1) ∨ z = en w j) (addE (addE B (en v (i + 2)) (en w (j + 3))) (en v (i + 3)) (en w (j + 2))) :=
    (I2.add (by unfold en; omega)).add (by unfold en; omega)
  rcases h with ⟨h1, h2⟩ | ⟨h1, h2⟩
  · have n1 := J1.no (a := en v i) (b := en v (i + 3)) (Or.inl rfl) (by unfold en; omega)
    have n2 := (J2.add (a := en v i) (b := en v (i + 3)) (by unfold en; omega)).no (a := en v (i + 1)) (b := en v (i + 2)) (Or.inl rfl) (by unfold en; omega)
    have m1 := cc_merge hM (lv _) (lv _) n1
    have m2 := cc_merge hM (lv _) (lv _) n2
    have e : cc (Vlt (4 * c)) (fR (4 * c) (ot c f) s) (4 * c) = cc (Vlt (4 * c)) (addE (addE (addE (addE B (en v (i + 2)) (en w (j + 3))) (en v (i + 3)) (en w (j + 2))) (en v i) (en v (i + 3))) (en v (i + 1)) (en v (i + 2))) (4 * c) := by
      rw [ww_split hV h1 h2, hB]
      refine cc_pairs (fun x y q => ?_) (fun x y q => ?_)
      · have b1 := con_up (a := en v (i + 1)) (b := en v (i + 2)) (con_up (a := en v i) (b := en v (i + 3)) (con_up (a := en v (i + 3)) (b := en w (j + 2)) (con_up (a := en v (i + 2)) (b := en w (j + 3)) a01)))
        have b2 := con_up (a := en v (i + 1)) (b := en v (i + 2)) (con_up (a := en v i) (b := en v (i + 3)) (con_up (a := en v (i + 3)) (b := en w (j + 2)) (con_up (a := en v (i + 2)) (b := en w (j + 3)) a10)))
        have k1 : Con (addE (addE (addE (addE B (en v (i + 2)) (en w (j + 3))) (en v (i + 3)) (en w (j + 2))) (en v i) (en v (i + 3))) (en v (i + 1)) (en v (i + 2))) (en v i) (en v (i + 3)) := con_up con_new
        have k2 : Con (addE (addE (addE (addE B (en v (i + 2)) (en w (j + 3))) (en v (i + 3)) (en w (j + 2))) (en v i) (en v (i + 3))) (en v (i + 1)) (en v (i + 2))) (en v (i + 1)) (en v (i + 2)) := con_new
        have k3 : Con (addE (addE (addE (addE B (en v (i + 2)) (en w (j + 3))) (en v (i + 3)) (en w (j + 2))) (en v i) (en v (i + 3))) (en v (i + 1)) (en v (i + 2))) (en v (i + 2)) (en w (j + 3)) := con_up (con_up (con_up con_new))
        have k4 : Con (addE (addE (addE (addE B (en v (i + 2)) (en w (j + 3))) (en v (i + 3)) (en w (j + 2))) (en v i) (en v (i + 3))) (en v (i + 1)) (en v (i + 2))) (en v (i + 3)) (en w (j + 2)) := con_up (con_up con_new)
        rcases q with (((q | ⟨rfl, rfl⟩) | ⟨rfl, rfl⟩) | ⟨rfl, rfl⟩) | ⟨rfl, rfl⟩
        · exact con_up (con_up (con_up (con_up (Con.of q))))
        · exact k1
        · exact k2
        · exact b2.sy.tr (k2.tr k3)
        · exact b1.sy.tr (k1.tr k4)
      · have b1 := con_up (a := en w (j + 1)) (b := en w (j + 2)) (con_up (a := en w j) (b := en w (j + 3)) (con_up (a := en v (i + 1)) (b := en v (i + 2)) (con_up (a := en v i) (b := en v (i + 3)) a01)))
        have b2 := con_up (a := en w (j + 1)) (b := en w (j + 2)) (con_up (a := en w j) (b := en w (j + 3)) (con_up (a := en v (i + 1)) (b := en v (i + 2)) (con_up (a := en v i) (b := en v (i + 3)) a10)))
        have k1 : Con (addE (addE (addE (addE B (en v i) (en v (i + 3))) (en v (i + 1)) (en v (i + 2))) (en w j) (en w (j + 3))) (en w (j + 1)) (en w (j + 2))) (en v i) (en v (i + 3)) := con_up (con_up (con_up con_new))
        have k2 : Con (addE (addE (addE (addE B (en v i) (en v (i + 3))) (en v (i + 1)) (en v (i + 2))) (en w j) (en w (j + 3))) (en w (j + 1)) (en w (j + 2))) (en v (i + 1)) (en v (i + 2)) := con_up (con_up con_new)
        have k3 : Con (addE (addE (addE (addE B (en v i) (en v (i + 3))) (en v (i + 1)) (en v (i + 2))) (en w j) (en w (j + 3))) (en w (j + 1)) (en w (j + 2))) (en w j) (en w (j + 3)) := con_up con_new
        have k4 : Con (addE (addE (addE (addE B (en v i) (en v (i + 3))) (en v (i + 1)) (en v (i + 2))) (en w j) (en w (j + 3))) (en w (j + 1)) (en w (j + 2))) (en w (j + 1)) (en w (j + 2)) := con_new
        rcases q with (((q | ⟨rfl, rfl⟩) | ⟨rfl, rfl⟩) | ⟨rfl, rfl⟩) | ⟨rfl, rfl⟩
        · exact con_up (con_up (con_up (con_up (Con.of q))))
        · exact k2.sy.tr (b2.tr k3)
        · exact k1.sy.tr (b1.tr k4)
        · exact k1
        · exact k2
    omega
  · have n1 := J1.no (a := en v i) (b := en v (i + 2)) (Or.inl rfl) (by unfold en; omega)
    have n2 := (J2.add (a := en v i) (b := en v (i + 2)) (by unfold en; omega)).no (a := en v (i + 1)) (b := en v (i + 3)) (Or.inl rfl) (by unfold en; omega)
    have m1 := cc_merge hM (lv _) (lv _) n1
    have m2 := cc_merge hM (lv _) (lv _) n2
    have e : cc (Vlt (4 * c)) (fR (4 * c) (ot c f) s) (4 * c) = cc (Vlt (4 * c)) (addE (addE (addE (addE B (en v (i + 2)) (en w (j + 3))) (en v (i + 3)) (en w (j + 2))) (en v i) (en v (i + 2))) (en v (i + 1)) (en v (i + 3))) (4 * c) := by
      rw [ww_split hV h1 h2, hB]
      refine cc_pairs (fun x y q => ?_) (fun x y q => ?_)
      · have b1 := con_up (a := en v (i + 1)) (b := en v (i + 3)) (con_up (a := en v i) (b := en v (i + 2)) (con_up (a := en v (i + 3)) (b := en w (j + 2)) (con_up (a := en v (i + 2)) (b := en w (j + 3)) a01)))
        have b2 := con_up (a := en v (i + 1)) (b := en v (i + 3)) (con_up (a := en v i) (b := en v (i + 2)) (con_up (a := en v (i + 3)) (b := en w (j + 2)) (con_up (a := en v (i + 2)) (b := en w (j + 3)) a10)))
        have k1 : Con (addE (addE (addE (addE B (en v (i + 2)) (en w (j + 3))) (en v (i + 3)) (en w (j + 2))) (en v i) (en v (i + 2))) (en v (i + 1)) (en v (i + 3))) (en v i) (en v (i + 2)) := con_up con_new
        have k2 : Con (addE (addE (addE (addE B (en v (i + 2)) (en w (j + 3))) (en v (i + 3)) (en w (j + 2))) (en v i) (en v (i + 2))) (en v (i + 1)) (en v (i + 3))) (en v (i + 1)) (en v (i + 3)) := con_new
        have k3 : Con (addE (addE (addE (addE B (en v (i + 2)) (en w (j + 3))) (en v (i + 3)) (en w (j + 2))) (en v i) (en v (i + 2))) (en v (i + 1)) (en v (i + 3))) (en v (i + 2)) (en w (j + 3)) := con_up (con_up (con_up con_new))
        have k4 : Con (addE (addE (addE (addE B (en v (i + 2)) (en w (j + 3))) (en v (i + 3)) (en w (j + 2))) (en v i) (en v (i + 2))) (en v (i + 1)) (en v (i + 3))) (en v (i + 3)) (en w (j + 2)) := con_up (con_up con_new)
        rcases q with (((q | ⟨rfl, rfl⟩) | ⟨rfl, rfl⟩) | ⟨rfl, rfl⟩) | ⟨rfl, rfl⟩
        · exact con_up (con_up (con_up (con_up (Con.of q))))
        · exact k1
        · exact k2
        · exact b2.sy.tr (k2.tr k4)
        · exact b1.sy.tr (k1.tr k3)
      · have b1 := con_up (a := en w (j + 1)) (b := en w (j + 3)) (con_up (a := en w j) (b := en w (j + 2)) (con_up (a := en v (i + 1)) (b := en v (i + 3)) (con_up (a := en v i) (b := en v (i + 2)) a01)))
        have b2 := con_up (a := en w (j + 1)) (b := en w (j + 3)) (con_up (a := en w j) (b := en w (j + 2)) (con_up (a := en v (i + 1)) (b := en v (i + 3)) (con_up (a := en v i) (b := en v (i + 2)) a10)))
        have k1 : Con (addE (addE (addE (addE B (en v i) (en v (i + 2))) (en v (i + 1)) (en v (i + 3))) (en w j) (en w (j + 2))) (en w (j + 1)) (en w (j + 3))) (en v i) (en v (i + 2)) := con_up (con_up (con_up con_new))
        have k2 : Con (addE (addE (addE (addE B (en v i) (en v (i + 2))) (en v (i + 1)) (en v (i + 3))) (en w j) (en w (j + 2))) (en w (j + 1)) (en w (j + 3))) (en v (i + 1)) (en v (i + 3)) := con_up (con_up con_new)
        have k3 : Con (addE (addE (addE (addE B (en v i) (en v (i + 2))) (en v (i + 1)) (en v (i + 3))) (en w j) (en w (j + 2))) (en w (j + 1)) (en w (j + 3))) (en w j) (en w (j + 2)) := con_up con_new
        have k4 : Con (addE (addE (addE (addE B (en v i) (en v (i + 2))) (en v (i + 1)) (en v (i + 3))) (en w j) (en w (j + 2))) (en w (j + 1)) (en w (j + 3))) (en w (j + 1)) (en w (j + 3)) := con_new
        rcases q with (((q | ⟨rfl, rfl⟩) | ⟨rfl, rfl⟩) | ⟨rfl, rfl⟩) | ⟨rfl, rfl⟩
        · exact con_up (con_up (con_up (con_up (Con.of q))))
        · exact k1.sy.tr (b1.tr k4)
        · exact k2.sy.tr (b2.tr k3)
        · exact k1
        · exact k2
    omega
set_option maxHeartbeats 4000000 in
/-- the other three: PP has one class more than PQ and QP (s1, s2, s3 differ at v and w alone) -/
theorem bigon_PP {c o : Nat} {f s1 s2 s3 : Nat → Nat} (hV : Vd c o f) {v w i j : Nat} (hv : v < c) (hw : w < c) (hvw : v ≠ w) (hE : bE f v w (4 * i + j)) (hi : i < 4) (hj : j < 4) (hs : ∀ x, x < 4 * c → s1 x < 4 * c ∧ s1 x / 4 = x / 4) (d2 : ∀ x, x < 4 * c → x / 4 ≠ v → x / 4 ≠ w → s2 x = s1 x) (d3 : ∀ x, x < 4 * c → x / 4 ≠ v → x / 4 ≠ w → s3 x = s1 x)
    (p1 : Four (4 * c) v s1 (en v i) (en v (i + 1)) (en v (i + 2)) (en v (i + 3))) (p2 : Four (4 * c) w s1 (en w j) (en w (j + 1)) (en w (j + 2)) (en w (j + 3)))
    (q1 : Four (4 * c) v s2 (en v i) (en v (i + 1)) (en v (i + 2)) (en v (i + 3))) (q2 : Four (4 * c) w s2 (en w j) (en w (j + 3)) (en w (j + 1)) (en w (j + 2)))
    (r1 : Four (4 * c) v s3 (en v i) (en v (i + 3)) (en v (i + 1)) (en v (i + 2))) (r2 : Four (4 * c) w s3 (en w j) (en w (j + 1)) (en w (j + 2)) (en w (j + 3))) :
    cc (Vlt (4 * c)) (fR (4 * c) (ot c f) s1) (4 * c) = cc (Vlt (4 * c)) (fR (4 * c) (ot c f) s2) (4 * c) + 1 ∧ cc (Vlt (4 * c)) (fR (4 * c) (ot c f) s3) (4 * c) = cc (Vlt (4 * c)) (fR (4 * c) (ot c f) s2) (4 * c) := by
  obtain ⟨_, hE1, hE2⟩ := hE
  rw [show (4 * i + j) / 4 = i by omega, show (4 * i + j) % 4 = j by omega] at hE1 hE2
  have I1 := bigon_iso hV hv hw hvw hE1 hs
  have I2 := bigon_iso2 hV hv hw hvw hE2 hs
  have hM : ∀ x, Vlt (4 * c) x = true → x < 4 * c := fun x => Vlt_iff.mp
  have lv : ∀ k, Vlt (4 * c) (en v k) = true := fun k => Vlt_iff.mpr (en_lt4 hv)
  have lw : ∀ k, Vlt (4 * c) (en w k) = true := fun k => Vlt_iff.mpr (en_lt4 hw)
  have a01 : Con (aR (Vlt (4 * c)) f (oS2 (4 * c) s1 v w)) (en v i) (en w (j + 1)) := Con.of (Or.inl ⟨lv _, lw _, hE1⟩)
  have a10 : Con (aR (Vlt (4 * c)) f (oS2 (4 * c) s1 v w)) (en v (i + 1)) (en w j) := Con.of (Or.inl ⟨lv _, lw _, hE2⟩)
  have o2 : aR (Vlt (4 * c)) f (oS2 (4 * c) s2 v w) = aR (Vlt (4 * c)) f (oS2 (4 * c) s1 v w) := by
    funext x y
    have : oS2 (4 * c) s2 v w x y = oS2 (4 * c) s1 v w x y := by
      refine propext ⟨?_, ?_⟩
      · rintro ⟨a, b, rfl⟩; exact ⟨a, b, d2 x a b.1 b.2⟩
      · rintro ⟨a, b, rfl⟩; exact ⟨a, b, (d2 x a b.1 b.2).symm⟩
    unfold aR
    rw [this]
  have o3 : aR (Vlt (4 * c)) f (oS2 (4 * c) s3 v w) = aR (Vlt (4 * c)) f (oS2 (4 * c) s1 v w) := by
    funext x y
    have : oS2 (4 * c) s3 v w x y = oS2 (4 * c) s1 v w x y := by
      refine propext ⟨?_, ?_⟩
      · rintro ⟨a, b, rfl⟩; exact ⟨a, b, d3 x a b.1 b.2⟩
      · rintro ⟨a, b, rfl⟩; exact ⟨a, b, (d3 x a b.1 b.2).symm⟩
    unfold aR
    rw [this]
  rw [ww_split hV p1 p2, ww_split hV q1 q2, ww_split hV r1 r2, o2, o3]
  generalize aR (Vlt (4 * c)) f (oS2 (4 * c) s1 v w) = B at I1 I2 a01 a10
  have K1 : Iso (fun z => z = en v i ∨ z = en w (j + 1)) (addE (addE B (en v (i + 2)) (en v (i + 3))) (en w (j + 2)) (en w (j + 3))) := (I1.add (by unfold en; omega)).add (by unfold en; omega)
  have n1 := K1.no (a := en v i) (b := en v (i + 1)) (Or.inl rfl) (by unfold en; omega)
  have m1 := cc_merge hM (lv _) (lv _) n1
  have I3 : Iso (fun z => (z = en v i ∨ z = en w (j + 1)) ∨ (z = en v (i + 1) ∨ z = en w j)) B := fun x y q => by
    have a := I1 x y q
    have b := I2 x y q
    exact or_congr a b
  have K3 : Iso (fun z => (z = en v i ∨ z = en w (j + 1)) ∨ (z = en v (i + 1) ∨ z = en w j)) (addE (addE (addE B (en v (i + 2)) (en v (i + 3))) (en w (j + 2)) (en w (j + 3))) (en v i) (en v (i + 1))) :=
    ((I3.add (by unfold en; omega)).add (by unfold en; omega)).add ⟨fun _ => Or.inr (Or.inl rfl), fun _ => Or.inl (Or.inl rfl)⟩
  have n2 := K3.no (a := en v i) (b := en w (j + 2)) (Or.inl (Or.inl rfl)) (by unfold en; omega)
  have n3 := K3.no (a := en v i) (b := en v (i + 3)) (Or.inl (Or.inl rfl)) (by unfold en; omega)
  have m2 := cc_merge hM (lv _) (lw _) n2
  have m3 := cc_merge hM (lv _) (lv _) n3
  have eP : cc (Vlt (4 * c)) (addE (addE (addE (addE B (en v i) (en v (i + 1))) (en v (i + 2)) (en v (i + 3))) (en w j) (en w (j + 1))) (en w (j + 2)) (en w (j + 3))) (4 * c) = cc (Vlt (4 * c)) (addE (addE (addE B (en v (i + 2)) (en v (i + 3))) (en w (j + 2)) (en w (j + 3))) (en v i) (en v (i + 1))) (4 * c) := by
    refine cc_pairs (fun x y q => ?_) (fun x y q => ?_)
    · have b1 := con_up (a := en v i) (b := en v (i + 1)) (con_up (a := en w (j + 2)) (b := en w (j + 3)) (con_up (a := en v (i + 2)) (b := en v (i + 3)) a01))
      have b2 := con_up (a := en v i) (b := en v (i + 1)) (con_up (a := en w (j + 2)) (b := en w (j + 3)) (con_up (a := en v (i + 2)) (b := en v (i + 3)) a10))
      have k1 : Con (addE (addE (addE B (en v (i + 2)) (en v (i + 3))) (en w (j + 2)) (en w (j + 3))) (en v i) (en v (i + 1))) (en v i) (en v (i + 1)) := con_new
      rcases q with (((q | ⟨rfl, rfl⟩) | ⟨rfl, rfl⟩) | ⟨rfl, rfl⟩) | ⟨rfl, rfl⟩
      · exact con_up (con_up (con_up (Con.of q)))
      · exact k1
      · exact con_up (con_up con_new)
      · exact b2.sy.tr (k1.sy.tr b1)
      · exact con_up con_new
    · rcases q with ((q | ⟨rfl, rfl⟩) | ⟨rfl, rfl⟩) | ⟨rfl, rfl⟩
      · exact con_up (con_up (con_up (con_up (Con.of q))))
      · exact con_up (con_up con_new)
      · exact con_new
      · exact con_up (con_up (con_up con_new))
  have eQ : cc (Vlt (4 * c)) (addE (addE (addE (addE B (en v i) (en v (i + 1))) (en v (i + 2)) (en v (i + 3))) (en w j) (en w (j + 3))) (en w (j + 1)) (en w (j + 2))) (4 * c) = cc (Vlt (4 * c)) (addE (addE (addE (addE B (en v (i + 2)) (en v (i + 3))) (en w (j + 2)) (en w (j + 3))) (en v i) (en v (i + 1))) (en v i) (en w (j + 2))) (4 * c) := by
    refine cc_pairs (fun x y q => ?_) (fun x y q => ?_)
    · have b1 := con_up (a := en v i) (b := en w (j + 2)) (con_up (a := en v i) (b := en v (i + 1)) (con_up (a := en w (j + 2)) (b := en w (j + 3)) (con_up (a := en v (i + 2)) (b := en v (i + 3)) a01)))
      have b2 := con_up (a := en v i) (b := en w (j + 2)) (con_up (a := en v i) (b := en v (i + 1)) (con_up (a := en w (j + 2)) (b := en w (j + 3)) (con_up (a := en v (i + 2)) (b := en v (i + 3)) a10)))
      have k1 : Con (addE (addE (addE (addE B (en v (i + 2)) (en v (i + 3))) (en w (j + 2)) (en w (j + 3))) (en v i) (en v (i + 1))) (en v i) (en w (j + 2))) (en v i) (en v (i + 1)) := con_up con_new
      have k2 : Con (addE (addE (addE (addE B (en v (i + 2)) (en v (i + 3))) (en w (j + 2)) (en w (j + 3))) (en v i) (en v (i + 1))) (en v i) (en w (j + 2))) (en v i) (en w (j + 2)) := con_new
      have k3 : Con (addE (addE (addE (addE B (en v (i + 2)) (en v (i + 3))) (en w (j + 2)) (en w (j + 3))) (en v i) (en v (i + 1))) (en v i) (en w (j + 2))) (en w (j + 2)) (en w (j + 3)) := con_up (con_up con_new)
      rcases q with (((q | ⟨rfl, rfl⟩) | ⟨rfl, rfl⟩) | ⟨rfl, rfl⟩) | ⟨rfl, rfl⟩
      · exact con_up (con_up (con_up (con_up (Con.of q))))
      · exact k1
      · exact con_up (con_up (con_up con_new))
      · exact b2.sy.tr (k1.sy.tr (k2.tr k3))
      · exact b1.sy.tr k2
    · have b1 := con_up (a := en w (j + 1)) (b := en w (j + 2)) (con_up (a := en w j) (b := en w (j + 3)) (con_up (a := en v (i + 2)) (b := en v (i + 3)) (con_up (a := en v i) (b := en v (i + 1)) a01)))
      have b2 := con_up (a := en w (j + 1)) (b := en w (j + 2)) (con_up (a := en w j) (b := en w (j + 3)) (con_up (a := en v (i + 2)) (b := en v (i + 3)) (con_up (a := en v i) (b := en v (i + 1)) a10)))
      have k1 : Con (addE (addE (addE (addE B (en v i) (en v (i + 1))) (en v (i + 2)) (en v (i + 3))) (en w j) (en w (j + 3))) (en w (j + 1)) (en w (j + 2))) (en v i) (en v (i + 1)) := con_up (con_up (con_up con_new))
      have k3 : Con (addE (addE (addE (addE B (en v i) (en v (i + 1))) (en v (i + 2)) (en v (i + 3))) (en w j) (en w (j + 3))) (en w (j + 1)) (en w (j + 2))) (en w j) (en w (j + 3)) := con_up con_new
      have k4 : Con (addE (addE (addE (addE B (en v i) (en v (i + 1))) (en v (i + 2)) (en v (i + 3))) (en w j) (en w (j + 3))) (en w (j + 1)) (en w (j + 2))) (en w (j + 1)) (en w (j + 2)) := con_new
      have x2 := b1.tr k4
      rcases q with (((q | ⟨rfl, rfl⟩) | ⟨rfl, rfl⟩) | ⟨rfl, rfl⟩) | ⟨rfl, rfl⟩
      · exact con_up (con_up (con_up (con_up (Con.of q))))
      · exact con_up (con_up con_new)
      · exact x2.sy.tr (k1.tr (b2.tr k3))
      · exact k1
      · exact x2
  have eR : cc (Vlt (4 * c)) (addE (addE (addE (addE B (en v i) (en v (i + 3))) (en v (i + 1)) (en v (i + 2))) (en w j) (en w (j + 1))) (en w (j + 2)) (en w (j + 3))) (4 * c) = cc (Vlt (4 * c)) (addE (addE (addE (addE B (en v (i + 2)) (en v (i + 3))) (en w (j + 2)) (en w (j + 3))) (en v i) (en v (i + 1))) (en v i) (en v (i + 3))) (4 * c) := by
    refine cc_pairs (fun x y q => ?_) (fun x y q => ?_)
    · have b1 := con_up (a := en v i) (b := en v (i + 3)) (con_up (a := en v i) (b := en v (i + 1)) (con_up (a := en w (j + 2)) (b := en w (j + 3)) (con_up (a := en v (i + 2)) (b := en v (i + 3)) a01)))
      have b2 := con_up (a := en v i) (b := en v (i + 3)) (con_up (a := en v i) (b := en v (i + 1)) (con_up (a := en w (j + 2)) (b := en w (j + 3)) (con_up (a := en v (i + 2)) (b := en v (i + 3)) a10)))
      have k1 : Con (addE (addE (addE (addE B (en v (i + 2)) (en v (i + 3))) (en w (j + 2)) (en w (j + 3))) (en v i) (en v (i + 1))) (en v i) (en v (i + 3))) (en v i) (en v (i + 1)) := con_up con_new
      have k2 : Con (addE (addE (addE (addE B (en v (i + 2)) (en v (i + 3))) (en w (j + 2)) (en w (j + 3))) (en v i) (en v (i + 1))) (en v i) (en v (i + 3))) (en v i) (en v (i + 3)) := con_new
      have k3 : Con (addE (addE (addE (addE B (en v (i + 2)) (en v (i + 3))) (en w (j + 2)) (en w (j + 3))) (en v i) (en v (i + 1))) (en v i) (en v (i + 3))) (en v (i + 2)) (en v (i + 3)) := con_up (con_up (con_up con_new))
      rcases q with (((q | ⟨rfl, rfl⟩) | ⟨rfl, rfl⟩) | ⟨rfl, rfl⟩) | ⟨rfl, rfl⟩
      · exact con_up (con_up (con_up (con_up (Con.of q))))
      · exact k2
      · exact k1.sy.tr (k2.tr k3.sy)
      · exact b2.sy.tr (k1.sy.tr b1)
      · exact con_up (con_up con_new)
    · have b1 := con_up (a := en w (j + 2)) (b := en w (j + 3)) (con_up (a := en w j) (b := en w (j + 1)) (con_up (a := en v (i + 1)) (b := en v (i + 2)) (con_up (a := en v i) (b := en v (i + 3)) a01)))
      have b2 := con_up (a := en w (j + 2)) (b := en w (j + 3)) (con_up (a := en w j) (b := en w (j + 1)) (con_up (a := en v (i + 1)) (b := en v (i + 2)) (con_up (a := en v i) (b := en v (i + 3)) a10)))
      have k1 : Con (addE (addE (addE (addE B (en v i) (en v (i + 3))) (en v (i + 1)) (en v (i + 2))) (en w j) (en w (j + 1))) (en w (j + 2)) (en w (j + 3))) (en v i) (en v (i + 3)) := con_up (con_up (con_up con_new))
      have k2 : Con (addE (addE (addE (addE B (en v i) (en v (i + 3))) (en v (i + 1)) (en v (i + 2))) (en w j) (en w (j + 1))) (en w (j + 2)) (en w (j + 3))) (en v (i + 1)) (en v (i + 2)) := con_up (con_up con_new)
      have k3 : Con (addE (addE (addE (addE B (en v i) (en v (i + 3))) (en v (i + 1)) (en v (i + 2))) (en w j) (en w (j + 1))) (en w (j + 2)) (en w (j + 3))) (en w j) (en w (j + 1)) := con_up con_new
      have x01 := b1.tr (k3.sy.tr b2.sy)
      rcases q with (((q | ⟨rfl, rfl⟩) | ⟨rfl, rfl⟩) | ⟨rfl, rfl⟩) | ⟨rfl, rfl⟩
      · exact con_up (con_up (con_up (con_up (Con.of q))))
      · exact k2.sy.tr (x01.sy.tr k1)
      · exact con_new
      · exact x01
      · exact k1
  rw [eP, eQ, eR]
  omega
