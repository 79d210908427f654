/-! ===== load: the text that is said, and what is read of it ===== -/
theorem L_say {a : Nat} (ha : a < 160) {v : Int32} (h0 : ¬ v < 0) (h1 : v ≤ 255) (tc : Nat → Int32) : kL_say (nI a) v (nI a) tc = some (nI (a + 1), nI (a + 1), upd tc a v) := by
  unfold kL_say kX9_append kX8_add
  rw [if_neg (nI_pos (by omega)), if_neg h0, if_pos h1, if_pos (show nI a < 160 from nI_lt (b := 160) ha (by omega)), if_neg (nI_pos (by omega)), if_neg (show ¬ 160 ≤ nI a from nI_ge (b := 160) ha (by omega)), ck_nI ha (by omega), bnd2_e, bnd3_e, nI_clamp (by omega), nI_1, if_pos rfl]
def posG (g : Nat → Nat) : Nat → Nat
  | 0 => 0
  | k + 1 => posG g k + (if 9 < g k then 3 else 2) + (if k % 4 = 3 then 1 else 0)
def nd2 (g : Nat → Nat) (k : Nat) : Nat := if 9 < g k then 2 else 1
theorem posG_s (g : Nat → Nat) (k : Nat) : posG g (k + 1) = posG g k + 1 + nd2 g k + (if k % 4 = 3 then 1 else 0) := by
  unfold nd2
  show posG g k + (if 9 < g k then 3 else 2) + (if k % 4 = 3 then 1 else 0) = _
  by_cases q : 9 < g k
  · rw [if_pos q, if_pos q]
  · rw [if_neg q, if_neg q]
theorem posG_lt (g : Nat → Nat) (k : Nat) : posG g k + 2 ≤ posG g (k + 1) ∧ posG g (k + 1) ≤ posG g k + 4 := by
  rw [posG_s]
  unfold nd2
  by_cases q : 9 < g k <;> by_cases r : k % 4 = 3
  · rw [if_pos q, if_pos r]; omega
  · rw [if_pos q, if_neg r]; omega
  · rw [if_neg q, if_pos r]; omega
  · rw [if_neg q, if_neg r]; omega
theorem posG_mono (g : Nat → Nat) {j k : Nat} (h : j ≤ k) : posG g j ≤ posG g k := by
  induction k with
  | zero => rw [show j = 0 by omega]; exact Nat.le_refl _
  | succ k ih =>
    by_cases q : j = k + 1
    · rw [q]; exact Nat.le_refl _
    · have := ih (by omega)
      have := (posG_lt g k).1
      omega
theorem posG_le (g : Nat → Nat) : ∀ k, posG g k ≤ 4 * k ∧ 2 * k ≤ posG g k
  | 0 => ⟨Nat.le_refl _, Nat.le_refl _⟩
  | k + 1 => by
    have := posG_le g k
    have := posG_lt g k
    omega
/-- the item k stands in the text -/
def ItT (ts : Nat → Int32) (g : Nat → Nat) (k : Nat) : Prop := ts (posG g k) = (if k % 4 = 0 then 120 else 32) ∧ (9 < g k → ts (posG g k + 1) = 49) ∧ ts (posG g k + nd2 g k) = nI (48 + g k % 10) ∧ (k % 4 = 3 → ts (posG g k + 1 + nd2 g k) = 59)
theorem ItT.cong {ts ts' : Nat → Int32} {g : Nat → Nat} {k : Nat} (h : ItT ts g k) (e : ∀ i, i < posG g (k + 1) → ts' i = ts i) : ItT ts' g k := by
  have p := posG_s g k
  have hn : nd2 g k = 1 ∨ nd2 g k = 2 := by
    unfold nd2
    by_cases q : 9 < g k
    · rw [if_pos q]; exact Or.inr rfl
    · rw [if_neg q]; exact Or.inl rfl
  obtain ⟨h1, h2, h3, h4⟩ := h
  have p2 : posG g k + 1 + nd2 g k ≤ posG g (k + 1) := by omega
  refine ⟨by rw [e _ (by omega)]; exact h1, fun q => by rw [e _ (by omega)]; exact h2 q, by rw [e _ (by omega)]; exact h3, fun q => ?_⟩
  rw [if_pos q] at p
  rw [e _ (by omega)]
  exact h4 q
/-- a way of dealing the arcs -/
def GG (n : Nat) (g : Nat → Nat) : Prop := ∀ e, e < 4 * n → (1 ≤ g e ∧ g e ≤ 2 * n) ∧ ∃ t, t < 4 * n ∧ t ≠ e ∧ g t = g e ∧ ∀ x, x < 4 * n → g x = g e → x = e ∨ x = t
theorem GG.start (n : Nat) : GG n (fun k => k / 2 + 1) := fun e he => by
  refine ⟨by show 1 ≤ e / 2 + 1 ∧ e / 2 + 1 ≤ 2 * n; omega, ?_⟩
  by_cases q : e % 2 = 0
  · exact ⟨e + 1, by omega, by omega, by show (e + 1) / 2 + 1 = e / 2 + 1; omega, fun x hx h => by have h' : x / 2 + 1 = e / 2 + 1 := h; omega⟩
  · exact ⟨e - 1, by omega, by omega, by show (e - 1) / 2 + 1 = e / 2 + 1; omega, fun x hx h => by have h' : x / 2 + 1 = e / 2 + 1 := h; omega⟩
theorem GG.swap {n : Nat} {g : Nat → Nat} (h : GG n g) {i j : Nat} (hi : i < 4 * n) (hj : j < 4 * n) : GG n (fun x => g (sw i j x)) := fun e he => by
  obtain ⟨h1, t, h2, h3, h4, h5⟩ := h (sw i j e) (sw_lt hi hj he)
  refine ⟨h1, sw i j t, sw_lt hi hj h2, fun z => h3 ?_, ?_, fun x hx hg => ?_⟩
  · rw [← z, sw_sw]
  · show g (sw i j (sw i j t)) = _
    rw [sw_sw]; exact h4
  · rcases h5 (sw i j x) (sw_lt hi hj hx) hg with r | r
    · left; rw [← sw_sw i j x, r, sw_sw]
    · right; rw [← r, sw_sw]
def fk (k : Nat) (g : Nat → Nat) (e : Nat) : Nat := if e < k then g e else 0
theorem fk_VS {n o : Nat} {g : Nat → Nat} (h : GG n g) (hn : n ≤ 5) (ho : o ≤ 1) : VS (n, o, fk (4 * n) g) := by
  have up : ∀ e, e < 4 * n → fk (4 * n) g e = g e := fun e he => if_pos he
  refine ⟨by show n ≤ 8; omega, by show o ≤ 4; omega, fun e he => if_neg (by omega), fun e he => ?_, fun e he => ?_⟩
  · have := (h e he).1
    show 1 ≤ fk (4 * n) g e ∧ fk (4 * n) g e ≤ 16
    rw [up e he]; omega
  · obtain ⟨_, t, h2, h3, h4, h5⟩ := h e he
    refine ⟨t, h2, h3, by show fk (4 * n) g t = fk (4 * n) g e; rw [up t h2, up e he]; exact h4, fun x hx hg => ?_⟩
    have hg' : fk (4 * n) g x = fk (4 * n) g e := hg
    rw [up x hx, up e he] at hg'
    exact h5 x hx hg'
theorem fk_s (k : Nat) (g : Nat → Nat) (e : Nat) : fk (k + 1) g e = if e = k then g k else fk k g e := by
  unfold fk
  by_cases q : e = k
  · subst q; rw [if_pos (by omega), if_pos rfl]
  · rw [if_neg q]
    by_cases r : e < k
    · rw [if_pos r, if_pos (by omega)]
    · rw [if_neg r, if_neg (by omega)]
theorem fk_rp {k n : Nat} {g : Nat → Nat} (h : GG n g) (hn : n ≤ 5) (hk : k < 4 * n) {a : Nat → Int32} (hA : Rp a (fk k g)) : Rp (upd a k (nI (g k))) (fk (k + 1) g) := by
  have gb := (h k hk).1
  refine ⟨fun e he => ?_, fun e => ?_, fun e he => ?_⟩
  · rw [fk_s]
    by_cases q : e = k
    · subst q; rw [pk_us, if_pos rfl]
    · rw [pk_un q, if_neg q]; exact hA.1 e he
  · rw [fk_s]
    by_cases q : e = k
    · rw [if_pos q]; omega
    · rw [if_neg q]; exact hA.2.1 e
  · rw [fk_s, if_neg (by omega)]; exact hA.2.2 e he
/-- fewer than two of them are set already -/
theorem fk_few {k n C : Nat} {g : Nat → Nat} (h : GG n g) (hn : n ≤ 5) (hk : k < 4 * n) (hC : C ≤ n) : fb_ct (fun e => fk k g e == g k) (4 * C) < 2 := by
  have hV := fk_VS (o := 0) h hn (by omega)
  have e2 := two_same hV (e := k) hk
  have ek : fk (4 * n) g k = g k := if_pos hk
  rw [cc_one_out (q := fun e => fk (4 * n) g e == fk (4 * n) g k && !(e == k)) hk (by simp) (fun x _ => by simp)] at e2
  have s1 : fb_ct (fun e => fk k g e == g k) (4 * C) ≤ fb_ct (fun e => fk (4 * n) g e == fk (4 * n) g k && !(e == k)) (4 * C) := fb_ct_sub (fun e he hp => by
    have hp' : fk k g e = g k := by simpa using hp
    have l : e < k := by
      by_cases q : e < k
      · exact q
      · exfalso
        unfold fk at hp'
        rw [if_neg q] at hp'
        have := (h k hk).1
        omega
    have e3 : fk (4 * n) g e = fk k g e := by unfold fk; rw [if_pos l, if_pos (by omega)]
    have e4 : e ≠ k := by omega
    simp [e3, hp', ek, e4])
  have s2 := fb_ct_mono (fun e => fk (4 * n) g e == fk (4 * n) g k && !(e == k)) (show 4 * C ≤ 4 * n by omega)
  have e2' : fb_ct (fun e => fk (4 * n) g e == fk (4 * n) g k && !(e == k)) (4 * n) + 1 = 2 := e2
  omega
