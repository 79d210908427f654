/-! ===== ends that are matched by their arcs ===== -/
def Mt (S : Nat → Prop) (f : Nat → Nat) : Prop := ∀ e, S e → ∃ t, S t ∧ t ≠ e ∧ f t = f e ∧ ∀ x, S x → f x = f e → x = e ∨ x = t
theorem Vd.mt {c o : Nat} {f : Nat → Nat} (h : Vd c o f) : Mt (fun e => e < 4 * c) f := fun e he => by
  obtain ⟨t, h1, h2, h3, h4⟩ := h.2.2.2.2 e he
  exact ⟨t, h1, h2, h3, h4⟩
theorem Mt.congr {S T : Nat → Prop} {f : Nat → Nat} (h : Mt S f) (e : ∀ x, S x ↔ T x) : Mt T f := fun x hx => by
  obtain ⟨t, h1, h2, h3, h4⟩ := h x ((e x).mpr hx)
  exact ⟨t, (e t).mp h1, h2, h3, fun y hy g => h4 y ((e y).mpr hy) g⟩
theorem Mt.del {S : Nat → Prop} {f : Nat → Nat} (h : Mt S f) {p q : Nat} (hp : S p) (hq : S q) (hpq : p ≠ q) (e : f p = f q) : Mt (fun x => S x ∧ x ≠ p ∧ x ≠ q) f := fun x hx => by
  obtain ⟨hx0, hxp, hxq⟩ := hx
  obtain ⟨t, h1, h2, h3, h4⟩ := h x hx0
  have tp : t ≠ p := fun z => by
    subst z
    rcases h4 q hq (e.symm.trans h3) with r | r
    · exact hxq r.symm
    · exact hpq r.symm
  have tq : t ≠ q := fun z => by
    subst z
    rcases h4 p hp (e.trans h3) with r | r
    · exact hxp r.symm
    · exact hpq r
  exact ⟨t, ⟨h1, tp, tq⟩, h2, h3, fun y hy g => h4 y hy.1 g⟩
theorem Mt.join {S : Nat → Prop} {f : Nat → Nat} (h : Mt S f) {p q : Nat} (hp : S p) (hq : S q) (hpq : f p ≠ f q) : Mt (fun x => S x ∧ x ≠ p ∧ x ≠ q) (rel f (min (f p) (f q)) (max (f p) (f q))) := by
  have lo : ∀ x, (f x = f p ∨ f x = f q) → rel f (min (f p) (f q)) (max (f p) (f q)) x = min (f p) (f q) := fun x hx => by
    unfold rel
    by_cases z : f x = max (f p) (f q)
    · rw [if_pos z]
    · rw [if_neg z]; omega
  have ot : ∀ x, f x ≠ f p → f x ≠ f q → rel f (min (f p) (f q)) (max (f p) (f q)) x = f x := fun x h1 h2 => by
    unfold rel
    rw [if_neg (by omega)]
  have back : ∀ x v, v ≠ f p → v ≠ f q → rel f (min (f p) (f q)) (max (f p) (f q)) x = v → f x = v := fun x v h1 h2 h3 => by
    by_cases z : f x = f p ∨ f x = f q
    · rw [lo x z] at h3; omega
    · rw [ot x (fun w => z (Or.inl w)) (fun w => z (Or.inr w))] at h3; exact h3
  have backlo : ∀ x, rel f (min (f p) (f q)) (max (f p) (f q)) x = min (f p) (f q) → f x = f p ∨ f x = f q := fun x h3 => by
    by_cases z : f x = f p ∨ f x = f q
    · exact z
    · rw [ot x (fun w => z (Or.inl w)) (fun w => z (Or.inr w))] at h3
      omega
  have key : ∀ p q, S p → S q → f p ≠ f q → (∀ x, (f x = f p ∨ f x = f q) → rel f (min (f p) (f q)) (max (f p) (f q)) x = min (f p) (f q)) → ∀ x, S x → x ≠ p → x ≠ q → f x = f p → ∃ t, (S t ∧ t ≠ p ∧ t ≠ q) ∧ t ≠ x ∧ f t = f q ∧ ∀ y, S y → y ≠ p → y ≠ q → (f y = f p ∨ f y = f q) → y = x ∨ y = t := by
    intro p q hp hq hpq _ x hx0 hxp hxq hfx
    obtain ⟨t1, a1, a2, a3, a4⟩ := h x hx0
    have et : p = t1 := (a4 p hp hfx.symm).resolve_left (fun z => hxp z.symm)
    obtain ⟨t, b1, b2, b3, b4⟩ := h q hq
    refine ⟨t, ⟨b1, fun z => ?_, b2⟩, fun z => ?_, b3, fun y hy hyp hyq hf => ?_⟩
    · rw [z] at b3; exact hpq b3
    · rw [z, hfx] at b3; exact hpq b3
    · rcases hf with hf | hf
      · rcases a4 y hy (hf.trans hfx.symm) with r | r
        · exact Or.inl r
        · exact absurd (r.trans et.symm) hyp
      · rcases b4 y hy hf with r | r
        · exact absurd r hyq
        · exact Or.inr r
  intro x hx
  obtain ⟨hx0, hxp, hxq⟩ := hx
  by_cases z1 : f x = f p
  · obtain ⟨t, h1, h2, h3, h4⟩ := key p q hp hq hpq lo x hx0 hxp hxq z1
    refine ⟨t, h1, h2, by rw [lo t (Or.inr h3), lo x (Or.inl z1)], fun y hy g => h4 y hy.1 hy.2.1 hy.2.2 (backlo y (by rw [g, lo x (Or.inl z1)]))⟩
  · by_cases z2 : f x = f q
    · obtain ⟨t, h1, h2, h3, h4⟩ := key q p hq hp (fun w => hpq w.symm) (fun y hy => by rw [Nat.min_comm, Nat.max_comm]; exact lo y hy.symm) x hx0 hxq hxp z2
      refine ⟨t, ⟨h1.1, h1.2.2, h1.2.1⟩, h2, by rw [lo t (Or.inl h3), lo x (Or.inr z2)], fun y hy g => h4 y hy.1 hy.2.2 hy.2.1 (backlo y (by rw [g, lo x (Or.inr z2)])).symm⟩
    · obtain ⟨t, h1, h2, h3, h4⟩ := h x hx0
      have tp : t ≠ p := fun w => z1 (by rw [← h3, w])
      have tq : t ≠ q := fun w => z2 (by rw [← h3, w])
      refine ⟨t, ⟨h1, tp, tq⟩, h2, by rw [ot t (by rw [h3]; exact z1) (by rw [h3]; exact z2), ot x z1 z2, h3], fun y hy g => h4 y hy.1 (back y (f x) z1 z2 (by rw [g, ot x z1 z2]))⟩
theorem Mt.drop {P : Nat → Prop} {f : Nat → Nat} {c v : Nat} (hv : v < c) (hP : ¬ P v) (h : Mt (fun e => e < 4 * c ∧ P (e / 4)) f) : Mt (fun e => e < 4 * (c - 1) ∧ P (if e / 4 < v then e / 4 else e / 4 + 1)) (drp f v) := by
  -- up and down
  have up : ∀ x, x < 4 * (c - 1) → P (if x / 4 < v then x / 4 else x / 4 + 1) → ((if x < 4 * v then x else x + 4) < 4 * c ∧ P ((if x < 4 * v then x else x + 4) / 4)) ∧ drp f v x = f (if x < 4 * v then x else x + 4) := fun x hx hp => by
    unfold drp
    by_cases q : x < 4 * v
    · rw [if_pos (show x / 4 < v by omega)] at hp
      rw [if_pos q, if_pos q]
      exact ⟨⟨by omega, hp⟩, rfl⟩
    · rw [if_neg (show ¬ x / 4 < v by omega)] at hp
      rw [if_neg q, if_neg q]
      exact ⟨⟨by omega, by rw [show (x + 4) / 4 = x / 4 + 1 by omega]; exact hp⟩, rfl⟩
  have down : ∀ t, t < 4 * c → P (t / 4) → ∃ y, y < 4 * (c - 1) ∧ P (if y / 4 < v then y / 4 else y / 4 + 1) ∧ (if y < 4 * v then y else y + 4) = t := fun t ht hp => by
    have hne : t / 4 ≠ v := fun z => hP (z ▸ hp)
    by_cases q : t < 4 * v
    · exact ⟨t, by omega, by rw [if_pos (show t / 4 < v by omega)]; exact hp, if_pos q⟩
    · refine ⟨t - 4, by omega, ?_, ?_⟩
      · rw [if_neg (show ¬ (t - 4) / 4 < v by omega), show (t - 4) / 4 + 1 = t / 4 by omega]
        exact hp
      · rw [if_neg (by omega)]; omega
  intro x hx
  obtain ⟨hx1, hx2⟩ := hx
  obtain ⟨u1, u2⟩ := up x hx1 hx2
  obtain ⟨t, h1, h2, h3, h4⟩ := h _ u1
  obtain ⟨y, y1, y2, y3⟩ := down t h1.1 h1.2
  obtain ⟨w1, w2⟩ := up y y1 y2
  refine ⟨y, ⟨y1, y2⟩, fun z => h2 (by rw [← y3, z]), by rw [w2, y3, u2, h3], fun z hz g => ?_⟩
  obtain ⟨v1, v2⟩ := up z hz.1 hz.2
  rcases h4 _ v1 (by rw [← v2, g, u2]) with r | r
  · left
    by_cases a1 : z < 4 * v <;> by_cases a2 : x < 4 * v
    · rw [if_pos a1, if_pos a2] at r; exact r
    · rw [if_pos a1, if_neg a2] at r; omega
    · rw [if_neg a1, if_pos a2] at r; omega
    · rw [if_neg a1, if_neg a2] at r; omega
  · right
    rw [← y3] at r
    by_cases a1 : z < 4 * v <;> by_cases a2 : y < 4 * v
    · rw [if_pos a1, if_pos a2] at r; exact r
    · rw [if_pos a1, if_neg a2] at r; omega
    · rw [if_neg a1, if_pos a2] at r; omega
    · rw [if_neg a1, if_neg a2] at r; omega
theorem drp_bd {f : Nat → Nat} {c v : Nat} (hv : v < c) (h0 : ∀ e, 4 * c ≤ e → f e = 0) (h1 : ∀ e, e < 4 * c → 1 ≤ f e ∧ f e ≤ 16) : (∀ e, 4 * (c - 1) ≤ e → drp f v e = 0) ∧ ∀ e, e < 4 * (c - 1) → 1 ≤ drp f v e ∧ drp f v e ≤ 16 := by
  refine ⟨fun e he => ?_, fun e he => ?_⟩
  · unfold drp
    rw [if_neg (by omega)]
    exact h0 _ (by omega)
  · unfold drp
    by_cases q : e < 4 * v
    · rw [if_pos q]; exact h1 _ (by omega)
    · rw [if_neg q]; exact h1 _ (by omega)
theorem rel_bd {f : Nat → Nat} {c lo hi : Nat} (hl : 1 ≤ lo ∧ lo ≤ 16) (hh : 1 ≤ hi) (h0 : ∀ e, 4 * c ≤ e → f e = 0) (h1 : ∀ e, e < 4 * c → 1 ≤ f e ∧ f e ≤ 16) : (∀ e, 4 * c ≤ e → rel f lo hi e = 0) ∧ ∀ e, e < 4 * c → 1 ≤ rel f lo hi e ∧ rel f lo hi e ≤ 16 := by
  refine ⟨fun e he => ?_, fun e he => ?_⟩
  · have := h0 e he
    unfold rel
    rw [if_neg (by omega)]
    exact this
  · unfold rel
    by_cases q : f e = hi
    · rw [if_pos q]; exact hl
    · rw [if_neg q]; exact h1 e he
/-- the arcs and circles after the arcs at p and q are joined -/
def jnF (f : Nat → Nat) (p q : Nat) : Nat → Nat := if f p = f q then f else rel f (min (f p) (f q)) (max (f p) (f q))
def jnO (f : Nat → Nat) (p q : Nat) : Nat := if f p = f q then 1 else 0
theorem jn_mt {S : Nat → Prop} {f : Nat → Nat} (h : Mt S f) {p q : Nat} (hp : S p) (hq : S q) (hpq : p ≠ q) : Mt (fun x => S x ∧ x ≠ p ∧ x ≠ q) (jnF f p q) := by
  unfold jnF
  by_cases z : f p = f q
  · rw [if_pos z]; exact h.del hp hq hpq z
  · rw [if_neg z]; exact h.join hp hq z
theorem jn_bd {f : Nat → Nat} {c p q : Nat} (hp : p < 4 * c) (hq : q < 4 * c) (h0 : ∀ e, 4 * c ≤ e → f e = 0) (h1 : ∀ e, e < 4 * c → 1 ≤ f e ∧ f e ≤ 16) : (∀ e, 4 * c ≤ e → jnF f p q e = 0) ∧ ∀ e, e < 4 * c → 1 ≤ jnF f p q e ∧ jnF f p q e ≤ 16 := by
  have a := h1 p hp
  have b := h1 q hq
  unfold jnF
  by_cases z : f p = f q
  · rw [if_pos z]; exact ⟨h0, h1⟩
  · rw [if_neg z]; exact rel_bd (by omega) (by omega) h0 h1
theorem q_joinJ {a : Nat → Int32} {f : Nat → Nat} (h : Rp a f) {c p q o : Nat} (hc : c ≤ 8) (h0 : ∀ e, 4 * c ≤ e → f e = 0) (hp : p < 32) (hq : q < 32) : ∃ a', kX2_join (nI p) (nI q) (nI c) (nI o) a = some (nI (o + jnO f p q), a') ∧ Rp a' (jnF f p q) := by
  unfold jnF jnO
  by_cases z : f p = f q
  · rw [if_pos z, if_pos z]
    exact ⟨a, by rw [q_joinSame h (by omega) (by omega) z, nI_1], h⟩
  · rw [if_neg z, if_neg z]
    exact q_join h hc h0 (by omega) (by omega) z
