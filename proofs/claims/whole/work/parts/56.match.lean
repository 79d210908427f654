/-! ===== ends that are matched by their arcs ===== -/
def Mt (S : Nat → Prop) (f : Nat → Nat) : Prop := ∀ e, S e → ∃ t, S t ∧ t ≠ e ∧ f t = f e ∧ ∀ x, S x → f x = f e → x = e ∨ x = t
theorem Vd.mt {c o : Nat} {f : Nat → Nat} (h : Vd c o f) : Mt (fun e => e < 4 * c) f := fun e he => by
  obtain ⟨t, h1, h2, h3, h4⟩ := h.2.2.2.2 e he
  exact ⟨t, h1, h2, h3, h4⟩
theorem Mt.congr {S T : Nat → Prop} {f : Nat → Nat} (h : Mt S f) (e : ∀ x, S x ↔ T x) : Mt T f := fun x hx => by
  obtain ⟨t, h1, h2, h3, h4⟩ := h x ((e x).mpr hx)
  exact ⟨t, (e t).mp h1, h2, h3, fun y hy g => h4 y ((e y).mpr hy) g⟩
theorem Mt.del {S : Nat → Prop} {f : Nat → Nat} (h : Mt S f) {p q : Nat} (hp : S p) (hq : S q) (hpq : p ≠ q) (e : f p = f q) : Mt (fun x => S x ∧ x ≠ p ∧ x ≠ q) f := fun x hx => by
  obtain ⟨hx0, hxp, hxq⟩ := hx
  obtain ⟨t, h1, h2, h3, h4⟩ := h x hx0
  have tp : t ≠ p := fun z => by
    subst z
    rcases h4 q hq (e.symm.trans h3) with r | r
    · exact hxq r.symm
    · exact hpq r.symm
  have tq : t ≠ q := fun z => by
    subst z
    rcases h4 p hp (e.trans h3) with r | r
    · exact hxp r.symm
    · exact hpq r
  exact ⟨t, ⟨h1, tp, tq⟩, h2, h3, fun y hy g => h4 y hy.1 g⟩
theorem Mt.join {S : Nat → Prop} {f : Nat → Nat} (h : Mt S f) {p q : Nat} (hp : S p) (hq : S q) (hpq : f p ≠ f q) : Mt (fun x => S x ∧ x ≠ p ∧ x ≠ q) (rel f (min (f p) (f q)) (max (f p) (f q))) := by
  have lo : ∀ x, (f x = f p ∨ f x = f q) → rel f (min (f p) (f q)) (max (f p) (f q)) x = min (f p) (f q) := fun x hx => by
    unfold rel
    by_cases z : f x = max (f p) (f q)
    · rw [if_pos z]
    · rw [if_neg z]; omega
  have ot : ∀ x, f x ≠ f p → f x ≠ f q → rel f (min (f p) (f q)) (max (f p) (f q)) x = f x := fun x h1 h2 => by
    unfold rel
    rw [if_neg (by omega)]
  have back : ∀ x v, v ≠ f p → v ≠ f q → rel f (min (f p) (f q)) (max (f p) (f q)) x = v → f x = v := fun x v h1 h2 h3 => by
    by_cases z : f x = f p ∨ f x = f q
    · rw [lo x z] at h3; omega
    · rw [ot x (fun w => z (Or.inl w)) (fun w => z (Or.inr w))] at h3; exact h3
  have backlo : ∀ x, rel f (min (f p) (f q)) (max (f p) (f q)) x = min (f p) (f q) → f x = f p ∨ f x = f q := fun x h3 => by
    by_cases z : f x = f p ∨ f x = f q
    · exact z
    · rw [ot x (fun w => z (Or.inl w)) (fun w => z (Or.inr w))] at h3
      omega
  have key : ∀ p q, S p → S q → f p ≠ f q → (∀ x, (f x = f p ∨ f x = f q) → rel f (min (f p) (f q)) (max (f p) (f q)) x = min (f p) (f q)) → ∀ x, S x → x ≠ p → x ≠ q → f x = f p → ∃ t, (S t ∧ t ≠ p ∧ t ≠ q) ∧ t ≠ x ∧ f t = f q ∧ ∀ y, S y → y ≠ p → y ≠ q → (f y = f p ∨ f y = f q) → y = x ∨ y = t := by
    intro p q hp hq hpq _ x hx0 hxp hxq hfx
    obtain ⟨t1, a1, a2, a3, a4⟩ := h x hx0
    have et : p = t1 := (a4 p hp hfx.symm).resolve_left (fun z => hxp z.symm)
    obtain ⟨t, b1, b2, b3, b4⟩ := h q hq
    refine ⟨t, ⟨b1, fun z => ?_, b2⟩, fun z => ?_, b3, fun y hy hyp hyq hf => ?_⟩
    · rw [z] at b3; exact hpq b3
    · rw [z, hfx] at b3; exact hpq b3
    · rcases hf with hf | hf
      · rcases a4 y hy (hf.trans hfx.symm) with r | r
        · exact Or.inl r
        · exact absurd (r.trans et.symm) hyp
      · rcases b4 y hy hf with r | r
        · exact absurd r hyq
        · exact Or.inr r
  intro x hx
  obtain ⟨hx0, hxp, hxq⟩ := hx
  by_cases z1 : f x = f p
  · obtain ⟨t, h1, h2, h3, h4⟩ := key p q hp hq hpq lo x hx0 hxp hxq z1
    refine ⟨t, h1, h2, by rw [lo t (Or.inr h3), lo x (Or.inl z1)], fun y hy g => h4 y hy.1 hy.2.1 hy.2.2 (backlo y (by rw [g, lo x (Or.inl z1)]))⟩
  · by_cases z2 : f x = f q
    · obtain ⟨t, h1, h2, h3, h4⟩ := key q p hq hp (fun w => hpq w.symm) (fun y hy => by rw [Nat.min_comm, Nat.max_comm]; exact lo y hy.symm) x hx0 hxq hxp z2
      refine ⟨t, ⟨h1.1, h1.2.2, h1.2.1⟩, h2, by rw [lo t (Or.inl h3), lo x (Or.inr z2)], fun y hy g => h4 y hy.1 hy.2.2 hy.2.1 (backlo y (by rw [g, lo x (Or.inr z2)])).symm⟩
    · obtain ⟨t, h1, h2, h3, h4⟩ := h x hx0
      have tp : t ≠ p := fun w => z1 (by rw [← h3, w])
      have tq : t ≠ q := fun w => z2 (by rw [← h3, w])
      refine ⟨t, ⟨h1, tp, tq⟩, h2, by rw [ot t (by rw [h3]; exact z1) (by rw [h3]; exact z2), ot x z1 z2, h3], fun y hy g => h4 y hy.1 (back y (f x) z1 z2 (by rw [g, ot x z1 z2]))⟩
theorem Mt.drop {P : Nat → Prop} {f : Nat → Nat} {c v : Nat} (hv : v < c) (hP : ¬ P v) (h : Mt (fun e => e < 4 * c ∧ P (e / 4)) f) : Mt (fun e => e < 4 * (c - 1) ∧ P (if e / 4 < v then e / 4 else e / 4 + 1)) (drp f v) := by
  -- up and down
  have up : ∀ x, x < 4 * (c - 1) → P (if x / 4 < v then x / 4 else x / 4 + 1) → ((if x < 4 * v then x else x + 4) < 4 * c ∧ P ((if x < 4 * v then x else x + 4) / 4)) ∧ drp f v x = f (if x < 4 * v then x else x + 4) := fun x hx hp => by
    unfold drp
    by_cases q : x < 4 * v
    · rw [if_pos (show x / 4 < v by omega)] at hp
      rw [if_pos q, if_pos q]
      exact ⟨⟨by omega, hp⟩, rfl⟩
    · rw [if_neg (show ¬ x / 4 < v by omega)] at hp
      rw [if_neg q, if_neg q]
      exact ⟨⟨by omega, by rw [show (x + 4) / 4 = x / 4 + 1 by omega]; exact hp⟩, rfl⟩
  have down : ∀ t, t < 4 * c → P (t / 4) → ∃ y, y < 4 * (c - 1) ∧ P (if y / 4 < v then y / 4 else y / 4 + 1) ∧ (if y < 4 * v then y else y + 4) = t := fun t ht hp => by
    have hne : t / 4 ≠ v := fun z => hP (z ▸ hp)
    by_cases q : t < 4 * v
    · exact ⟨t, by omega, by rw [if_pos (show t / 4 < v by omega)]; exact hp, if_pos q⟩
    · refine ⟨t - 4, by omega, ?_, ?_⟩
      · rw [if_neg (show ¬ (t - 4) / 4 < v by omega), show (t - 4) / 4 + 1 = t / 4 by omega]
        exact hp
      · rw [if_neg (by omega)]; omega
  intro x hx
  obtain ⟨hx1, hx2⟩ := hx
  obtain ⟨u1, u2⟩ := up x hx1 hx2
  obtain ⟨t, h1, h2, h3, h4⟩ := h _ u1
  obtain ⟨y, y1, y2, y3⟩ := down t h1.1 h1.2
  obtain ⟨w1, w2⟩ := up y y1 y2
  refine ⟨y, ⟨y1, y2⟩, fun z => h2 (by rw [← y3, z]), by rw [w2, y3, u2, h3], fun z hz g => ?_⟩
  obtain ⟨v1, v2⟩ := up z hz.1 hz.2
  rcases h4 _ v1 (by rw [← v2, g, u2]) with r | r
  · left
    by_cases a1 : z < 4 * v <;> by_cases a2 : x < 4 * v
    · rw [if_pos a1, if_pos a2] at r; exact r
    · rw [if_pos a1, if_neg a2] at r; omega
    · rw [if_neg a1, if_pos a2] at r; omega
    · rw [if_neg a1, if_neg a2] at r; omega
  · right
    rw [← y3] at r
    by_cases a1 : z < 4 * v <;> by_cases a2 : y < 4 * v
    · rw [if_pos a1, if_pos a2] at r; exact r
    · rw [if_pos a1, if_neg a2] at r; omega
    · rw [if_neg a1, if_pos a2] at r; omega
    · rw [if_neg a1, if_neg a2] at r; omega
theorem drp_bd {f : Nat → Nat} {c v : Nat} (hv : v < c) (h0 : ∀ e, 4 * c ≤ e → f e = 0) (h1 : ∀ e, e < 4 * c → 1 ≤ f e ∧ f e ≤ 16) : (∀ e, 4 * (c - 1) ≤ e → drp f v e = 0) ∧ ∀ e, e < 4 * (c - 1) → 1 ≤ drp f v e ∧ drp f v e ≤ 16 := by
  refine ⟨fun e he => ?_, fun e he => ?_⟩
  · unfold drp
    rw [if_neg (by omega)]
    exact h0 _ (by omega)
  · unfold drp
    by_cases q : e < 4 * v
    · rw [if_pos q]; exact h1 _ (by omega)
    · rw [if_neg q]; exact h1 _ (by omega)
theorem rel_bd {f : Nat → Nat} {c lo hi : Nat} (hl : 1 ≤ lo ∧ lo ≤ 16) (hh : 1 ≤ hi) (h0 : ∀ e, 4 * c ≤ e → f e = 0) (h1 : ∀ e, e < 4 * c → 1 ≤ f e ∧ f e ≤ 16) : (∀ e, 4 * c ≤ e → rel f lo hi e = 0) ∧ ∀ e, e < 4 * c → 1 ≤ rel f lo hi e ∧ rel f lo hi e ≤ 16 := by
  refine ⟨fun e he => ?_, fun e he => ?_⟩
  · have := h0 e he
    unfold rel
    rw [if_neg (by omega)]
    exact this
  · unfold rel
    by_cases q : f e = hi
    · rw [if_pos q]; exact hl
    · rw [if_neg q]; exact h1 e he
/-- the arcs and circles after the arcs at p and q are joined -/
def jnF (f : Nat → Nat) (p q : Nat) : Nat → Nat := if f p = f q then f else rel f (min (f p) (f q)) (max (f p) (f q))
def jnO (f : Nat → Nat) (p q : Nat) : Nat := if f p = f q then 1 else 0
theorem jn_mt {S : Nat → Prop} {f : Nat → Nat} (h : Mt S f) {p q : Nat} (hp : S p) (hq : S q) (hpq : p ≠ q) : Mt (fun x => S x ∧ x ≠ p ∧ x ≠ q) (jnF f p q) := by
  unfold jnF
  by_cases z : f p = f q
  · rw [if_pos z]; exact h.del hp hq hpq z
  · rw [if_neg z]; exact h.join hp hq z
theorem jn_bd {f : Nat → Nat} {c p q : Nat} (hp : p < 4 * c) (hq : q < 4 * c) (h0 : ∀ e, 4 * c ≤ e → f e = 0) (h1 : ∀ e, e < 4 * c → 1 ≤ f e ∧ f e ≤ 16) : (∀ e, 4 * c ≤ e → jnF f p q e = 0) ∧ ∀ e, e < 4 * c → 1 ≤ jnF f p q e ∧ jnF f p q e ≤ 16 := by
  have a := h1 p hp
  have b := h1 q hq
  unfold jnF
  by_cases z : f p = f q
  · rw [if_pos z]; exact ⟨h0, h1⟩
  · rw [if_neg z]; exact rel_bd (by omega) (by omega) h0 h1
theorem q_joinJ {a : Nat → Int32} {f : Nat → Nat} (h : Rp a f) {c p q o : Nat} (hc : c ≤ 8) (h0 : ∀ e, 4 * c ≤ e → f e = 0) (hp : p < 32) (hq : q < 32) : ∃ a', kX2_join (nI p) (nI q) (nI c) (nI o) a = some (nI (o + jnO f p q), a') ∧ Rp a' (jnF f p q) := by
  unfold jnF jnO
  by_cases z : f p = f q
  · rw [if_pos z, if_pos z]
    exact ⟨a, by rw [q_joinSame h (by omega) (by omega) z, nI_1], h⟩
  · rw [if_neg z, if_neg z]
    exact q_join h hc h0 (by omega) (by omega) z
/-! the reference's rows -/
theorem m_join {row : Nat → Int32} {d : St} (h : BlR row 0 d) (hb : ∀ e, d.2.2 e ≤ 16) {p q : Nat} (hp : p < 32) (hq : q < 32) (hp1 : 1 ≤ d.2.2 p) (hq1 : 1 ≤ d.2.2 q) : ∃ row', kX10_join 34 (nI (d.2.2 p)) (nI (d.2.2 q)) row = some (nI (jnO d.2.2 p q), row') ∧ BlR row' 0 (d.1, d.2.1, jnF d.2.2 p q) := by
  have bp := hb p
  have bq := hb q
  unfold kX10_join jnF jnO
  by_cases z : d.2.2 p = d.2.2 q
  · rw [if_pos (by rw [z]), if_pos z, if_pos z]
    exact ⟨row, rfl, h⟩
  · rw [if_neg (fun w => z ((nI_eq (by omega) (by omega)).mp w)), if_neg z, if_neg z]
    have key : ∃ row', kX10_join_J1 34 (nI (d.2.2 p)) (nI (d.2.2 q)) row (nI (min (d.2.2 p) (d.2.2 q))) = some (nI 0, row') ∧ BlR row' 0 (d.1, d.2.1, rel d.2.2 (min (d.2.2 p) (d.2.2 q)) (max (d.2.2 p) (d.2.2 q))) := by
      obtain ⟨r0, r1, r2⟩ := h
      unfold kX10_join_J1
      refine it2_inv (F := kX10_join_L2 34 (nI (d.2.2 p)) (nI (min (d.2.2 p) (d.2.2 q))) (nI (d.2.2 q))) (x1 := 2) (x2 := row) (n := 400) (fun i x y => x = nI (2 + i) ∧ y 0 = row 0 ∧ y 1 = row 1 ∧ ∀ e, e < 32 → y (2 + e) = nI (if e < i then rel d.2.2 (min (d.2.2 p) (d.2.2 q)) (max (d.2.2 p) (d.2.2 q)) e else d.2.2 e)) (fun r => ∃ row', r = some (nI 0, row') ∧ BlR row' 0 (d.1, d.2.1, rel d.2.2 (min (d.2.2 p) (d.2.2 q)) (max (d.2.2 p) (d.2.2 q)))) 32 (fun K i x y hi hI => ?_) (fun K x y hI => ?_) ⟨rfl, rfl, rfl, fun e he => by rw [if_neg (Nat.not_lt_zero _)]; have := r2 e he; rw [Nat.zero_add] at this; exact this⟩ (by omega)
      · obtain ⟨rfl, y0, y1, hy⟩ := hI
        have bi := hb i
        have yi : y (2 + i) = nI (d.2.2 i) := by rw [hy i hi, if_neg (Nat.lt_irrefl _)]
        have new : ∀ v, v = rel d.2.2 (min (d.2.2 p) (d.2.2 q)) (max (d.2.2 p) (d.2.2 q)) i → (nI (2 + (i + 1)) = nI (2 + (i + 1)) ∧ upd y (2 + i) (nI v) 0 = row 0 ∧ upd y (2 + i) (nI v) 1 = row 1 ∧ ∀ e, e < 32 → upd y (2 + i) (nI v) (2 + e) = nI (if e < i + 1 then rel d.2.2 (min (d.2.2 p) (d.2.2 q)) (max (d.2.2 p) (d.2.2 q)) e else d.2.2 e)) := fun v hv => by
          refine ⟨rfl, by rw [pk_un (by omega)]; exact y0, by rw [pk_un (by omega)]; exact y1, fun e he => ?_⟩
          by_cases w : e = i
          · subst w; rw [pk_us, if_pos (by omega), hv]
          · rw [pk_un (by omega), hy e he]
            by_cases w2 : e < i
            · rw [if_pos w2, if_pos (by omega)]
            · rw [if_neg w2, if_neg (by omega)]
        have n34 : ¬ (34 : Int32) ≤ nI (2 + i) := by rw [fa_lit 34]; exact nI_ge (by omega) (by omega)
        have e5 : (nI (2 + i) + 1 : Int32) = nI (2 + (i + 1)) := nI_1 _
        unfold kX10_join_L2 kX10_join_J3
        rw [if_neg n34, ck_nI (by omega) (by omega), nI_clamp (by omega), yi, ck_nI (by omega) (by omega), ck_nI (by omega) (by omega), ck_nI (by omega) (by omega), e5]
        by_cases c1 : d.2.2 i = d.2.2 p
        · refine ⟨_, _, if_pos (by rw [c1]), new _ ?_⟩
          unfold rel
          by_cases w : d.2.2 i = max (d.2.2 p) (d.2.2 q)
          · rw [if_pos w]
          · rw [if_neg w]; omega
        · rw [if_neg (fun w => c1 ((nI_eq (by omega) (by omega)).mp w))]
          by_cases c2 : d.2.2 i = d.2.2 q
          · refine ⟨_, _, if_pos (by rw [c2]), new _ ?_⟩
            unfold rel
            by_cases w : d.2.2 i = max (d.2.2 p) (d.2.2 q)
            · rw [if_pos w]
            · rw [if_neg w]; omega
          · refine ⟨_, _, (if_neg (fun w => c2 ((nI_eq (by omega) (by omega)).mp w))).trans (ck_nI (by omega) (by omega)), new (d.2.2 i) ?_⟩
            unfold rel
            rw [if_neg (by omega)]
      · obtain ⟨rfl, y0, y1, hy⟩ := hI
        refine ⟨y, ?_, y0.trans r0, y1.trans r1, fun e he => ?_⟩
        · unfold kX10_join_L2
          rw [if_pos (by decide)]
          rfl
        · rw [Nat.zero_add, hy e he, if_pos he]
    by_cases c1 : d.2.2 q ≤ d.2.2 p
    · have hm : min (d.2.2 p) (d.2.2 q) = d.2.2 q := by omega
      rw [if_pos (nI_le c1 (by omega))]
      have k2 := key
      rw [hm] at k2 ⊢
      exact k2
    · have hm : min (d.2.2 p) (d.2.2 q) = d.2.2 p := by omega
      rw [if_neg (nI_ge (by omega) (by omega))]
      have k2 := key
      rw [hm] at k2 ⊢
      exact k2
theorem m_drop {row : Nat → Int32} {d : St} (h : BlR row 0 d) (h32 : ∀ e, 32 ≤ e → d.2.2 e = 0) {v : Nat} (hv : v < 8) (hc : 1 ≤ d.1) : ∃ row', kX10_dropCrossing 34 (nI v) row = some row' ∧ BlR row' 0 (d.1 - 1, d.2.1, drp d.2.2 v) := by
  obtain ⟨r0, r1, r2⟩ := h
  have a0 : (2 + 4 * nI v : Int32) = nI (2 + 4 * v) := by rw [fa_lit 4, pk_mul, fa_lit 2, nI_add]
  unfold kX10_dropCrossing
  rw [a0]
  refine it2_inv (F := kX10_dropCrossing_L1 34) (x1 := nI (2 + 4 * v)) (x2 := row) (n := 400) (fun i x y => x = nI (2 + 4 * v + i) ∧ y 0 = row 0 ∧ y 1 = row 1 ∧ ∀ e, e < 32 → y (2 + e) = nI (if e < 4 * v + i then drp d.2.2 v e else d.2.2 e)) (fun r => ∃ row', r = some row' ∧ BlR row' 0 (d.1 - 1, d.2.1, drp d.2.2 v)) (28 - 4 * v) (fun K i x y hi hI => ?_) (fun K x y hI => ?_) ⟨rfl, rfl, rfl, fun e he => ?_⟩ (by omega)
  · obtain ⟨rfl, y0, y1, hy⟩ := hI
    have e4 : (nI (2 + 4 * v + i) + 4 : Int32) = nI (2 + (4 * v + i + 4)) := by rw [fa_lit 4, nI_add]; congr 1; omega
    have e5 : (nI (2 + 4 * v + i) + 1 : Int32) = nI (2 + 4 * v + (i + 1)) := nI_1 _
    have rd : y (2 + (4 * v + i + 4)) = nI (d.2.2 (4 * v + i + 4)) := by rw [hy _ (by omega), if_neg (by omega)]
    refine ⟨nI (2 + 4 * v + (i + 1)), upd y (2 + 4 * v + i) (nI (d.2.2 (4 * v + i + 4))), ?_, rfl, by rw [pk_un (by omega)]; exact y0, by rw [pk_un (by omega)]; exact y1, fun e he => ?_⟩
    · unfold kX10_dropCrossing_L1
      rw [e4, if_neg (by rw [fa_lit 34]; exact nI_ge (by omega) (by omega)), ck_nI (by omega) (by omega), ck_nI (by omega) (by omega), nI_clamp (by omega), nI_clamp (by omega), rd, e5]
    · by_cases w : e = 4 * v + i
      · subst w
        rw [show 2 + (4 * v + i) = 2 + 4 * v + i by omega, pk_us, if_pos (by omega)]
        unfold drp
        rw [if_neg (by omega)]
      · rw [pk_un (by omega), hy e he]
        by_cases w2 : e < 4 * v + i
        · rw [if_pos w2, if_pos (by omega)]
        · rw [if_neg w2, if_neg (by omega)]
  · obtain ⟨rfl, y0, y1, hy⟩ := hI
    have e0 : 2 + 4 * v + (28 - 4 * v) = 30 := by omega
    have e1 : 4 * v + (28 - 4 * v) = 28 := by omega
    rw [e1] at hy
    have run : kX10_dropCrossing_L1 34 K (nI (2 + 4 * v + (28 - 4 * v))) y = it2 (kX10_dropCrossing_L2 34) 400 30 y := by
      rw [e0]
      unfold kX10_dropCrossing_L1
      rw [if_pos (by decide)]
    rw [run]
    refine it2_inv (F := kX10_dropCrossing_L2 34) (x1 := 30) (x2 := y) (n := 400) (fun i x z => x = nI (30 + i) ∧ z 0 = row 0 ∧ z 1 = row 1 ∧ ∀ e, e < 32 → z (2 + e) = nI (if e < 28 + i then drp d.2.2 v e else d.2.2 e)) (fun r => ∃ row', r = some row' ∧ BlR row' 0 (d.1 - 1, d.2.1, drp d.2.2 v)) 4 (fun K i x z hi hI => ?_) (fun K x z hI => ?_) ⟨rfl, y0, y1, hy⟩ (by omega)
    · obtain ⟨rfl, z0, z1, hz⟩ := hI
      refine ⟨nI (30 + (i + 1)), upd z (30 + i) 0, ?_, rfl, by rw [pk_un (by omega)]; exact z0, by rw [pk_un (by omega)]; exact z1, fun e he => ?_⟩
      · unfold kX10_dropCrossing_L2
        rw [if_neg (by rw [fa_lit 34]; exact nI_ge (by omega) (by omega)), ck_nI (by omega) (by omega), nI_clamp (by omega), nI_1]
        rfl
      · by_cases w : e = 28 + i
        · subst w
          rw [show 2 + (28 + i) = 30 + i by omega, pk_us, if_pos (by omega)]
          unfold drp
          rw [if_neg (by omega), h32 _ (by omega)]
          rfl
        · rw [pk_un (by omega), hz e he]
          by_cases w2 : e < 28 + i
          · rw [if_pos w2, if_pos (by omega)]
          · rw [if_neg w2, if_neg (by omega)]
    · obtain ⟨rfl, z0, z1, hz⟩ := hI
      refine ⟨upd z 0 (z 0 - 1), ?_, ?_, ?_, fun e he => ?_⟩
      · unfold kX10_dropCrossing_L2
        rw [if_pos (by decide), ck_i (x := 0) (i := 0) rfl (by omega) (by omega), ck_i (x := 0) (i := 0) rfl (by omega) (by omega), cl0]
      · rw [pk_us, z0, r0]
        exact pk_sub (b := 1) hc
      · show upd z 0 (z 0 - 1) 1 = _
        rw [pk_un (by omega), z1]
        exact r1
      · rw [pk_un (by omega), Nat.zero_add, hz e he, if_pos (by omega)]
  · have g := r2 e he
    rw [Nat.zero_add] at g
    rw [g]
    congr 1
    unfold drp
    by_cases w : e < 4 * v + 0
    · rw [if_pos w, if_pos (by omega)]
    · rw [if_neg w]
