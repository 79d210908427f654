/-- a step without a pivot -/
theorem sol_free {p : Nat} (hp : 0 < p) {K : Nat → Bool} {M : Nat → Nat} {r c k n : Nat} (hk : k < 17) (hz : ∀ w, r ≤ w → w < c → M (17 * w + k) = 0) (h : HC (SolK p K M r c (k + 1)) n) : HC (SolK p K M r c k) (if K k = true then n * p else n) := by
  have same : ∀ x w, r ≤ w → w < c → ∀ v, x k = 0 → rs M w (fun j => if j = k then v else x j) = rs M w x := fun x w h1 h2 v h0 => by
    rw [rs_upd M w x hk h0, hz w h1 h2, Nat.zero_mul, Nat.add_zero]
  by_cases q : K k = true
  · rw [if_pos q]
    refine h.mul hp (fun x t => fun j => if j = k then t else x j) (fun x t hx ht => ?_) (fun x y t u hx hy ht hu e => ?_) (fun y hy => ?_)
    · obtain ⟨a, b, d⟩ := hx
      have h0 := a k (Or.inl (by omega))
      refine ⟨fun j hj => ?_, fun j => ?_, fun w h1 h2 => ?_⟩
      · show (if j = k then t else x j) = 0
        by_cases z : j = k
        · subst z
          rcases hj with hj | hj | hj
          · omega
          · omega
          · rw [q] at hj; cases hj
        · rw [if_neg z]; exact a j (hj.imp (fun z => by omega) (fun z => z))
      · show (if j = k then t else x j) < p
        by_cases z : j = k
        · rw [if_pos z]; exact ht
        · rw [if_neg z]; exact b j
      · rw [same x w h1 h2 t h0]; exact d w h1 h2
    · have hxk := hx.1 k (Or.inl (by omega))
      have hyk := hy.1 k (Or.inl (by omega))
      refine ⟨?_, ?_⟩
      · funext j
        by_cases z : j = k
        · rw [z, hxk, hyk]
        · have := congrFun e j
          simp only [if_neg z] at this
          exact this
      · have := congrFun e k
        simp only [if_true] at this
        exact this
    · obtain ⟨a, b, d⟩ := hy
      refine ⟨fun j => if j = k then 0 else y j, y k, ⟨fun j hj => ?_, fun j => ?_, fun w h1 h2 => ?_⟩, b k, ?_⟩
      · show (if j = k then 0 else y j) = 0
        by_cases z : j = k
        · rw [if_pos z]
        · rw [if_neg z]; exact a j (hj.imp (fun z => by omega) (fun z => z))
      · show (if j = k then 0 else y j) < p
        by_cases z : j = k
        · rw [if_pos z]; exact hp
        · rw [if_neg z]; exact b j
      · have e : rs M w y = rs M w (fun j => if j = k then 0 else y j) := by
          have := same (fun j => if j = k then 0 else y j) w h1 h2 (y k) (if_pos rfl)
          rw [← this]
          congr 1
          funext j
          show y j = (if j = k then y k else if j = k then 0 else y j)
          by_cases z : j = k
          · rw [if_pos z, z]
          · rw [if_neg z, if_neg z]
        rw [← e]
        exact d w h1 h2
      · funext j
        show (if j = k then y k else if j = k then 0 else y j) = y j
        by_cases z : j = k
        · rw [if_pos z, z]
        · rw [if_neg z, if_neg z]
  · rw [if_neg q]
    have qf : K k = false := by simpa using q
    refine h.congr (fun x => ?_)
    constructor
    · rintro ⟨a, b, d⟩
      exact ⟨fun j hj => a j (hj.imp (fun z => by omega) (fun z => z)), b, d⟩
    · rintro ⟨a, b, d⟩
      refine ⟨fun j hj => ?_, b, d⟩
      by_cases z : j = k
      · exact a j (Or.inr (Or.inr (by rw [z]; exact qf)))
      · exact a j (hj.imp (fun z => by omega) (fun z => z))
/-- the columns that don't count stay 0 -/
theorem gst_zero {p c k : Nat} {K : Nat → Bool} (hp : isP p) (hc : c ≤ 8) (x : Nat × (Nat → Nat)) (hz : ∀ w j, w < 8 → j < 17 → K j = false → x.2 (17 * w + j) = 0) : ∀ w j, w < 8 → j < 17 → K j = false → (gst p c k x).2 (17 * w + j) = 0 := by
  intro w j hw hj hK
  have hp0 := (isP_lt hp).1
  unfold gst
  by_cases q : pvt x.2 k (c - x.1) x.1 < c
  · rw [if_pos q]
    obtain ⟨P, hP⟩ : ∃ P, P = pvt x.2 k (c - x.1) x.1 := ⟨_, rfl⟩
    rw [← hP] at q ⊢
    have sz : ∀ w, w < 8 → swp x.2 x.1 P (17 * w + j) = 0 := fun w hw => by
      have e1 : (17 * w + j) / 17 = w := by omega
      have e2 : (17 * w + j) % 17 = j := by omega
      unfold swp
      rw [e1, e2]
      by_cases z : w = x.1
      · rw [if_pos z]; exact hz P j (by omega) hj hK
      · rw [if_neg z]
        by_cases y : w = P
        · rw [if_pos y]
          have sp := pvt_spec x.2 k (c - x.1) x.1
          rw [← hP] at sp
          exact hz x.1 j (by omega) hj hK
        · rw [if_neg y]; exact hz w j hw hj hK
    show mix (ncM p x.1 k (swp x.2 x.1 P)) (swp x.2 x.1 P) x.1 c 0 (17 * w + j) = 0
    unfold mix
    by_cases z : x.1 < (17 * w + j) / 17 ∧ ((17 * w + j) / 17 < c ∨ ((17 * w + j) / 17 = c ∧ (17 * w + j) % 17 < 0))
    · rw [if_pos z]
      have e1 : (17 * w + j) / 17 = w := by omega
      have e2 : (17 * w + j) % 17 = j := by omega
      rw [e1] at z
      unfold ncM
      rw [e2, sz w hw, sz x.1 (by omega), Nat.mul_zero, Nat.zero_mod, Nat.sub_zero, Nat.zero_add, Nat.mod_self]
    · rw [if_neg z]; exact sz w hw
  · rw [if_neg q]; exact hz w j hw hj hK
theorem gMs_zero {p c : Nat} {K : Nat → Bool} (hp : isP p) (hc : c ≤ 8) {M : Nat → Nat} (hz : ∀ w j, w < 8 → j < 17 → K j = false → M (17 * w + j) = 0) : ∀ i, ∀ w j, w < 8 → j < 17 → K j = false → (gMs p c M i).2 (17 * w + j) = 0
  | 0 => hz
  | i + 1 => gst_zero hp hc _ (gMs_zero hp hc hz i)
/-- the solutions, counted along the elimination -/
theorem sol_back {p c : Nat} {K : Nat → Bool} (hp : isP p) (hc : c ≤ 8) {M : Nat → Nat} (hB : BdM p M) (hz : ∀ w j, w < 8 → j < 17 → K j = false → M (17 * w + j) = 0) : ∀ t, t ≤ 16 → ∃ a, HC (SolK p K (gMs p c M (16 - t)).2 (gMs p c M (16 - t)).1 c (1 + (16 - t))) (p ^ a) ∧ a + ((gMs p c M 16).1 - (gMs p c M (16 - t)).1) = fb_ct (fun j => K (1 + (16 - t) + j)) t ∧ (gMs p c M (16 - t)).1 ≤ (gMs p c M 16).1
  | 0, _ => by
    have hp0 := (isP_lt hp).1
    refine ⟨0, ⟨fun _ _ => 0, fun i _ => ⟨fun _ _ => rfl, fun _ => show 0 < p by omega, fun w _ _ => ?_⟩, fun i j hi hj _ => by rw [Nat.pow_zero] at hi hj; omega, fun x hx => ⟨0, by rw [Nat.pow_zero]; omega, ?_⟩⟩, ?_, Nat.le_refl _⟩
    · have e : rs (gMs p c M (16 - 0)).2 w (fun _ => 0) = 0 := by
        unfold rs
        have : ∀ n, fb_sm (fun j => (gMs p c M (16 - 0)).2 (17 * w + j) * 0) n = 0 := by
          intro n
          induction n with
          | zero => rfl
          | succ n ih => rw [fb_sm_succ, ih, Nat.mul_zero]
        exact this 17
      rw [e]; exact cg.rf
    · funext j
      refine (hx.1 j ?_).symm
      by_cases z : j < 17
      · exact Or.inl (by omega)
      · exact Or.inr (Or.inl (by omega))
    · show 0 + ((gMs p c M 16).1 - (gMs p c M 16).1) = 0
      omega
  | t + 1, ht => by
    have hp0 := (isP_lt hp).1
    obtain ⟨a, h1, h2, h3⟩ := sol_back hp hc hB hz t (by omega)
    obtain ⟨i, hi⟩ : ∃ i, i = 16 - (t + 1) := ⟨_, rfl⟩
    have ei : 16 - t = i + 1 := by omega
    rw [ei] at h1 h2 h3
    rw [← hi]
    have ok := gMs_ok hp hc hB i
    have zr := gMs_zero hp hc hz i
    have st : gMs p c M (i + 1) = gst p c (1 + i) (gMs p c M i) := rfl
    have hct : fb_ct (fun j => K (1 + i + j)) (t + 1) = (if K (1 + i) = true then 1 else 0) + fb_ct (fun j => K (1 + (i + 1) + j)) t := by
      rw [Nat.add_comm t 1, fb_ct_split]
      congr 1
      · rw [fb_ct_succ]
        show fb_ct _ 0 + (if K (1 + i + 0) = true then 1 else 0) = _
        rw [show fb_ct (fun j => K (1 + i + j)) 0 = 0 from rfl, Nat.zero_add]
        rfl
      · refine fb_ct_cong (fun j _ => ?_)
        show K (1 + i + (1 + j)) = K (1 + (i + 1) + j)
        congr 1
        omega
    rw [hct]
    obtain ⟨x, hx⟩ : ∃ x, x = gMs p c M i := ⟨_, rfl⟩
    rw [← hx] at ok zr st ⊢
    have sp := pvt_spec x.2 (1 + i) (c - x.1) x.1
    by_cases q : pvt x.2 (1 + i) (c - x.1) x.1 < c
    · have eg : gst p c (1 + i) x = (x.1 + 1, mix (ncM p x.1 (1 + i) (swp x.2 x.1 (pvt x.2 (1 + i) (c - x.1) x.1))) (swp x.2 x.1 (pvt x.2 (1 + i) (c - x.1) x.1)) x.1 c 0) := by unfold gst; rw [if_pos q]
      rw [st, eg] at h1 h2 h3
      obtain ⟨P, hP⟩ : ∃ P, P = pvt x.2 (1 + i) (c - x.1) x.1 := ⟨_, rfl⟩
      rw [← hP] at q sp h1
      have nz : x.2 (17 * P + (1 + i)) ≠ 0 := sp.2.2.2 (by omega)
      have hK : K (1 + i) = true := by
        cases hk : K (1 + i) with
        | true => rfl
        | false => exact absurd (zr P (1 + i) (by omega) (by omega) hk) nz
      rw [if_pos hK]
      have sv : swp x.2 x.1 P (17 * x.1 + (1 + i)) = x.2 (17 * P + (1 + i)) := by
        unfold swp
        rw [if_pos (by omega), show (17 * x.1 + (1 + i)) % 17 = 1 + i by omega]
      have g := sol_pivot hp (K := K) (S := swp x.2 x.1 P) (r := x.1) (c := c) (k := 1 + i) (n := p ^ a) (by omega) hK (by omega) hc (swp_bd ok.2 (by omega) (by omega)) (by rw [sv]; exact nz) h1
      have h2' : a + ((gMs p c M 16).1 - (x.1 + 1)) = fb_ct (fun j => K (1 + (i + 1) + j)) t := h2
      have h3' : x.1 + 1 ≤ (gMs p c M 16).1 := h3
      exact ⟨a, g.congr (fun y => SolK.swap sp.1 q y), by omega, by omega⟩
    · have eg : gst p c (1 + i) x = x := by unfold gst; rw [if_neg q]
      rw [st, eg] at h1 h2 h3
      have zz : ∀ w, x.1 ≤ w → w < c → x.2 (17 * w + (1 + i)) = 0 := fun w g1 g2 => sp.2.2.1 w g1 (by omega)
      have g := sol_free (p := p) (by omega) (K := K) (M := x.2) (r := x.1) (c := c) (k := 1 + i) (n := p ^ a) (by omega) zz h1
      by_cases hK : K (1 + i) = true
      · rw [if_pos hK] at g ⊢
        exact ⟨a + 1, by rw [Nat.pow_succ]; exact g, by omega, h3⟩
      · rw [if_neg hK] at g ⊢
        exact ⟨a, g, by omega, h3⟩
/-- as many solutions as the rank leaves free -/
theorem sol_rank {p c : Nat} {K : Nat → Bool} (hp : isP p) (hc : c ≤ 8) {M : Nat → Nat} (hB : BdM p M) (hK0 : K 0 = false) (hz : ∀ w j, w < 8 → j < 17 → K j = false → M (17 * w + j) = 0) : ∃ a, HC (SolK p K M 0 c 1) (p ^ a) ∧ a + (gMs p c M 16).1 = fb_ct K 17 := by
  obtain ⟨a, h1, h2, _⟩ := sol_back hp hc hB hz 16 (Nat.le_refl _)
  have e : fb_ct K 17 = fb_ct (fun j => K (1 + (16 - 16) + j)) 16 := by
    rw [show (17 : Nat) = 1 + 16 from rfl, fb_ct_split]
    have : fb_ct K 1 = 0 := by
      rw [fb_ct_succ, hK0]
      rfl
    rw [this, Nat.zero_add]
  refine ⟨a, h1, ?_⟩
  rw [e, ← h2]
  show a + _ = a + (_ - 0)
  rw [Nat.sub_zero]
