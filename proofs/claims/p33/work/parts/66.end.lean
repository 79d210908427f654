theorem q_whole {c o : Nat} {f : Nat → Nat} {a read uses : Nat → Int32} (h : PS c o f a read uses) :
    (c + o ≠ 0 ∧ (∀ e, e < 4 * c → cn f (f e) = 2) ∧ kX4_isWhole 0 (nI c) (nI o) a = some 1) ∨ ((c + o = 0 ∨ ∃ e, e < 4 * c ∧ cn f (f e) ≠ 2) ∧ kX4_isWhole 0 (nI c) (nI o) a = some 0) := by
  obtain ⟨h1, h2', h3, h4, h5, h6, h7, h8⟩ := h
  unfold kX4_isWhole
  rw [if_pos rfl, nI_add]
  by_cases z : c + o = 0
  · rw [if_pos (by rw [z]; rfl)]
    exact Or.inr ⟨Or.inl z, rfl⟩
  · rw [if_neg (nI_ne0 (by omega) (by omega)), q_endCount, bnd1_e]
    refine it1_way (F := kX4_isWhole_L1 (nI (4 * c)) a (nI c)) (x1 := 0) (n := 400) (fun i x => x = nI i ∧ ∀ e, e < i → cn f (f e) = 2) (fun r => (c + o ≠ 0 ∧ (∀ e, e < 4 * c → cn f (f e) = 2) ∧ r = some 1) ∨ ((c + o = 0 ∨ ∃ e, e < 4 * c ∧ cn f (f e) ≠ 2) ∧ r = some 0)) (4 * c) (fun K i x hi hI => ?_) ⟨rfl, fun e he => absurd he (Nat.not_lt_zero _)⟩ (by omega)
    obtain ⟨rfl, hx⟩ := hI
    unfold kX4_isWhole_L1
    by_cases q : i = 4 * c
    · left
      exact Or.inl ⟨z, fun e he => hx e (by omega), if_pos (nI_le (by omega) (by omega))⟩
    · have fi := h5 i (by omega)
      have b := h8 (f i) fi.1
      rw [if_neg (nI_ge (by omega) (by omega)), q_arcR h3 (by omega), bnd1_e, q_occ h3 h1 fi.2, bnd1_e, cn_eq (by omega) (fun e he => by rw [h4 e he]; omega), nI_1]
      by_cases w : cn f (f i) = 2
      · right
        refine ⟨by omega, _, if_pos (by rw [w]; rfl), rfl, fun e he => ?_⟩
        by_cases g : e = i
        · rw [g]; exact w
        · exact hx e (by omega)
      · left
        have n2 : ¬ (nI (cn f (f i)) = (2 : Int32)) := fun y => w ((nI_eq (b := 2) (by omega) (by omega)).mp y)
        exact Or.inr ⟨Or.inr ⟨i, by omega, w⟩, if_neg n2⟩
def RtQ (L : Nat) (ts : Nat → Int32) (r : Option (Int32 × Int32 × (Nat → Int32) × (Nat → Int32))) : Prop :=
  ∀ a0, Rp a0 (fun _ => 0) → ∃ v nx read' uses' i d c' o' a', r = some (v, nx, read', uses') ∧ CR L ts 0 0 0 0 0 a0 (some (v, i, d, c', o', a')) ∧ (v < 0 → ∃ D : St, VS D ∧ c' = nI D.1 ∧ o' = nI D.2.1 ∧ Rp a' D.2.2 ∧ BlR read' 0 D)
def TR (tl : Int32) (cs : Nat → Int32) (rl : Int32) (ts : Nat → Int32) : Prop := ∃ L, TX L cs ts ∧ tl = nI L ∧ rl = nI L
