/-! ===== the text is read back ===== -/
theorem dgI {L p m : Nat} {ts : Nat → Int32} (hp : p < L) (h : ts p = nI (48 + m)) (hm : m < 10) : dg L ts p := by
  refine ⟨hp, ?_, ?_⟩
  · rw [h]; exact nI_le (a := 48) (by omega) (by omega)
  · rw [h]; exact nI_le (b := 57) (by omega) (by omega)
theorem dvI {p m : Nat} {ts : Nat → Int32} (h : ts p = nI (48 + m)) (hm : m < 10) : dv ts p = m := by
  unfold dv
  rw [h, nI_clamp (by omega)]
  omega
theorem vN_1 (ts : Nat → Int32) (p : Nat) : vN ts p 1 = dv ts p := by
  show (if vN ts p 0 ≤ 16 then 10 * vN ts p 0 + dv ts (p + 0) else vN ts p 0) = _
  rw [if_pos (show vN ts p 0 ≤ 16 from Nat.zero_le _)]
  show 10 * 0 + dv ts (p + 0) = _
  simp
theorem it_dig {L k : Nat} {ts : Nat → Int32} {g : Nat → Nat} (h : ItT ts g k) (h1 : 1 ≤ g k) (h2 : g k ≤ 10) (hL : posG g k + 1 + nd2 g k ≤ L) : (∀ j, posG g k + 1 ≤ j → j < posG g k + 1 + nd2 g k → dg L ts j) ∧ arcV ts (posG g k + 1) (nd2 g k) = g k := by
  obtain ⟨_, i2, i3, _⟩ := h
  by_cases q : 9 < g k
  · have n2 : nd2 g k = 2 := if_pos q
    rw [n2] at i3 hL ⊢
    have e1 : ts (posG g k + 1) = nI (48 + 1) := i2 q
    have g10 : g k = 10 := by omega
    rw [g10] at i3
    have e2 : ts (posG g k + 2) = nI (48 + 0) := i3
    refine ⟨fun j j1 j2 => ?_, ?_⟩
    · rcases (show j = posG g k + 1 ∨ j = posG g k + 2 by omega) with r | r
      · rw [r]; exact dgI (by omega) e1 (by omega)
      · rw [r]; exact dgI (by omega) e2 (by omega)
    · have d1 := dvI e1 (by omega)
      have d2 := dvI e2 (by omega)
      have v2 : vN ts (posG g k + 1) 2 = 10 := by
        show (if vN ts (posG g k + 1) 1 ≤ 16 then 10 * vN ts (posG g k + 1) 1 + dv ts (posG g k + 1 + 1) else vN ts (posG g k + 1) 1) = 10
        rw [vN_1, d1, if_pos (by omega), show posG g k + 1 + 1 = posG g k + 2 by omega, d2]
      unfold arcV
      rw [if_neg (by omega), if_neg (by omega), v2, if_neg (by omega), g10]
  · have n1 : nd2 g k = 1 := if_neg q
    rw [n1] at i3 hL ⊢
    have e1 : ts (posG g k + 1) = nI (48 + g k % 10) := i3
    have d1 := dvI e1 (by omega)
    refine ⟨fun j j1 j2 => ?_, ?_⟩
    · rw [show j = posG g k + 1 by omega]; exact dgI (by omega) e1 (by omega)
    · unfold arcV
      rw [if_neg (by omega), d1, if_neg (by omega), vN_1, d1, if_neg (by omega)]
      omega
def insK (k : Nat) : Int32 := if k % 4 = 0 then 0 else 1
def dueK (k : Nat) : Nat := if k % 4 = 0 then 0 else 4 - k % 4
theorem nI_sub {a b : Nat} (h : b ≤ a) : (nI a - nI b : Int32) = nI (a - b) := by
  rw [show a = b + (a - b) by omega, ← nI_add, Int32.add_comm, Int32.add_sub_cancel]
  congr 1
  omega
theorem P_item {L n k : Nat} {ts : Nat → Int32} {g : Nat → Nat} (hL : L ≤ 160) (h : GG n g) (hn : n ≤ 5) (hk : k < 4 * n) (hI : ItT ts g k) (hp : posG g (k + 1) ≤ L) (hnext : ¬ dg L ts (posG g k + 1 + nd2 g k)) {a : Nat → Int32} (hA : Rp a (fk k g)) {res : Option RS}
    (hc : CR L ts (posG g (k + 1)) (insK (k + 1)) (nI (dueK (k + 1))) (nI ((k + 1 + 3) / 4)) (nI 0) (upd a k (nI (g k))) res) : CR L ts (posG g k) (insK k) (nI (dueK k)) (nI ((k + 3) / 4)) (nI 0) a res := by
  have gb := (h k hk).1
  have ps := posG_s g k
  have n12 : nd2 g k = 1 ∨ nd2 g k = 2 := by
    unfold nd2
    by_cases q : 9 < g k
    · rw [if_pos q]; exact Or.inr rfl
    · rw [if_neg q]; exact Or.inl rfl
  have pe : posG g k + 1 + nd2 g k ≤ L := by omega
  obtain ⟨dgs, av⟩ := it_dig (L := L) hI (by omega) (by omega) pe
  obtain ⟨i1, _, _, i4⟩ := hI
  have sep : ¬ dg L ts (posG g k) := by
    by_cases q : k % 4 = 0
    · rw [if_pos q] at i1
      exact fun z => (dgv z).2.2.1 i1
    · rw [if_neg q] at i1
      exact dg32 i1
  have few := fk_few h hn hk (show k / 4 + 1 ≤ n by omega)
  -- the digits and what follows
  have after : CR L ts (posG g k + 1) 1 (nI (4 - k % 4)) (nI (k / 4 + 1)) (nI 0) a res := by
    have dg1 := dgs (posG g k + 1) (Nat.le_refl _) (by omega)
    have v := dgv dg1
    have tk : kX4_takeToken (nI (posG g k + 1)) 1 (nI (4 - k % 4)) (nI L) ts (nI (k / 4 + 1)) (nI 0) a = some (1, 1, nI (4 - k % 4 - 1), nI (k / 4 + 1), nI 0, upd a k (nI (g k))) := by
      have ed : (nI (4 * (k / 4 + 1)) - nI (4 - k % 4) : Int32) = nI k := by
        rw [nI_sub (by omega)]
        congr 1
        omega
      have ee : (nI (4 - k % 4) - 1 : Int32) = nI (4 - k % 4 - 1) := nI_sub (b := 1) (by omega)
      unfold kX4_takeToken kX4_takeArc
      rw [q_char hL (by omega), bnd1_e, if_neg v.1, if_neg v.2.1, if_neg v.2.2.1, q_arcFrom hL pe dgs hnext, bnd1_e, av, if_neg (nI_ne0 (by omega) (by omega)), if_neg (nI_ne0 (by omega) (by omega)), q_occ hA (by omega) (by omega), bnd1_e, if_pos (show nI _ < 2 from nI_lt (b := 2) few (by omega)), q_endCount, bnd1_e, ed, q_setArc _ (by omega), bnd1_e, bnd3_e, zr_1, ee]
    refine CR.tok hL (by omega) v.2.2.2 (fun z => ?_) tk ?_
    · have := z.2.2
      rw [Nat.add_sub_cancel] at this
      exact sep this
    · have e2 : posG g k + 1 + 1 + (nd2 g k - 1) = posG g k + 1 + nd2 g k := by omega
      refine CR.quiet hL (m := nd2 g k - 1) (fun j j1 j2 => ⟨by omega, q_quietD hL (dgs j (by omega) (by omega)) ⟨by omega, dgs (j - 1) (by omega) (by omega)⟩⟩) ?_
      rw [e2]
      have fin := hc
      by_cases q : k % 4 = 3
      · have c59 := i4 q
        rw [if_pos q] at ps
        rw [ps, show insK (k + 1) = 0 from if_pos (by omega), show dueK (k + 1) = 0 from if_pos (by omega), show (k + 1 + 3) / 4 = k / 4 + 1 by omega] at fin
        have tk2 : kX4_takeToken (nI (posG g k + 1 + nd2 g k)) 1 (nI (4 - k % 4 - 1)) (nI L) ts (nI (k / 4 + 1)) (nI 0) (upd a k (nI (g k))) = some (1, 0, nI 0, nI (k / 4 + 1), nI 0, upd a k (nI (g k))) := by
          unfold kX4_takeToken kX4_takeSemicolon
          rw [q_char hL (by omega), bnd1_e, if_pos c59, if_neg n10, show 4 - k % 4 - 1 = 0 by omega, if_pos (show nI 0 ≤ 0 from Int32.le_refl _), bnd2_e, zr_1]
        exact CR.tok hL (by omega) (by rw [c59]; decide) (nd_no hnext) tk2 fin
      · rw [if_neg q] at ps
        rw [ps, Nat.add_zero, show insK (k + 1) = 1 from if_neg (by omega), show dueK (k + 1) = 4 - k % 4 - 1 by unfold dueK; rw [if_neg (by omega)]; omega, show (k + 1 + 3) / 4 = k / 4 + 1 by omega] at fin
        exact fin
  by_cases q : k % 4 = 0
  · rw [if_pos q] at i1
    rw [show insK k = 0 from if_pos q, show dueK k = 0 from if_pos q, show (k + 3) / 4 = k / 4 by omega]
    have tk : kX4_takeToken (nI (posG g k)) 0 (nI 0) (nI L) ts (nI (k / 4)) (nI 0) a = some (1, 1, nI (4 - k % 4), nI (k / 4 + 1), nI 0, a) := by
      unfold kX4_takeToken kX4_takeCrossing
      rw [q_char hL (by omega), bnd1_e, if_neg (by rw [i1]; decide), if_neg (by rw [i1]; decide), if_pos i1, if_pos rfl, if_pos (show nI (k / 4) < 8 from nI_lt (b := 8) (by omega) (by omega)), bnd4_e, zr_1, nI_1, q]
      rfl
    exact CR.tok hL (by omega) (by rw [i1]; decide) (nd_no sep) tk after
  · rw [if_neg q] at i1
    rw [show insK k = 1 from if_neg q, show dueK k = 4 - k % 4 from if_neg q, show (k + 3) / 4 = k / 4 + 1 by omega]
    exact CR.skip hL (m := posG g k + 1) (by omega) (by omega) (fun j j1 j2 => by rw [show j = posG g k by omega]; exact i1) after
def arrK (a0 : Nat → Int32) (g : Nat → Nat) : Nat → Nat → Int32
  | 0 => a0
  | k + 1 => upd (arrK a0 g k) k (nI (g k))
theorem arrK_rp {n : Nat} {g : Nat → Nat} (h : GG n g) (hn : n ≤ 5) {a0 : Nat → Int32} (h0 : Rp a0 (fun _ => 0)) : ∀ k, k ≤ 4 * n → Rp (arrK a0 g k) (fk k g)
  | 0, _ => by
    have f0 : fk 0 g = fun _ => 0 := by
      funext e
      exact if_neg (by omega)
    rw [f0]; exact h0
  | k + 1, hk => fk_rp h hn (by omega) (arrK_rp h hn h0 k (by omega))
theorem P_all {L n : Nat} {ts : Nat → Int32} {g : Nat → Nat} (hL : L ≤ 160) (h : GG n g) (hn : n ≤ 5) (hI : ∀ k, k < 4 * n → ItT ts g k) (hp : posG g (4 * n) ≤ L) {a0 : Nat → Int32} (h0 : Rp a0 (fun _ => 0)) {res : Option RS}
    (hc : CR L ts (posG g (4 * n)) 0 (nI 0) (nI n) (nI 0) (arrK a0 g (4 * n)) res) : ∀ m k, k + m = 4 * n → CR L ts (posG g k) (insK k) (nI (dueK k)) (nI ((k + 3) / 4)) (nI 0) (arrK a0 g k) res := by
  intro m
  induction m with
  | zero =>
    intro k hk
    have e : k = 4 * n := by omega
    subst e
    rw [show insK (4 * n) = 0 from if_pos (by omega), show dueK (4 * n) = 0 from if_pos (by omega), show (4 * n + 3) / 4 = n by omega]
    exact hc
  | succ m ih =>
    intro k hk
    have kl : k < 4 * n := by omega
    have mono := posG_mono g (show k + 1 ≤ 4 * n by omega)
    have ps := posG_s g k
    refine P_item hL h hn kl (hI k kl) (by omega) ?_ (arrK_rp h hn h0 k (by omega)) (ih (k + 1) (by omega))
    by_cases q : k % 4 = 3
    · exact fun z => (dgv z).1 ((hI k kl).2.2.2 q)
    · rw [if_neg q, Nat.add_zero] at ps
      have nx := (hI (k + 1) (by omega)).1
      rw [if_neg (by omega), ps] at nx
      exact dg32 nx
theorem P_whole {n o : Nat} {g : Nat → Nat} (h : GG n g) (hn : n ≤ 5) (ho : o ≤ 1) (hp : 0 < n + o) {a : Nat → Int32} (hA : Rp a (fk (4 * n) g)) : kX4_isWhole 0 (nI n) (nI o) a = some 1 := by
  have hV := fk_VS h hn ho
  unfold kX4_isWhole
  rw [if_pos rfl, nI_add, if_neg (nI_ne0 hp (by omega)), q_endCount, bnd1_e]
  refine it1_inv (F := kX4_isWhole_L1 (nI (4 * n)) a (nI n)) (x1 := 0) (n := 400) (fun i x => x = nI i) (fun r => r = some 1) (4 * n) (fun K i x hi hI => ?_) (fun K x hI => ?_) rfl (by omega)
  · subst hI
    refine ⟨nI (i + 1), ?_, rfl⟩
    have b := hA.2.1 i
    have tw : fb_ct (fun e => fk (4 * n) g e == fk (4 * n) g i) (4 * n) = 2 := two_same hV (e := i) hi
    unfold kX4_isWhole_L1
    rw [if_neg (nI_ge hi (by omega)), q_arcR hA (by omega), bnd1_e, q_occ hA (by omega) b, bnd1_e, tw, if_pos (show nI 2 = 2 from rfl), nI_1]
  · subst hI
    unfold kX4_isWhole_L1
    rw [if_pos (Int32.le_refl _)]
theorem P_read {n o : Nat} {ts : Nat → Int32} {g : Nat → Nat} (h : GG n g) (hn : n ≤ 5) (ho : o ≤ 1) (hp : 0 < n + o) (hI : ∀ k, k < 4 * n → ItT ts g k) (hO : o = 1 → ts (posG g (4 * n)) = 111 ∧ ts (posG g (4 * n) + 1) = 59) (i d pc po : Int32) (pa : Nat → Int32) : ∃ a', kX4_read i d (nI (posG g (4 * n) + 2 * o)) ts pc po pa = some (-1, 0, nI 0, nI n, nI o, a') ∧ Rp a' (fk (4 * n) g) := by
  have pl := (posG_le g (4 * n)).1
  have hL : posG g (4 * n) + 2 * o ≤ 160 := by omega
  have stop : ∀ a', Rp a' (fk (4 * n) g) → CR (posG g (4 * n) + 2 * o) ts (posG g (4 * n) + 2 * o) 0 (nI 0) (nI n) (nI o) a' (some (-1, 0, nI 0, nI n, nI o, a')) := fun a' hA' => CR.stop (fun K => by
    unfold kX4_read_L1
    rw [if_pos (Int32.le_refl _), P_whole h hn ho hp hA', bnd1_e, if_neg n10])
  have ends : ∀ a', Rp a' (fk (4 * n) g) → CR (posG g (4 * n) + 2 * o) ts (posG g (4 * n)) 0 (nI 0) (nI n) (nI 0) a' (some (-1, 0, nI 0, nI n, nI o, a')) := fun a' hA' => by
    have st := stop a' hA'
    rcases (show o = 0 ∨ o = 1 by omega) with rfl | rfl
    · exact st
    · obtain ⟨o1, o2⟩ := hO rfl
      have d1 : ¬ dg (posG g (4 * n) + 2 * 1) ts (posG g (4 * n)) := fun z => (dgv z).2.1 o1
      have d2 : ¬ dg (posG g (4 * n) + 2 * 1) ts (posG g (4 * n) + 1) := fun z => (dgv z).1 o2
      have tk1 : kX4_takeToken (nI (posG g (4 * n))) 0 (nI 0) (nI (posG g (4 * n) + 2 * 1)) ts (nI n) (nI 0) a' = some (1, 1, nI 0, nI n, nI 1, a') := by
        unfold kX4_takeToken kX4_takeCircle
        rw [q_char hL (by omega), bnd1_e, if_neg (by rw [o1]; decide), if_pos o1, if_pos rfl, if_pos (by decide), bnd3_e, zr_1, nI_1]
      have tk2 : kX4_takeToken (nI (posG g (4 * n) + 1)) 1 (nI 0) (nI (posG g (4 * n) + 2 * 1)) ts (nI n) (nI 1) a' = some (1, 0, nI 0, nI n, nI 1, a') := by
        unfold kX4_takeToken kX4_takeSemicolon
        rw [q_char hL (by omega), bnd1_e, if_pos o2, if_neg n10, if_pos (show nI 0 ≤ 0 from Int32.le_refl _), bnd2_e, zr_1]
      exact CR.tok hL (by omega) (by rw [o1]; decide) (nd_no d1) tk1 (CR.tok hL (by omega) (by rw [o2]; decide) (nd_no d2) tk2 st)
  have r0 := Rp.clear pa
  have rn := arrK_rp h hn r0 (4 * n) (Nat.le_refl _)
  have w1 := P_all hL h hn hI (by omega) r0 (ends _ rn) (4 * n) 0 (by omega)
  refine ⟨_, ?_, rn⟩
  unfold kX4_read
  rw [q_clear, bnd3_e]
  exact w1 400 (by omega)
