def pq_lkn (c : pq_Pg) : Nat → pq_Pg
  | 0 => c
  | j + 1 => pq_lk1 (pq_lkn c j) j
def pq_bkn (r : Nat) (c : pq_Pg) : Nat → pq_Pg
  | 0 => c
  | j + 1 => pq_bk1 r (pq_bkn r c j) j
theorem pq_lkn_pl (c : pq_Pg) : ∀ (j b : Nat), b < 4 → j ≤ 4 → pq_lkn c j (b + 5) = c (b + 5) := by
  intro j
  induction j with
  | zero => intro b _ _; rfl
  | succ j ih =>
    intro b hb hj
    show pq_lk1 (pq_lkn c j) j (b + 5) = c (b + 5)
    unfold pq_lk1
    repeat' split
    all_goals first | exact ih b hb (by omega) | (rw [pq_upd_ne (by omega)]; exact ih b hb (by omega))
theorem pq_lkn_m {n m : Nat} (hm : m ≤ 4) {c : pq_Pg} (hP : pq_WP n m c) : ∀ d, m + d ≤ 4 → pq_lkn c (m + d) = pq_lkn c m := by
  intro d
  induction d with
  | zero => intro _; rfl
  | succ d ih =>
    intro hd
    show pq_lk1 (pq_lkn c (m + d)) (m + d) = pq_lkn c m
    unfold pq_lk1
    rw [pq_lkn_pl c (m + d) (m + d) (by omega) (by omega), hP.2.1 (m + d) (by omega) (by omega), if_pos (by decide)]
    exact ih (by omega)
theorem pq_lk_m {n m : Nat} (hm : m ≤ 4) {c : pq_Pg} (hP : pq_WP n m c) : pq_lk c = pq_lkn c m := by
  have := pq_lkn_m hm hP (4 - m) (by omega)
  rw [show m + (4 - m) = 4 by omega] at this
  exact this
theorem pq_WP_lkn {n m : Nat} {c : pq_Pg} (h : pq_WP n m c) : ∀ j, j ≤ 4 → pq_WP n m (pq_lkn c j) := by
  intro j
  induction j with
  | zero => intro _; exact h
  | succ j ih => intro hj; exact pq_WP_lk1 (ih (by omega)) (by omega)
/-- rows that the thrown bucket's own places don't reach -/
def pq_R0 (r : Nat) (n m : Nat) (c g : pq_Pg) : Prop := (∀ s, s < n → g s = c s) ∧ (∀ b, b < m → (b = r → g (b + 5) = 7) ∧ (b ≠ r → pq_pr (c (b + 5)) (g (b + 5)) ∧ g (b + 9) = c (b + 9) ∧ g (b + 13) = c (b + 13))) ∧ (∀ k, 17 ≤ k → k ≤ 20 → g k = c k)
theorem pq_R.r0 {r : Nat} {w : Int32} {n m : Nat} {c g : pq_Pg} (h : pq_R r w n m c g) : pq_R0 r n m c g := ⟨h.1, fun b hb => ⟨fun e => ((h.2.1 b hb).1 e).2.2.2, (h.2.1 b hb).2⟩, h.2.2⟩
theorem pq_bk1_ne {r : Nat} {c : pq_Pg} {a b : Nat} (hab : a ≠ b) (ha : a < 4) (hb : b < 4) : pq_bk1 r c b (a + 5) = c (a + 5) ∧ pq_bk1 r c b (a + 13) = c (a + 13) := by
  unfold pq_bk1
  split
  · exact ⟨by rw [pq_upd_ne (by omega), pq_upd_ne (by omega)], by rw [pq_upd_ne (by omega), pq_upd_ne (by omega)]⟩
  · exact ⟨rfl, rfl⟩
theorem pq_bk1_9 {r : Nat} {c : pq_Pg} {a b : Nat} (ha : a < 4) (hb : b < 4) : pq_bk1 r c b (a + 9) = c (a + 9) := by
  unfold pq_bk1
  split
  · rw [pq_upd_ne (by omega), pq_upd_ne (by omega)]
  · rfl
theorem pq_bkn_pl (r : Nat) (c : pq_Pg) : ∀ (j b : Nat), j ≤ b → b < 4 → pq_bkn r c j (b + 5) = c (b + 5) ∧ pq_bkn r c j (b + 13) = c (b + 13) := by
  intro j
  induction j with
  | zero => intro b _ _; exact ⟨rfl, rfl⟩
  | succ j ih =>
    intro b hb hb4
    obtain ⟨h1, h2⟩ := pq_bk1_ne (r := r) (c := pq_bkn r c j) (a := b) (b := j) (by omega) hb4 (by omega)
    obtain ⟨i1, i2⟩ := ih b (by omega) hb4
    exact ⟨h1.trans i1, h2.trans i2⟩
theorem pq_bkn_m {r n m : Nat} (hm : m ≤ 4) {c : pq_Pg} (hP : pq_WP n m c) : ∀ d, m + d ≤ 4 → pq_bkn r c (m + d) = pq_bkn r c m := by
  intro d
  induction d with
  | zero => intro _; rfl
  | succ d ih =>
    intro hd
    show pq_bk1 r (pq_bkn r c (m + d)) (m + d) = pq_bkn r c m
    unfold pq_bk1
    rw [(pq_bkn_pl r c (m + d) (m + d) (by omega) (by omega)).1, hP.2.1 (m + d) (by omega) (by omega), if_neg (by decide)]
    exact ih (by omega)
theorem pq_bk_m {r n m : Nat} (hm : m ≤ 4) {c : pq_Pg} (hP : pq_WP n m c) : pq_bk r c = pq_bkn r c m := by
  have := pq_bkn_m (r := r) hm hP (4 - m) (by omega)
  rw [show m + (4 - m) = 4 by omega] at this
  exact this
theorem pq_bkn_r {r : Nat} {c : pq_Pg} (h9 : c (r + 5) = 9) (hr : r < 4) : ∀ j, r < j → j ≤ 4 → pq_bkn r c j (r + 5) = (if c (r + 13) = 0 then 8 else 9) ∧ pq_bkn r c j (r + 13) = c (r + 13) := by
  intro j
  induction j with
  | zero => intro h; omega
  | succ j ih =>
    intro hj hj4
    by_cases q : j = r
    · subst q
      obtain ⟨i1, i2⟩ := pq_bkn_pl j c j j (by omega) hr
      show pq_bk1 j (pq_bkn j c j) j (j + 5) = _ ∧ pq_bk1 j (pq_bkn j c j) j (j + 13) = _
      unfold pq_bk1
      rw [i1, i2, if_pos h9, if_pos rfl, Int32.sub_zero]
      exact ⟨pq_upd_eq, by rw [pq_upd_ne (by omega), pq_upd_eq]⟩
    · obtain ⟨h1, h2⟩ := pq_bk1_ne (r := r) (c := pq_bkn r c j) (a := r) (b := j) (by omega) hr (by omega)
      obtain ⟨i1, i2⟩ := ih (by omega) (by omega)
      exact ⟨h1.trans i1, h2.trans i2⟩
theorem pq_bkn_9 (r : Nat) (c : pq_Pg) : ∀ (j b : Nat), j ≤ 4 → b < 4 → pq_bkn r c j (b + 9) = c (b + 9) := by
  intro j
  induction j with
  | zero => intro b _ _; rfl
  | succ j ih => intro b hj hb; exact (pq_bk1_9 hb (by omega)).trans (ih b (by omega) hb)
section
variable {pp r : Nat} {w gr : Int32} {n m : Nat} {K Z : Nat → Int32} {h : zw_Hp} {sm : Int32}
theorem pq_mleakLoop (hpp : pp = 37 ∨ pp = 38) (hn : n ≤ 5) (hm : m ≤ 4) (hC : pq_C n m K Z w gr h) {c : pq_Pg} (hP : pq_WP n m c) : ∀ (d N j : Nat) (g : pq_Pg), j + d = m → d < N → pq_R r w n m (pq_lkn c j) g →
    ∃ g', zw_it (fun (k2 : (Int32 × zw_Hp) → Option (zw_Hp)) (w : Int32 × zw_Hp) => B_X9_leak_2 pp k2 (w.1) (w.2)) N (nI j, zw_upR h pp g) = some (zw_upR h pp g') ∧ pq_R r w n m (pq_lkn c m) g' := by
  intro d
  induction d with
  | zero =>
    intro N j g hj hN hR
    obtain ⟨N', rfl⟩ : ∃ N', N = N' + 1 := ⟨N - 1, by omega⟩
    have hj : j = m := by omega
    subst hj
    refine ⟨g, ?_, hR⟩
    rw [pq_it_s]
    simp only []
    rw [B_X9_leak_2, pq_mo hpp h g (by decide), hC.2.1, if_pos (Int32.le_refl _)]
  | succ d ih =>
    intro N j g hj hN hR
    obtain ⟨N', rfl⟩ : ∃ N', N = N' + 1 := ⟨N - 1, by omega⟩
    obtain ⟨g1, e1, R1⟩ := pq_mleak1 hpp hn hm hC (pq_WP_lkn hP j (by omega)) hR (show j < m by omega) (zw_it (fun (k2 : (Int32 × zw_Hp) → Option (zw_Hp)) (w : Int32 × zw_Hp) => B_X9_leak_2 pp k2 (w.1) (w.2)) N')
    obtain ⟨g2, e2, R2⟩ := ih N' (j + 1) g1 (by omega) (by omega) R1
    refine ⟨g2, ?_, R2⟩
    rw [pq_it_s]
    simp only []
    rw [e1, e2]
theorem pq_mleak (hpp : pp = 37 ∨ pp = 38) (hn : n ≤ 5) (hm : m ≤ 4) (hC : pq_C n m K Z w gr h) {c g : pq_Pg} (hP : pq_WP n m c) (hR : pq_R r w n m c g) :
    ∃ g', M_X9_leak pp (zw_upR h pp g) = some (zw_upR h pp g') ∧ pq_R r w n m (pq_lk c) g' := by
  rw [pq_lk_m hm hP]
  exact pq_mleakLoop hpp hn hm hC hP m 600 0 g (by omega) (by omega) hR
theorem pq_mback1 (hpp : pp = 37 ∨ pp = 38) (hn : n ≤ 5) (hm : m ≤ 4) (hC : pq_C n m K Z w gr h) {c g : pq_Pg} (hR : pq_R0 r n m c g) {j : Nat} (hj : j < m) (k : (Int32 × zw_Hp) → Option zw_Hp) :
    ∃ g', B_X9_comeBack_2 pp k (nI j) (zw_upR h pp g) = k (nI (j + 1), zw_upR h pp g') ∧ pq_R0 r n m (pq_bk1 r c j) g' := by
  have hj4 : j < 4 := by omega
  unfold B_X9_comeBack_2 pq_bk1
  rw [pq_mo hpp h g (by decide), hC.2.1, if_neg (nI_ge hj (by omega)), if_pos (pq_a5 hj4).2, (pq_a5 hj4).1, pq_mp]
  simp only [B_X9_comeBack_50, B_X9_comeBack_51, zw_nm, (pq_a13 hj4).1, (pq_a13 hj4).2, (pq_a5 hj4).1, (pq_a5 hj4).2, if_true, pq_mu, pq_mp, nI_1, pq_upd_eq]
  obtain ⟨h1, h2, h3⟩ := hR
  by_cases q : j = r
  · have e7 := (h2 j hj).1 q
    rw [e7, if_neg (by decide)]
    refine ⟨g, rfl, ?_⟩
    split
    · refine ⟨fun s hs => ?_, fun b hb => ⟨fun e => (h2 b hb).1 e, fun e => ?_⟩, fun k hk hk2 => ?_⟩
      · rw [pq_upd_ne (by omega), pq_upd_ne (by omega)]; exact h1 s hs
      · rw [pq_upd_ne (by omega), pq_upd_ne (by omega), pq_upd_ne (by omega), pq_upd_ne (by omega), pq_upd_ne (by omega), pq_upd_ne (by omega)]; exact (h2 b hb).2 e
      · rw [pq_upd_ne (by omega), pq_upd_ne (by omega)]; exact h3 k hk hk2
    · exact ⟨h1, h2, h3⟩
  · obtain ⟨g1, g2, g3⟩ := (h2 j hj).2 q
    have e9 : g (j + 5) = 9 ↔ c (j + 5) = 9 := by
      rcases g1 with e | ⟨e1, e2⟩
      · rw [e]
      · rw [e1, e2]; decide
    by_cases h9 : c (j + 5) = 9
    · rw [if_pos (e9.mpr h9), if_pos h9, if_neg q, g3]
      have key : ∀ u v, pq_R0 r n m (upd (upd c (j + 13) u) (j + 5) v) (upd (upd g (j + 13) u) (j + 5) v) := by
        intro u v
        refine ⟨fun s hs => ?_, fun b hb => ⟨fun e => ?_, fun e => ?_⟩, fun k hk hk2 => ?_⟩
        · rw [pq_upd_ne (by omega), pq_upd_ne (by omega), pq_upd_ne (by omega), pq_upd_ne (by omega)]; exact h1 s hs
        · rw [pq_upd_ne (by omega), pq_upd_ne (by omega)]; exact (h2 b hb).1 e
        · obtain ⟨a1, a2, a3⟩ := (h2 b hb).2 e
          by_cases z : b = j
          · subst z
            refine ⟨Or.inl ?_, ?_, ?_⟩
            · rw [pq_upd_eq, pq_upd_eq]
            · rw [pq_upd_ne (by omega), pq_upd_ne (by omega), pq_upd_ne (by omega), pq_upd_ne (by omega)]; exact a2
            · rw [pq_upd_ne (by omega), pq_upd_eq, pq_upd_ne (by omega), pq_upd_eq]
          · refine ⟨?_, ?_, ?_⟩
            · rw [pq_upd_ne (by omega), pq_upd_ne (by omega), pq_upd_ne (by omega), pq_upd_ne (by omega)]; exact a1
            · rw [pq_upd_ne (by omega), pq_upd_ne (by omega), pq_upd_ne (by omega), pq_upd_ne (by omega)]; exact a2
            · rw [pq_upd_ne (by omega), pq_upd_ne (by omega), pq_upd_ne (by omega), pq_upd_ne (by omega)]; exact a3
        · rw [pq_upd_ne (by omega), pq_upd_ne (by omega), pq_upd_ne (by omega), pq_upd_ne (by omega)]; exact h3 k hk hk2
      by_cases z : c (j + 13) - 1 = 0
      · rw [if_pos z, if_pos z]
        exact ⟨_, rfl, key _ _⟩
      · rw [if_neg z, if_neg z]
        exact ⟨_, rfl, key _ _⟩
    · rw [if_neg (fun e => h9 (e9.mp e)), if_neg h9]
      exact ⟨g, rfl, h1, h2, h3⟩
theorem pq_mbackLoop (hpp : pp = 37 ∨ pp = 38) (hn : n ≤ 5) (hm : m ≤ 4) (hC : pq_C n m K Z w gr h) {c : pq_Pg} : ∀ (d N j : Nat) (g : pq_Pg), j + d = m → d < N → pq_R0 r n m (pq_bkn r c j) g →
    ∃ g', zw_it (fun (k2 : (Int32 × zw_Hp) → Option (zw_Hp)) (w : Int32 × zw_Hp) => B_X9_comeBack_2 pp k2 (w.1) (w.2)) N (nI j, zw_upR h pp g) = some (zw_upR h pp g') ∧ pq_R0 r n m (pq_bkn r c m) g' := by
  intro d
  induction d with
  | zero =>
    intro N j g hj hN hR
    obtain ⟨N', rfl⟩ : ∃ N', N = N' + 1 := ⟨N - 1, by omega⟩
    have hj : j = m := by omega
    subst hj
    refine ⟨g, ?_, hR⟩
    rw [pq_it_s]
    simp only []
    rw [B_X9_comeBack_2, pq_mo hpp h g (by decide), hC.2.1, if_pos (Int32.le_refl _)]
  | succ d ih =>
    intro N j g hj hN hR
    obtain ⟨N', rfl⟩ : ∃ N', N = N' + 1 := ⟨N - 1, by omega⟩
    obtain ⟨g1, e1, R1⟩ := pq_mback1 hpp hn hm hC hR (show j < m by omega) (zw_it (fun (k2 : (Int32 × zw_Hp) → Option (zw_Hp)) (w : Int32 × zw_Hp) => B_X9_comeBack_2 pp k2 (w.1) (w.2)) N')
    obtain ⟨g2, e2, R2⟩ := ih N' (j + 1) g1 (by omega) (by omega) R1
    refine ⟨g2, ?_, R2⟩
    rw [pq_it_s]
    simp only []
    rw [e1, e2]
theorem pq_mback (hpp : pp = 37 ∨ pp = 38) (hn : n ≤ 5) (hm : m ≤ 4) (hC : pq_C n m K Z w gr h) {c g : pq_Pg} (hP : pq_WP n m c) (hR : pq_R r w n m c g) :
    ∃ g', M_X9_comeBack pp (zw_upR h pp g) = some (zw_upR h pp g') ∧ pq_R0 r n m (pq_bk r c) g' := by
  rw [pq_bk_m hm hP]
  exact pq_mbackLoop hpp hn hm hC m 600 0 g (by omega) (by omega) hR.r0
end
