def pq_Wb (n m B : Nat) (c : pq_Pg) : Prop := pq_WW n c ∧ pq_WP n m c ∧ pq_WF m c ∧ pq_WN B c
theorem pq_Wb_bt {K Z : Nat → Int32} {w gr : Int32} {n m B : Nat} (hn : n ≤ 5) (hZ : ∀ b, b < m → pq_s9 (Z b)) (hg : pq_s9 gr) {c : pq_Pg} (h : pq_Wb n m B c) : pq_Wb n m (B + 1) (pq_bt K Z w gr n c) :=
  ⟨pq_WW_bt h.1, pq_WP_bt hn h.2.1 hZ, pq_WF_bt h.2.1 h.2.2.1 hg, pq_WN_bt h.2.1 h.2.2.2⟩
theorem pq_Wb_bts {K Z : Nat → Int32} {w gr : Int32} {n m : Nat} (hn : n ≤ 5) (hZ : ∀ b, b < m → pq_s9 (Z b)) (hg : pq_s9 gr) : ∀ (k B : Nat) {c : pq_Pg}, pq_Wb n m B c → pq_Wb n m (B + k) (pq_bts K Z w gr n c k) := by
  intro k
  induction k with
  | zero => intro B c h; exact h
  | succ k ih =>
    intro B c h
    have := ih (B + 1) (pq_Wb_bt (K := K) (w := w) hn hZ hg h)
    rw [show B + 1 + k = B + (k + 1) by omega] at this
    exact this
theorem pq_Wb_B {n m B : Nat} (hB : B < 2 ^ 31) {c : pq_Pg} (h : pq_Wb n m B c) : ∃ q, q < 2 ^ 31 ∧ c 20 = nI q := by
  obtain ⟨q, h1, h2⟩ := h.2.2.2.2
  exact ⟨q, by omega, h2⟩
theorem pq_bts_21 {K Z : Nat → Int32} {w gr : Int32} {n : Nat} : ∀ (k : Nat) {c : pq_Pg}, pq_bts K Z w gr n c k 21 = c 21 := by
  intro k
  induction k with
  | zero => intro c; rfl
  | succ k ih => intro c; exact ih.trans (pq_bt_17 (by omega))
/-- what the plan says, as both have it -/
def pq_Pl (n m : Nat) (h : zw_Hp) : Prop := h.1 6 2 = nI n ∧ n ≤ 5 ∧ m ≤ 4 ∧ (∀ b, b < m → pq_s9 (h.1 8 b)) ∧ pq_s9 (h.1 6 6) ∧ pq_s9 (h.1 6 7)
theorem pq_pbsLoop {t : Nat} (ht : t = 9 ∨ t = 14) {n m : Nat} (h : zw_Hp) (hPl : pq_Pl n m h) {T : Nat} (hT : T < 2 ^ 30) (x2 : Int32) : ∀ (k N j B : Nat) (c : pq_Pg), j + k = T → k < N → pq_Wb n m B c →
    zw_it (fun (k7 : (Int32 × Int32 × Int32 × zw_Hp) → Option (Int32 × zw_Hp)) (w : Int32 × Int32 × Int32 × zw_Hp) => B_X3_passBeats_7 t k7 (w.1) (w.2.1) (w.2.2.1) (w.2.2.2)) N (nI T, x2, nI j, pq_cp t c h) =
      some (pq_bts (h.1 7) (h.1 8) (h.1 6 7) (h.1 6 6) n c k 19 - x2, pq_cp t (pq_bts (h.1 7) (h.1 8) (h.1 6 7) (h.1 6 6) n c k) h) := by
  obtain ⟨hp, hn, hm, hZ, hg, -⟩ := hPl
  intro k
  induction k with
  | zero =>
    intro N j B c hj hN hW
    obtain ⟨N', rfl⟩ : ∃ N', N = N' + 1 := ⟨N - 1, by omega⟩
    rw [pq_it_s]
    simp only []
    rw [B_X3_passBeats_7, show j = T by omega, if_pos (Int32.le_refl _), pq_cp_0 c h (by decide)]
    rfl
  | succ k ih =>
    intro N j B c hj hN hW
    obtain ⟨N', rfl⟩ : ∃ N', N = N' + 1 := ⟨N - 1, by omega⟩
    rw [pq_it_s]
    simp only []
    rw [B_X3_passBeats_7, if_neg (nI_ge (by omega) (by omega)), pq_passBeat ht hn c h hp hW.1.who (hW.2.1.plc hn)]
    simp only [Option.bind_some, zw_nm, nI_1]
    exact ih N' (j + 1) (B + 1) _ (by omega) (by omega) (pq_Wb_bt hn hZ hg hW)
theorem pq_passBeats {t : Nat} (ht : t = 9 ∨ t = 14) {n m B : Nat} (h : zw_Hp) (hPl : pq_Pl n m h) {T : Nat} (hT : T < 600) {c : pq_Pg} (hW : pq_Wb n m B c) :
    M_X3_passBeats t (nI T) (pq_cp t c h) = some (pq_bts (h.1 7) (h.1 8) (h.1 6 7) (h.1 6 6) n c T 19 - c 19, pq_cp t (pq_bts (h.1 7) (h.1 8) (h.1 6 7) (h.1 6 6) n c T) h) := by
  unfold M_X3_passBeats
  simp only [zw_nm]
  rw [pq_cp_0 c h (by decide)]
  unfold L_X3_passBeats_7
  exact pq_pbsLoop ht h hPl (by omega) (c 19) T 600 0 B c (by omega) hT hW
/-- the model's configuration beside the plan's -/
def pq_Cf (n m : Nat) (h : zw_Hp) : Prop := pq_C n m (h.1 7) (h.1 8) (h.1 6 7) (h.1 6 6) h
theorem pq_gbsLoop {n m : Nat} {K Z : Nat → Int32} {w gr : Int32} (hn : n ≤ 5) (hm : m ≤ 4) (hZ : ∀ b, b < m → pq_s9 (Z b)) (hg : pq_s9 gr) (h : zw_Hp) (hC : pq_C n m K Z w gr h) {sm : Int32} {T : Nat} (hT : T < 600) : ∀ (k N j B : Nat) (c g : pq_Pg), j + k = T → k < N → B + k < 2 ^ 30 → pq_Wb n m B c → pq_R 4 w n m c g → pq_msk n (c 21) sm →
    ∃ g', zw_it (fun (k2 : (Int32 × Int32 × Int32 × zw_Hp) → Option (zw_Hp)) (w : Int32 × Int32 × Int32 × zw_Hp) => B_X9_goBeats_2 k2 (w.1) (w.2.1) (w.2.2.1) (w.2.2.2)) N (nI T, sm, nI j, zw_upR h 38 g) = some (zw_upR h 38 g') ∧ pq_R 4 w n m (pq_bts K Z w gr n c k) g' := by
  intro k
  induction k with
  | zero =>
    intro N j B c g hj hN hB hW hR hs
    obtain ⟨N', rfl⟩ : ∃ N', N = N' + 1 := ⟨N - 1, by omega⟩
    refine ⟨g, ?_, hR⟩
    rw [pq_it_s]
    simp only []
    rw [B_X9_goBeats_2, show j = T by omega, if_pos (Int32.le_refl _)]
  | succ k ih =>
    intro N j B c g hj hN hB hW hR hs
    obtain ⟨N', rfl⟩ : ∃ N', N = N' + 1 := ⟨N - 1, by omega⟩
    obtain ⟨g1, e1, R1⟩ := pq_goBeat (pp := 38) (Or.inr rfl) hn hm hC hZ hW.1 hW.2.1 hW.2.2.1 (pq_Wb_B (by omega) hW) hR hs
    obtain ⟨g2, e2, R2⟩ := ih N' (j + 1) (B + 1) _ g1 (by omega) (by omega) (by omega) (pq_Wb_bt (K := K) (w := w) hn hZ hg hW) R1 (by rw [pq_bt_17 (by omega)]; exact hs)
    refine ⟨g2, ?_, R2⟩
    rw [pq_it_s]
    simp only []
    rw [B_X9_goBeats_2, if_neg (nI_ge (by omega) (by omega)), e1]
    simp only [Option.bind_some, zw_nm, nI_1]
    exact e2
theorem pq_goBeats {n m B : Nat} {K Z : Nat → Int32} {w gr : Int32} (hn : n ≤ 5) (hm : m ≤ 4) (hZ : ∀ b, b < m → pq_s9 (Z b)) (hg : pq_s9 gr) (h : zw_Hp) (hC : pq_C n m K Z w gr h) {sm : Int32} {T : Nat} (hT : T < 600) (hB : B < 2 ^ 29) {c g : pq_Pg} (hW : pq_Wb n m B c) (hR : pq_R 4 w n m c g) (hs : pq_msk n (c 21) sm) :
    ∃ g', M_X9_goBeats (nI T) sm (zw_upR h 38 g) = some (zw_upR h 38 g') ∧ pq_R 4 w n m (pq_bts K Z w gr n c T) g' := by
  unfold M_X9_goBeats L_X9_goBeats_2
  exact pq_gbsLoop hn hm hZ hg h hC hT T 600 0 B c g (by omega) hT (by omega) hW hR hs
