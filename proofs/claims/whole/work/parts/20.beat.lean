theorem pq_min99 (x : Int32) : (if x < 99 then x else 99) = if x ≤ 99 then x else 99 := by
  by_cases h1 : x < 99
  · rw [if_pos h1, if_pos (Int32.le_of_lt h1)]
  · rw [if_neg h1]
    by_cases h2 : x ≤ 99
    · rw [if_pos h2]
      exact (Int32.le_antisymm h2 (Int32.not_lt.mp h1)).symm
    · rw [if_neg h2]
theorem pq_R0_4 {w : Int32} {n m : Nat} (hm : m ≤ 4) {c g : pq_Pg} (h : pq_R0 4 n m c g) : pq_R 4 w n m c g := ⟨h.1, fun b hb => ⟨fun e => by omega, (h.2.1 b hb).2⟩, h.2.2⟩
theorem pq_bi_m9 {r : Nat} (hr : r ≤ 4) : pq_bi r = -9 ↔ r = 4 := by
  by_cases h : r < 4
  · rw [pq_bi_lt h]
    exact ⟨fun e => absurd e (pq_bi_ne h), fun e => by omega⟩
  · have : r = 4 := by omega
    subst this
    exact ⟨fun _ => rfl, fun _ => rfl⟩
section
variable {pp r : Nat} {w gr : Int32} {n m : Nat} {K Z : Nat → Int32} {h : zw_Hp} {sm : Int32}
theorem pq_mend (hpp : pp = 37 ∨ pp = 38) (hn : n ≤ 5) (hm : m ≤ 4) (hC : pq_C n m K Z w gr h) {c g : pq_Pg} (hR : pq_R 4 w n m c g) (x3 : Int32) :
    ∃ g', B_X9_goBeat_69 pp x3 (zw_upR h pp g) = some (pq_end gr c 19 - x3, zw_upR h pp g') ∧ pq_R 4 w n m (pq_end gr c) g' := by
  unfold B_X9_goBeat_69
  have e18 := hR.2.2 18 (by omega) (by omega)
  have e19 := hR.2.2 19 (by omega) (by omega)
  have e20 := hR.2.2 20 (by omega) (by omega)
  have o18 : zw_ok (18 : Int32) 21 = true := by decide
  have o19 : zw_ok (19 : Int32) 21 = true := by decide
  have o20 : zw_ok (20 : Int32) 21 = true := by decide
  have n18 : (18 : Int32).toNatClampNeg = 18 := rfl
  have n19 : (19 : Int32).toNatClampNeg = 19 := rfl
  have n20 : (20 : Int32).toNatClampNeg = 20 := rfl
  have h108 : ∀ v, B_X9_goBeat_108 pp x3 v (18 : Int32) (zw_upR h pp g) = some (c 19 - x3, zw_upR h pp (upd (upd g 18 v) 20 (c 20 + 1))) := by
    intro v
    unfold B_X9_goBeat_108
    simp only [o18, o19, o20, n18, n19, n20, if_true, zw_nm, pq_mu, pq_mp]
    rw [pq_upd_ne (i := 18) (j := 20) (by decide), pq_upd_ne (i := 20) (j := 19) (by decide), pq_upd_ne (i := 18) (j := 19) (by decide), e19, e20]
  have e19' : pq_end gr c 19 = c 19 := by
    unfold pq_end pq_gro
    rw [pq_upd_ne (by decide)]
    split
    · rfl
    · rw [pq_upd_ne (by decide)]
  rw [if_pos o18, n18, pq_mp, e18, e19', if_pos o18, pq_mo hpp h g (by decide), hC.2.2.2.1]
  by_cases h0 : c 18 = 0
  · rw [if_pos h0]
    unfold B_X9_goBeat_89
    rw [if_pos (by decide), h108]
    refine ⟨_, rfl, ?_⟩
    unfold pq_end pq_gro
    rw [if_pos h0]
    have := pq_R_hi (pq_R_hi hR hn hm (k := 18) (by omega) 0) hn hm (k := 20) (by omega) (c 20 + 1)
    have e : upd c 18 0 = c := by
      funext z
      by_cases q : z = 18
      · subst q; rw [pq_upd_eq, h0]
      · rw [pq_upd_ne q]
    rw [e] at this
    exact this
  · rw [if_neg h0]
    unfold B_X9_goBeat_89
    rw [h108, h108]
    have fin : ∀ v, v = (if c 18 + gr < 99 then c 18 + gr else 99) → pq_R 4 w n m (pq_end gr c) (upd (upd g 18 v) 20 (c 20 + 1)) := by
      intro v hv
      unfold pq_end pq_gro
      rw [if_neg h0, ← hv]
      have := pq_R_hi (pq_R_hi hR hn hm (k := 18) (by omega) v) hn hm (k := 20) (by omega) (c 20 + 1)
      rw [pq_upd_ne (c := c) (i := 18) (j := 20) (by decide)]
      exact this
    rw [pq_min99] at fin
    by_cases h1 : c 18 + gr ≤ 99
    · rw [if_pos h1]
      exact ⟨_, rfl, fin _ (by rw [if_pos h1])⟩
    · rw [if_neg h1]
      exact ⟨_, rfl, fin _ (by rw [if_neg h1])⟩
theorem pq_gbEnd (hpp : pp = 37 ∨ pp = 38) (hn : n ≤ 5) (hm : m ≤ 4) (hr : r ≤ 4) (hrm : r < 4 → r < m) (hC : pq_C n m K Z w gr h) (hZ : ∀ b, b < m → pq_s9 (Z b)) {c g : pq_Pg} (hW : pq_WW n c) (hP : pq_WP n m c) (hR : pq_R r w n m c g) (x3 x5 : Int32) (hx : x5 < 0) (k : (Int32 × Int32 × Int32 × Int32 × zw_Hp) → Option (Int32 × zw_Hp)) :
    ∃ g', B_X9_goBeat_21 pp k sm x3 (pq_bi r) x5 (zw_upR h pp g) = some (pq_end gr (pq_bk r (pq_lk (pq_fil K Z n c))) 19 - x3, zw_upR h pp g') ∧ pq_R 4 w n m (pq_end gr (pq_bk r (pq_lk (pq_fil K Z n c)))) g' := by
  unfold B_X9_goBeat_21
  obtain ⟨g1, e1, R1⟩ := pq_mfill hpp hn hm hC hZ hW hP hR
  have P1 := pq_WP_fil (K := K) hn hP hZ
  obtain ⟨g2, e2, R2⟩ := pq_mleak hpp hn hm hC P1 R1
  have P2 := pq_WP_lk P1
  obtain ⟨g3, e3, R3⟩ := pq_mback hpp hn hm hC P2 R2
  rw [if_pos hx, e1]
  simp only [Option.bind_some]
  rw [e2]
  simp only [Option.bind_some]
  rw [e3]
  simp only [Option.bind_some]
  by_cases q : r = 4
  · subst q
    rw [if_pos pq_bi_4]
    exact pq_mend hpp hn hm hC (pq_R0_4 hm R3) x3
  · rw [if_neg (fun e => q ((pq_bi_m9 hr).mp e)), pq_bi_lt (by omega), pq_msend hpp hC (by omega)]
    simp only [Option.bind_some]
    refine pq_mend hpp hn hm hC ?_ x3
    have hm' := hrm (by omega)
    obtain ⟨t1, t2, t3, -⟩ := (R2.2.1 r hm').1 rfl
    obtain ⟨b1, b2⟩ := pq_bkn_r t1 (by omega) 4 (by omega) (by omega)
    have b3 := pq_bkn_9 r (pq_lk (pq_fil K Z n c)) 4 r (by omega) (by omega)
    have eb : pq_bk r (pq_lk (pq_fil K Z n c)) = pq_bkn r (pq_lk (pq_fil K Z n c)) 4 := rfl
    rw [eb] at R3 ⊢
    obtain ⟨h1, h2, h3⟩ := R3
    refine ⟨fun s hs => ?_, fun b hb => ⟨fun e => by omega, fun _ => ?_⟩, fun z hz hz2 => ?_⟩
    · rw [pq_upd_ne (by omega), pq_upd_ne (by omega), pq_upd_ne (by omega)]; exact h1 s hs
    · by_cases z : b = r
      · subst z
        rw [b1, b2, b3, t2, t3]
        refine ⟨Or.inl ?_, ?_, ?_⟩
        · rw [pq_upd_eq]
        · rw [pq_upd_ne (by omega), pq_upd_ne (by omega), pq_upd_eq]
        · rw [pq_upd_ne (by omega), pq_upd_eq]
      · obtain ⟨a1, a2, a3⟩ := (h2 b hb).2 z
        refine ⟨?_, ?_, ?_⟩
        · rw [pq_upd_ne (by omega), pq_upd_ne (by omega), pq_upd_ne (by omega)]; exact a1
        · rw [pq_upd_ne (by omega), pq_upd_ne (by omega), pq_upd_ne (by omega)]; exact a2
        · rw [pq_upd_ne (by omega), pq_upd_ne (by omega), pq_upd_ne (by omega)]; exact a3
    · rw [pq_upd_ne (by omega), pq_upd_ne (by omega), pq_upd_ne (by omega)]; exact h3 z hz hz2
theorem pq_gbLoop (hpp : pp = 37 ∨ pp = 38) (hn : n ≤ 5) (hm : m ≤ 4) (hr : r ≤ 4) (hrm : r < 4 → r < m) (hC : pq_C n m K Z w gr h) (hZ : ∀ b, b < m → pq_s9 (Z b)) (x3 : Int32) : ∀ (k N : Nat) (c g : pq_Pg) (x5 : Int32), k < N → (k < n ∨ k = 0) → pq_WW n c → pq_WP n m c → pq_R r w n m c g → pq_msk n (c 21) sm → (∃ q, q < 2 ^ 31 ∧ c 20 = nI q) → (k = 0 → x5 < 0) → (0 < k → x5 = nI (k - 1)) →
    ∃ g', zw_it (fun (k21 : (Int32 × Int32 × Int32 × Int32 × zw_Hp) → Option (Int32 × zw_Hp)) (w : Int32 × Int32 × Int32 × Int32 × zw_Hp) => B_X9_goBeat_21 pp k21 (w.1) (w.2.1) (w.2.2.1) (w.2.2.2.1) (w.2.2.2.2)) N (sm, x3, pq_bi r, x5, zw_upR h pp g) =
      some (pq_end gr (pq_bk r (pq_lk (pq_fil K Z n (pq_hds K c k)))) 19 - x3, zw_upR h pp g') ∧ pq_R 4 w n m (pq_end gr (pq_bk r (pq_lk (pq_fil K Z n (pq_hds K c k))))) g' := by
  intro k
  induction k with
  | zero =>
    intro N c g x5 hN _ hW hP hR hs hB h0 _
    obtain ⟨N', rfl⟩ : ∃ N', N = N' + 1 := ⟨N - 1, by omega⟩
    rw [pq_it_s]
    exact pq_gbEnd hpp hn hm hr hrm hC hZ hW hP hR x3 x5 (h0 rfl) _
  | succ k ih =>
    intro N c g x5 hN hk hW hP hR hs hB _ h1
    obtain ⟨N', rfl⟩ : ∃ N', N = N' + 1 := ⟨N - 1, by omega⟩
    have e5 : x5 = nI k := h1 (by omega)
    obtain ⟨g1, e1, R1⟩ := pq_mhand (s := k) hpp hn hm hC hW hP hR hs hB (by omega)
    rw [pq_it_s]
    simp only []
    rw [B_X9_goBeat_21, e5, if_neg (nI_pos (by omega)), e1]
    simp only [Option.bind_some, zw_nm]
    exact ih N' (pq_hnd K c k) g1 (nI k + -1) (by omega) (by omega) (hW.of (fun s hs => pq_hnd_lo hs)) (pq_WP_hnd hn hP (by omega)) R1 (by rw [pq_hnd_hi (by omega)]; exact hs) (by rw [pq_hnd_hi (by omega)]; exact hB) (fun e => by rw [e]; decide) (fun e => by
      have := pk_m1 (k - 1)
      rw [show k - 1 + 1 = k by omega] at this
      exact this)
theorem pq_thr_m {c : pq_Pg} (hn : n ≤ 5) (hP : pq_WP n m c) : (pq_thr K w n c).1 < 4 → (pq_thr K w n c).1 < m := by
  unfold pq_thr
  by_cases h0 : n = 0
  · rw [if_pos h0]; intro h; exact absurd h (Nat.lt_irrefl 4)
  · rw [if_neg h0]
    by_cases h1 : pq_lb c (nI (n - 1)) = 4
    · rw [if_pos h1]; intro h; exact absurd h (Nat.lt_irrefl 4)
    · rw [if_neg h1]
      split
      · intro h; exact absurd h (Nat.lt_irrefl 4)
      · intro h
        exact pq_lt_m hn hP h (by rw [pq_lb_at h1]; exact pq_nI_ne10 (by omega))
/-- A BEAT of the model's page is that of the class's -/
theorem pq_goBeat (hpp : pp = 37 ∨ pp = 38) (hn : n ≤ 5) (hm : m ≤ 4) (hC : pq_C n m K Z w gr h) (hZ : ∀ b, b < m → pq_s9 (Z b)) {c g : pq_Pg} (hW : pq_WW n c) (hP : pq_WP n m c) (hF : pq_WF m c) (hB : ∃ q, q < 2 ^ 31 ∧ c 20 = nI q) (hR : pq_R 4 w n m c g) (hs : pq_msk n (c 21) sm) :
    ∃ g', M_X9_goBeat pp sm (zw_upR h pp g) = some (pq_bt K Z w gr n c 19 - c 19, zw_upR h pp g') ∧ pq_R 4 w n m (pq_bt K Z w gr n c) g' := by
  unfold M_X9_goBeat
  obtain ⟨g1, e1, R1⟩ := pq_throwsIt hpp hn hm hC hW hP hF hR hs hB
  rw [if_pos (show zw_ok (19 : Int32) 21 = true by decide), pq_mp, e1]
  simp only [zw_nm, Option.bind_some]
  rw [pq_mo hpp h g1 (by decide), hC.1, show (19 : Int32).toNatClampNeg = 19 from rfl, hR.2.2 19 (by omega) (by omega)]
  unfold L_X9_goBeat_21 pq_bt
  refine pq_gbLoop hpp hn hm (pq_thr_le _ _ _ _) (pq_thr_m hn hP) hC hZ (c 19) (n - 1) 600 _ g1 _ (by omega) (by omega) (hW.of (fun s hs => pq_thr_lo hs)) (pq_WP_thr hn hP) R1 (by rw [pq_thr_17 (by omega)]; exact hs) (by rw [pq_thr_17 (by omega)]; exact hB) (fun e => ?_) (fun e => ?_)
  · rcases (show n = 0 ∨ n = 1 by omega) with rfl | rfl <;> decide
  · rw [pq_m2 (by omega)]
    congr 1
end
