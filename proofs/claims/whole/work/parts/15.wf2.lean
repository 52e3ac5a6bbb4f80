theorem pq_WP_lk {n m : Nat} {c : pq_Pg} (h : pq_WP n m c) : pq_WP n m (pq_lk c) := pq_WP_lk1 (pq_WP_lk1 (pq_WP_lk1 (pq_WP_lk1 h (by decide)) (by decide)) (by decide)) (by decide)
theorem pq_WP_bk {r n m : Nat} (hn : n ≤ 5) {c : pq_Pg} (h : pq_WP n m c) : pq_WP n m (pq_bk r c) := pq_WP_bk1 hn (pq_WP_bk1 hn (pq_WP_bk1 hn (pq_WP_bk1 hn h (by decide)) (by decide)) (by decide)) (by decide)
theorem pq_WP_end {gr : Int32} {n m : Nat} {c : pq_Pg} (h : pq_WP n m c) : pq_WP n m (pq_end gr c) := by
  unfold pq_end pq_gro
  refine pq_WP_off ?_ (by omega) _
  split
  · exact h
  · exact pq_WP_off h (by omega) _
theorem pq_WP_bt {K Z : Nat → Int32} {w gr : Int32} {n m : Nat} (hn : n ≤ 5) {c : pq_Pg} (h : pq_WP n m c) (hZ : ∀ b, b < m → pq_s9 (Z b)) : pq_WP n m (pq_bt K Z w gr n c) :=
  pq_WP_end (pq_WP_bk hn (pq_WP_lk (pq_WP_fil hn (pq_WP_hds hn _ (pq_WP_thr hn h) (by omega)) hZ)))
/-- what the parts of a beat leave as it is -/
theorem pq_send_hi {w : Int32} {c : pq_Pg} {b k : Nat} (hb : b < 4) (hk : 17 ≤ k) : pq_send w c b k = c k := by
  unfold pq_send
  rw [pq_upd_ne (by omega), pq_upd_ne (by omega), pq_upd_ne (by omega)]
theorem pq_giv_hi {K : Nat → Int32} {c : pq_Pg} {b a k : Nat} {ld : Int32} (hb : b < 4) (hk : 13 ≤ k) : pq_giv K c b a ld k = c k := by
  unfold pq_giv
  rw [pq_upd_ne (by omega), pq_upd_ne (by omega)]
theorem pq_hnd_hi {K : Nat → Int32} {c : pq_Pg} {a k : Nat} (hk : 13 ≤ k) : pq_hnd K c a k = c k := by
  unfold pq_hnd
  by_cases h1 : pq_lb c (nI a) = 4
  · rw [if_pos h1]
  · rw [if_neg h1]
    repeat' split
    all_goals first | rfl | exact pq_giv_hi (pq_lb_lt h1) hk
theorem pq_hds_hi {K : Nat → Int32} : ∀ (j : Nat) {c : pq_Pg} {k : Nat}, 13 ≤ k → pq_hds K c j k = c k := by
  intro j
  induction j with
  | zero => intro c k _; rfl
  | succ j ih =>
    intro c k hk
    show pq_hds K (pq_hnd K c j) j k = c k
    rw [ih hk, pq_hnd_hi hk]
theorem pq_fil_hi {K Z : Nat → Int32} {n : Nat} {c : pq_Pg} {k : Nat} (hk : 13 ≤ k) : pq_fil K Z n c k = c k := by
  unfold pq_fil
  by_cases h0 : n = 0
  · rw [if_pos h0]
  · rw [if_neg h0]
    by_cases h1 : pq_lb c 0 = 4
    · rw [if_pos h1]
      by_cases h2 : pq_lb c 8 = 4
      · rw [if_pos h2]
      · rw [if_neg h2]; exact pq_giv_hi (pq_lb_lt h2) hk
    · rw [if_neg h1]
theorem pq_lk1_hi {c : pq_Pg} {b k : Nat} (hb : b < 4) (hk : 13 ≤ k) : pq_lk1 c b k = c k := by
  unfold pq_lk1
  repeat' split
  all_goals first | rfl | exact pq_upd_ne (by omega)
theorem pq_bk1_hi {r : Nat} {c : pq_Pg} {b k : Nat} (hb : b < 4) (hk : 17 ≤ k) : pq_bk1 r c b k = c k := by
  unfold pq_bk1
  split
  · rw [pq_upd_ne (by omega), pq_upd_ne (by omega)]
  · rfl
theorem pq_lk_hi {c : pq_Pg} {k : Nat} (hk : 13 ≤ k) : pq_lk c k = c k := by
  unfold pq_lk
  rw [pq_lk1_hi (by decide) hk, pq_lk1_hi (by decide) hk, pq_lk1_hi (by decide) hk, pq_lk1_hi (by decide) hk]
theorem pq_bk_hi {r : Nat} {c : pq_Pg} {k : Nat} (hk : 17 ≤ k) : pq_bk r c k = c k := by
  unfold pq_bk
  rw [pq_bk1_hi (by decide) hk, pq_bk1_hi (by decide) hk, pq_bk1_hi (by decide) hk, pq_bk1_hi (by decide) hk]
theorem pq_lk_lo {c : pq_Pg} {k : Nat} (hk : k < 5) : pq_lk c k = c k := by
  unfold pq_lk
  rw [pq_lk1_lo hk, pq_lk1_lo hk, pq_lk1_lo hk, pq_lk1_lo hk]
theorem pq_bk_lo {r : Nat} {c : pq_Pg} {k : Nat} (hk : k < 5) : pq_bk r c k = c k := by
  unfold pq_bk
  rw [pq_bk1_lo hk, pq_bk1_lo hk, pq_bk1_lo hk, pq_bk1_lo hk]
theorem pq_end_lo {gr : Int32} {c : pq_Pg} {k : Nat} (hk : k < 17) : pq_end gr c k = c k := by
  unfold pq_end pq_gro
  rw [pq_upd_ne (by omega)]
  split
  · rfl
  · exact pq_upd_ne (by omega)
theorem pq_bt_lo {K Z : Nat → Int32} {w gr : Int32} {n : Nat} {c : pq_Pg} {k : Nat} (hk : k < 5) : pq_bt K Z w gr n c k = c k := by
  unfold pq_bt
  rw [pq_end_lo (by omega), pq_bk_lo hk, pq_lk_lo hk, pq_fil_lo hk, pq_hds_lo _ hk, pq_thr_lo hk]
/-- 17: holes, 21: who rests; 18, 19, 20 as they are thrown, grow, pass -/
theorem pq_thr_17 {K : Nat → Int32} {w : Int32} {n : Nat} {c : pq_Pg} {k : Nat} (hk : k = 17 ∨ k = 20 ∨ k = 21) : (pq_thr K w n c).2 k = c k := by
  unfold pq_thr
  by_cases h0 : n = 0
  · rw [if_pos h0]
  · rw [if_neg h0]
    by_cases h1 : pq_lb c (nI (n - 1)) = 4
    · rw [if_pos h1]
    · rw [if_neg h1]
      split
      · rfl
      · show pq_send _ _ _ k = _
        rw [pq_send_hi (pq_lb_lt h1) (by omega), pq_upd_ne (by omega), pq_upd_ne (by omega)]
theorem pq_bt_17 {K Z : Nat → Int32} {w gr : Int32} {n : Nat} {c : pq_Pg} {k : Nat} (hk : k = 17 ∨ k = 21) : pq_bt K Z w gr n c k = c k := by
  unfold pq_bt pq_end pq_gro
  rw [pq_upd_ne (by omega)]
  split
  · rw [pq_bk_hi (by omega), pq_lk_hi (by omega), pq_fil_hi (by omega), pq_hds_hi _ (by omega), pq_thr_17 (by omega)]
  · rw [pq_upd_ne (by omega), pq_bk_hi (by omega), pq_lk_hi (by omega), pq_fil_hi (by omega), pq_hds_hi _ (by omega), pq_thr_17 (by omega)]
theorem pq_bt_20 {K Z : Nat → Int32} {w gr : Int32} {n : Nat} {c : pq_Pg} : pq_bt K Z w gr n c 20 = c 20 + 1 := by
  unfold pq_bt pq_end pq_gro
  rw [pq_upd_eq]
  split
  · rw [pq_bk_hi (by omega), pq_lk_hi (by omega), pq_fil_hi (by omega), pq_hds_hi _ (by omega), pq_thr_17 (by omega)]
  · rw [pq_upd_ne (by omega), pq_bk_hi (by omega), pq_lk_hi (by omega), pq_fil_hi (by omega), pq_hds_hi _ (by omega), pq_thr_17 (by omega)]
theorem pq_bt_19 {K Z : Nat → Int32} {w gr : Int32} {n : Nat} {c : pq_Pg} : pq_bt K Z w gr n c 19 = (pq_thr K w n c).2 19 := by
  unfold pq_bt pq_end pq_gro
  rw [pq_upd_ne (by omega)]
  split
  · rw [pq_bk_hi (by omega), pq_lk_hi (by omega), pq_fil_hi (by omega), pq_hds_hi _ (by omega)]
  · rw [pq_upd_ne (by omega), pq_bk_hi (by omega), pq_lk_hi (by omega), pq_fil_hi (by omega), pq_hds_hi _ (by omega)]
theorem pq_thr_19 {K : Nat → Int32} {w : Int32} {n m : Nat} {c : pq_Pg} (h : pq_WP n m c) : ∃ q, q ≤ 9 ∧ (pq_thr K w n c).2 19 = c 19 + nI q := by
  unfold pq_thr
  by_cases h0 : n = 0
  · rw [if_pos h0]; exact ⟨0, by omega, by rw [nI_0, Int32.add_zero]⟩
  · rw [if_neg h0]
    by_cases h1 : pq_lb c (nI (n - 1)) = 4
    · rw [if_pos h1]; exact ⟨0, by omega, by rw [nI_0, Int32.add_zero]⟩
    · rw [if_neg h1]
      split
      · exact ⟨0, by omega, by rw [nI_0, Int32.add_zero]⟩
      · obtain ⟨q, h2, h3⟩ := h.2.2.2 _ (pq_lb_lt h1)
        refine ⟨q, h2, ?_⟩
        show pq_send _ _ _ 19 = _
        rw [pq_send_hi (pq_lb_lt h1) (by omega), pq_upd_eq, h3]
theorem pq_WN_bt {K Z : Nat → Int32} {w gr : Int32} {n m B : Nat} {c : pq_Pg} (h : pq_WP n m c) (hN : pq_WN B c) : pq_WN (B + 1) (pq_bt K Z w gr n c) := by
  obtain ⟨⟨q, h1, h2⟩, ⟨q2, h3, h4⟩⟩ := hN
  obtain ⟨d, h5, h6⟩ := pq_thr_19 (K := K) (w := w) h
  refine ⟨⟨q + d, by omega, ?_⟩, ⟨q2 + 1, by omega, ?_⟩⟩
  · rw [pq_bt_19, h6, h2, nI_add]
  · rw [pq_bt_20, h4, nI_1]
theorem pq_WN_le {B B' : Nat} (hB : B ≤ B') {c : pq_Pg} (h : pq_WN B c) : pq_WN B' c := by
  obtain ⟨⟨q, h1, h2⟩, ⟨q2, h3, h4⟩⟩ := h
  exact ⟨⟨q, by omega, h2⟩, ⟨q2, by omega, h4⟩⟩
theorem pq_fire_sub {f q : Nat} (hf : f ≤ 99) (hq : q ≤ 9) : pq_mx (nI f - nI q) = nI (f - q) := by
  unfold pq_mx
  rcases Nat.lt_or_ge q f with h | h
  · rw [pk_sub (by omega), if_pos (show (0 : Int32) < nI (f - q) from nI_lt (a := 0) (by omega) (by omega))]
  · have e : (nI f - nI q).toInt = (f : Int) - q := pk_sub_toInt (by omega) (by omega)
    rw [if_neg, show f - q = 0 by omega]
    · rfl
    · intro hh
      have := Int32.lt_iff_toInt_lt.mp hh
      rw [e] at this
      simp at this
      omega
theorem pq_thr_18 {K : Nat → Int32} {w : Int32} {n m : Nat} {c : pq_Pg} (h : pq_WP n m c) (hf : ∃ f, f ≤ 99 ∧ c 18 = nI f) : ∃ f, f ≤ 99 ∧ (pq_thr K w n c).2 18 = nI f := by
  unfold pq_thr
  by_cases h0 : n = 0
  · rw [if_pos h0]; exact hf
  · rw [if_neg h0]
    by_cases h1 : pq_lb c (nI (n - 1)) = 4
    · rw [if_pos h1]; exact hf
    · rw [if_neg h1]
      split
      · exact hf
      · obtain ⟨q, h2, h3⟩ := h.2.2.2 _ (pq_lb_lt h1)
        obtain ⟨f, h4, h5⟩ := hf
        refine ⟨f - q, by omega, ?_⟩
        show pq_send _ _ _ 18 = _
        rw [pq_send_hi (pq_lb_lt h1) (by omega), pq_upd_ne (by omega), pq_upd_eq, h3, h5, pq_fire_sub h4 h2]
theorem pq_gro_18 {gr : Int32} {c : pq_Pg} (hg : pq_s9 gr) (hf : ∃ f, f ≤ 99 ∧ c 18 = nI f) : ∃ f, f ≤ 99 ∧ pq_gro gr c 18 = nI f := by
  obtain ⟨g, hg1, rfl⟩ := hg
  obtain ⟨f, h1, h2⟩ := hf
  unfold pq_gro
  split
  · exact ⟨f, h1, h2⟩
  · rw [pq_upd_eq, h2, nI_add]
    split
    · rename_i h3
      exact ⟨f + g, by have := (nI_ltI (a := f + g) (b := 99) (by omega) (by decide)).mp h3; omega, rfl⟩
    · exact ⟨99, by omega, rfl⟩
theorem pq_WF_bt {K Z : Nat → Int32} {w gr : Int32} {n m : Nat} {c : pq_Pg} (h : pq_WP n m c) (hF : pq_WF m c) (hg : pq_s9 gr) : pq_WF m (pq_bt K Z w gr n c) := by
  refine ⟨?_, ?_⟩
  · rw [pq_bt_17 (by omega)]; exact hF.1
  · unfold pq_bt pq_end
    rw [pq_upd_ne (by omega)]
    refine pq_gro_18 hg ?_
    rw [pq_bk_hi (by omega), pq_lk_hi (by omega), pq_fil_hi (by omega), pq_hds_hi _ (by omega)]
    exact pq_thr_18 h hF.2
theorem pq_WW_bt {K Z : Nat → Int32} {w gr : Int32} {n : Nat} {c : pq_Pg} (h : pq_WW n c) : pq_WW n (pq_bt K Z w gr n c) := h.of (fun s hs => pq_bt_lo hs)
