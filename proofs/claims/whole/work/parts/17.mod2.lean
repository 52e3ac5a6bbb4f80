theorem pq_R_hi {r : Nat} {w : Int32} {n m : Nat} {c g : pq_Pg} (hR : pq_R r w n m c g) (hn : n ≤ 5) (hm : m ≤ 4) {k : Nat} (hk : 17 ≤ k) (v : Int32) : pq_R r w n m (upd c k v) (upd g k v) := by
  obtain ⟨h1, h2, h3⟩ := hR
  refine ⟨fun s hs => ?_, fun b hb => ⟨fun e => ?_, fun e => ?_⟩, fun j hj hj2 => ?_⟩
  · rw [pq_upd_ne (by omega), pq_upd_ne (by omega)]; exact h1 s hs
  · rw [pq_upd_ne (by omega), pq_upd_ne (by omega), pq_upd_ne (by omega), pq_upd_ne (by omega)]; exact (h2 b hb).1 e
  · rw [pq_upd_ne (by omega), pq_upd_ne (by omega), pq_upd_ne (by omega), pq_upd_ne (by omega), pq_upd_ne (by omega), pq_upd_ne (by omega)]; exact (h2 b hb).2 e
  · by_cases q : j = k
    · subst q; rw [pq_upd_eq, pq_upd_eq]
    · rw [pq_upd_ne q, pq_upd_ne q]; exact h3 j hj hj2
theorem pq_R_move {r : Nat} {w : Int32} {n m : Nat} {c g : pq_Pg} (hR : pq_R r w n m c g) (hn : n ≤ 5) (hm : m ≤ 4) {b : Nat} (hb : b < m) (hbr : b ≠ r) (v u : Int32) : pq_R r w n m (upd (upd c (b + 5) v) (b + 9) u) (upd (upd g (b + 9) u) (b + 5) v) := by
  obtain ⟨h1, h2, h3⟩ := hR
  refine ⟨fun s hs => ?_, fun a ha => ⟨fun e => ?_, fun e => ?_⟩, fun j hj hj2 => ?_⟩
  · rw [pq_upd_ne (by omega), pq_upd_ne (by omega), pq_upd_ne (by omega), pq_upd_ne (by omega)]; exact h1 s hs
  · rw [pq_upd_ne (by omega), pq_upd_ne (by omega), pq_upd_ne (by omega), pq_upd_ne (by omega), pq_upd_ne (by omega), pq_upd_ne (by omega), pq_upd_ne (by omega), pq_upd_ne (by omega)]; exact (h2 a ha).1 e
  · by_cases q : a = b
    · subst q
      refine ⟨Or.inl ?_, ?_, ?_⟩
      · rw [pq_upd_eq, pq_upd_ne (by omega), pq_upd_eq]
      · rw [pq_upd_ne (by omega), pq_upd_eq, pq_upd_eq]
      · rw [pq_upd_ne (by omega), pq_upd_ne (by omega), pq_upd_ne (by omega), pq_upd_ne (by omega)]; exact ((h2 a ha).2 e).2.2
    · obtain ⟨g1, g2, g3⟩ := (h2 a ha).2 e
      refine ⟨?_, ?_, ?_⟩
      · rw [pq_upd_ne (by omega), pq_upd_ne (by omega), pq_upd_ne (by omega), pq_upd_ne (by omega)]; exact g1
      · rw [pq_upd_ne (by omega), pq_upd_ne (by omega), pq_upd_ne (by omega), pq_upd_ne (by omega)]; exact g2
      · rw [pq_upd_ne (by omega), pq_upd_ne (by omega), pq_upd_ne (by omega), pq_upd_ne (by omega)]; exact g3
  · rw [pq_upd_ne (by omega), pq_upd_ne (by omega), pq_upd_ne (by omega), pq_upd_ne (by omega)]; exact h3 j hj hj2
/-- the thrown one becomes one -/
theorem pq_R_thr {w : Int32} {n m : Nat} {c g : pq_Pg} (hR : pq_R 4 w n m c g) (hn : n ≤ 5) (hm : m ≤ 4) {b : Nat} (hb : b < m) : pq_R b w n m (pq_send w c b) (upd g (b + 5) 7) := by
  obtain ⟨h1, h2, h3⟩ := hR
  refine ⟨fun s hs => ?_, fun a ha => ⟨fun e => ?_, fun e => ?_⟩, fun j hj hj2 => ?_⟩
  · rw [pq_upd_ne (by omega), pq_send_lo (by omega)]; exact h1 s hs
  · subst e
    unfold pq_send
    refine ⟨?_, ?_, ?_, pq_upd_eq⟩
    · rw [pq_upd_ne (by omega), pq_upd_ne (by omega), pq_upd_eq]
    · rw [pq_upd_ne (by omega), pq_upd_eq]
    · rw [pq_upd_eq]
  · obtain ⟨g1, g2, g3⟩ := (h2 a ha).2 (by omega)
    unfold pq_send
    refine ⟨?_, ?_, ?_⟩
    · rw [pq_upd_ne (by omega), pq_upd_ne (by omega), pq_upd_ne (by omega), pq_upd_ne (by omega)]; exact g1
    · rw [pq_upd_ne (by omega), pq_upd_ne (by omega), pq_upd_ne (by omega), pq_upd_ne (by omega)]; exact g2
    · rw [pq_upd_ne (by omega), pq_upd_ne (by omega), pq_upd_ne (by omega), pq_upd_ne (by omega)]; exact g3
  · rw [pq_upd_ne (by omega), pq_send_hi (by omega) (by omega)]; exact h3 j hj hj2
theorem pq_lb_at2 {c : pq_Pg} {v : Int32} {b : Nat} (hb : pq_lb c v = b) (h4 : ¬ b = 4) : c (b + 5) = v := by
  subst hb
  exact pq_lb_at h4
theorem pq_n9 : ¬ (nI 0 = -9) := by decide
theorem pq_bi_ne {b : Nat} (hb : b < 4) : ¬ (nI b = -9) := fun e => absurd (e ▸ (by decide : (-9 : Int32) < 0)) (nI_pos (by omega))
section
variable {pp r : Nat} {w gr : Int32} {n m : Nat} {K Z : Nat → Int32} {h : zw_Hp} {c g : pq_Pg} {sm : Int32}
theorem pq_throwsIt (hpp : pp = 37 ∨ pp = 38) (hn : n ≤ 5) (hm : m ≤ 4) (hC : pq_C n m K Z w gr h) (hW : pq_WW n c) (hP : pq_WP n m c) (hF : pq_WF m c) (hR : pq_R 4 w n m c g) (hsm : pq_msk n (c 21) sm) (hB : ∃ q, q < 2 ^ 31 ∧ c 20 = nI q) :
    ∃ g', M_X9_throwsIt pp sm (zw_upR h pp g) = some (pq_bi (pq_thr K w n c).1, zw_upR h pp g') ∧ pq_R (pq_thr K w n c).1 w n m (pq_thr K w n c).2 g' := by
  unfold M_X9_throwsIt pq_thr
  rw [pq_mo hpp h g (by decide), hC.1]
  by_cases h0 : n = 0
  · subst h0
    rw [if_pos rfl, if_pos (show nI 0 = 0 from rfl)]
    exact ⟨g, rfl, hR⟩
  · rw [if_neg h0, if_neg (nI_ne0 (by omega) (by omega))]
    have e1 : nI n - 1 = nI (n - 1) := by
      obtain ⟨k, rfl⟩ : ∃ k, n = k + 1 := ⟨n - 1, by omega⟩
      exact nI_pred k
    rw [e1, pq_heldAt hpp hm h g hC.2.1, pq_hf_lb hn hm hP hR (by omega)]
    simp only [Option.bind_some]
    generalize hb : pq_lb c (nI (n - 1)) = b
    by_cases h4 : b = 4
    · subst h4
      rw [if_pos rfl]
      exact ⟨g, rfl, hR⟩
    · have hb4 : b < 4 := by
        have := pq_lb_le c (nI (n - 1))
        omega
      have hbm : b < m := by
        refine pq_lt_m hn hP hb4 ?_
        rw [pq_lb_at2 hb h4]
        exact pq_nI_ne10 (by omega)
      rw [if_neg h4, pq_bi_lt hb4]
      unfold B_X9_throwsIt_23
      rw [if_neg (pq_bi_ne hb4), pq_mo hpp h g (by decide), hC.1, e1, pq_works hpp hn hC hW hR hsm hB (show n - 1 < n by omega)]
      by_cases hk : pq_wk K c (n - 1) = true
      · rw [hk]
        simp only [if_true, Option.bind_some, Bool.true_eq_false, if_false, zw_nm]
        have g9 := ((hR.2.1 b hbm).2 (by omega)).2.1
        obtain ⟨q, q1, q2⟩ := hP.2.2.2 b hb4
        obtain ⟨f, f1, f2⟩ := hF.2
        have e18 : g 18 = c 18 := hR.2.2 18 (by omega) (by omega)
        have e19 : g 19 = c 19 := hR.2.2 19 (by omega) (by omega)
        have hmx : pq_mx (c 18 - c (b + 9)) = if c 18 ≤ c (b + 9) then 0 else c 18 - c (b + 9) := by
          rw [f2, q2, pq_fire_sub f1 q1]
          rcases Nat.lt_or_ge q f with z | z
          · rw [if_neg (nI_ge z (by omega)), pk_sub (by omega)]
          · rw [if_pos (nI_le z (by omega)), show f - q = 0 by omega]; rfl
        rw [if_neg pq_10, if_pos (pq_a9 hb4).2, (pq_a9 hb4).1, pq_mp, g9, if_pos (show zw_ok (18 : Int32) 21 = true by decide), if_pos (show zw_ok (18 : Int32) 21 = true by decide), show (18 : Int32).toNatClampNeg = 18 from rfl, e18, hmx, pq_bi_lt hb4]
        refine ⟨upd (upd (upd g 18 (if c 18 ≤ c (b + 9) then 0 else c 18 - c (b + 9))) 19 (c 19 + c (b + 9))) (b + 5) 7, ?_, ?_⟩
        · simp only [B_X9_throwsIt_79, zw_nm]
          simp only [if_pos (show zw_ok (18 : Int32) 21 = true by decide), if_pos (show zw_ok (19 : Int32) 21 = true by decide), if_pos (pq_a5 hb4).2, (pq_a5 hb4).1, show (18 : Int32).toNatClampNeg = 18 from rfl, show (19 : Int32).toNatClampNeg = 19 from rfl, pq_mu, pq_mp, pq_upd_ne (c := g) (i := 18) (j := 19) (by decide), e19]
          split <;> rfl
        · have hR1 := pq_R_hi (pq_R_hi hR hn hm (k := 18) (by omega) (if c 18 ≤ c (b + 9) then 0 else c 18 - c (b + 9))) hn hm (k := 19) (by omega) (c 19 + c (b + 9))
          exact pq_R_thr hR1 hn hm hbm
      · rw [Bool.not_eq_true] at hk
        rw [hk]
        exact ⟨g, rfl, hR⟩
theorem pq_mhand (hpp : pp = 37 ∨ pp = 38) (hn : n ≤ 5) (hm : m ≤ 4) (hC : pq_C n m K Z w gr h) (hW : pq_WW n c) (hP : pq_WP n m c) (hR : pq_R r w n m c g) (hsm : pq_msk n (c 21) sm) (hB : ∃ q, q < 2 ^ 31 ∧ c 20 = nI q) {s : Nat} (hs : s + 1 < n) :
    ∃ g', M_X9_handOn pp (nI s) sm (zw_upR h pp g) = some (zw_upR h pp g') ∧ pq_R r w n m (pq_hnd K c s) g' := by
  unfold M_X9_handOn pq_hnd
  rw [pq_heldAt hpp hm h g hC.2.1, pq_hf_lb hn hm hP hR (by omega)]
  simp only [Option.bind_some]
  generalize hb : pq_lb c (nI s) = b
  by_cases h4 : b = 4
  · subst h4
    rw [if_pos rfl]
    exact ⟨g, rfl, hR⟩
  · have hb4 : b < 4 := by
      have := pq_lb_le c (nI s)
      omega
    have hbs : c (b + 5) = nI s := pq_lb_at2 hb h4
    have hbm : b < m := pq_lt_m hn hP hb4 (by rw [hbs]; exact pq_nI_ne10 (by omega))
    have hbr : b ≠ r := fun e => by
      have := ((hR.2.1 b hbm).1 e).1
      rw [hbs] at this
      have := (nI_eq (a := s) (b := 9) (by omega) (by decide)).mp this
      omega
    rw [if_neg h4, pq_bi_lt hb4, if_neg (pq_bi_ne hb4), nI_1, pq_heldAt hpp hm h g hC.2.1, pq_hf_lb hn hm hP hR (by omega)]
    simp only [Option.bind_some]
    generalize hb2 : pq_lb c (nI (s + 1)) = b2
    by_cases h42 : b2 = 4
    · subst h42
      rw [pq_bi_4, if_pos rfl, if_pos rfl, pq_works hpp hn hC hW hR hsm hB (show s < n by omega)]
      by_cases hk : pq_wk K c s = true
      · rw [hk]
        simp only [if_true, Option.bind_some, Bool.true_eq_false, if_false, zw_nm]
        have g9 := ((hR.2.1 b hbm).2 hbr).2.1
        have hs9 := hP.2.2.2 b hb4
        obtain ⟨σ, s1, s2, s3⟩ := id hW
        have es := (s1 s (by omega)).1
        have hw := s3 s (by omega)
        have hkd : K (σ s) = pq_kd K c s := by unfold pq_kd; rw [es, nI_clamp (by omega)]
        rw [if_neg pq_10, if_pos (pq_a9 hb4).2, (pq_a9 hb4).1, if_pos (pq_ok_nI (by omega) (by decide)), nI_clamp (show s < 2 ^ 31 by omega), pq_mp, g9, hR.1 s (by omega), es, if_pos (pq_ok_nI (by omega) (by decide)), nI_clamp (show σ s < 2 ^ 31 by omega), pq_mo hpp h g (by decide), hC.2.2.2.2.1 _ hw, hkd]
        have hmx := (pq_mx_s9 hs9 (d := if pq_kd K c s = 1 then 1 else 0) (by split <;> simp))
        obtain ⟨hms, hmx⟩ := hmx
        have hmn := (pq_mn2_s9 hms).2
        refine ⟨upd (upd g (b + 9) (if pq_kd K c (s + 1) = 3 then pq_mn2 (pq_mx (c (b + 9) - (if pq_kd K c s = 1 then 1 else 0))) else pq_mx (c (b + 9) - (if pq_kd K c s = 1 then 1 else 0)))) (b + 5) (nI (s + 1)), ?_, pq_R_move hR hn hm hbm hbr _ _⟩
        have fin : ∀ L : Int32, L = pq_mx (c (b + 9) - (if pq_kd K c s = 1 then 1 else 0)) → ((M_X9_isChild pp (nI s + 1) (zw_upR h pp g)).bind (fun z19 => if z19 = 0 then (B_X9_handOn_102 pp (nI s) (nI b) L ((9 : Int32) + nI b) (zw_upR h pp g)) else (if L ≤ (2 : Int32) then (B_X9_handOn_102 pp (nI s) (nI b) L ((9 : Int32) + nI b) (zw_upR h pp g)) else (B_X9_handOn_104 pp (nI s) (nI b) (2 : Int32) ((9 : Int32) + nI b) (zw_upR h pp g)))) : Option zw_Hp) = some (zw_upR h pp (upd (upd g (b + 9) (if pq_kd K c (s + 1) = 3 then pq_mn2 (pq_mx (c (b + 9) - (if pq_kd K c s = 1 then 1 else 0))) else pq_mx (c (b + 9) - (if pq_kd K c s = 1 then 1 else 0)))) (b + 5) (nI (s + 1)))) := by
          intro L hL
          rw [← hL] at hmn ⊢
          rw [nI_1, pq_isChild (r := r) hpp hn hC hW hR.1 (show s + 1 < n by omega)]
          simp only [Option.bind_some, B_X9_handOn_102, B_X9_handOn_104, zw_nm, (pq_a9 hb4).1, (pq_a9 hb4).2, (pq_a5 hb4).1, (pq_a5 hb4).2, if_true, pq_mu, nI_1]
          rw [hmn]
          by_cases k3 : pq_kd K c (s + 1) = 3
          · rw [if_pos k3, if_pos k3, if_neg pq_10]
            split <;> rfl
          · rw [if_neg k3, if_neg k3, if_pos rfl]
        by_cases k1 : pq_kd K c s = 1
        · rw [if_pos k1]
          rw [if_pos k1] at hmx fin
          by_cases k2 : c (b + 9) ≤ 0
          · rw [if_pos k2]
            simp only [B_X9_handOn_71, B_X9_handOn_72, zw_nm]
            rw [if_neg (fun q => q.2 k2)] at hmx
            rw [if_pos k1]
            exact fin _ (by rw [hmx, Int32.sub_zero])
          · rw [if_neg k2]
            simp only [B_X9_handOn_72, zw_nm]
            rw [if_pos ⟨rfl, k2⟩] at hmx
            rw [if_pos k1]
            exact fin _ (by rw [hmx])
        · rw [if_neg k1]
          rw [if_neg k1] at hmx fin
          simp only [B_X9_handOn_71, B_X9_handOn_72, zw_nm]
          rw [if_neg (fun q => absurd q.1 (by decide))] at hmx
          rw [if_neg k1]
          exact fin _ (by rw [hmx, Int32.sub_zero])
      · rw [Bool.not_eq_true] at hk
        rw [hk]
        exact ⟨g, rfl, hR⟩
    · have hb24 : b2 < 4 := by
        have := pq_lb_le c (nI (s + 1))
        omega
      rw [pq_bi_lt hb24, if_neg (pq_bi_ne hb24), if_neg h42]
      split
      · exact ⟨g, rfl, hR⟩
      · exact ⟨g, rfl, hR⟩
end
