/-! fault -/
theorem pz_eq3 {h h' : zw_Hp} (e : pz_fC 3 h h') : pq_eq h h' := by
  refine ⟨fun i k q => ?_, e.2⟩
  by_cases z : i = 3 ∨ i = 4 ∨ i = 5
  · exfalso
    rcases z with rfl | rfl | rfl <;> simp [pq_rl] at q
  · rw [e.1 i (by omega) (by omega) (by omega)]
theorem pq_fault {n m B : Nat} {h : zw_Hp} (hI : pq_I n m B h) : pq_op B M_X8_fault M_X9_fault h := by
  obtain ⟨x, x36, t1, t2, t3⟩ := hI.2.2.2.2.2.2.2.1
  obtain ⟨r, h', n', m', q', f', g', w', K', Z', a1, a2, a3, a4⟩ := pz_read (t := 3) (Or.inl rfl) x36 (X := h.1 2) (h := h) ⟨t1, fun k hk => rfl⟩
  have e1 := pz_eq3 a2
  have e2 : pq_eq h (zw_up h' 31 0 0) := pq_eq_tr e1 (pq_eq_up h' 0 (by decide))
  obtain ⟨H', b1, b2, b3⟩ := a4 (zw_up h' 31 0 0) ⟨by rw [e2.1 31 2 (by decide)]; exact t2, fun k hk => by rw [e2.1 32 k (pq_rl_t k (by omega) (by omega) (by omega) (by omega))]; exact (t3 k hk).1⟩
  refine ⟨r, h', H', n, m, ?_, ?_, pq_I_le (Nat.le_succ B) (pq_I_eq hI (pq_eq_tr e2 b2))⟩
  · unfold M_X8_fault
    rw [a1]
    rfl
  · unfold M_X9_fault
    simp only [zw_nm]
    rw [b1]
    rfl
/-! night: the scene set up -/
def pz_c0 (m : Nat) (q f : Int32) : pq_Pg := fun k => if k < 5 then nI k else if k < 9 then (if k - 5 < m then 8 else 10) else if k = 17 then q else if k = 18 then f else 0
theorem pz_su2 {j : Nat} (hj : j < 5) (c : pq_Pg) (h : zw_Hp) (k : (Int32 × zw_Hp) → Option zw_Hp) : B_X3_setUp_2 9 k (nI j) (pq_cp 9 c h) = k (nI (j + 1), pq_cp 9 (upd c j (nI j)) h) := by
  unfold B_X3_setUp_2
  rw [if_neg (show ¬ (5 : Int32) ≤ nI j from nI_ge (a := j) (b := 5) hj (by decide)), if_pos (pq_ok_nI hj (by decide)), nI_clamp (by omega)]
  simp only [zw_nm, nI_1]
  rw [pq_cp_u1 c h _ hj]
theorem pz_su26 {m j : Nat} (hm : m ≤ 4) (hj : j < 4) (c : pq_Pg) {h : zw_Hp} (h3 : h.1 6 3 = nI m) (k : (Int32 × zw_Hp) → Option zw_Hp) : B_X3_setUp_26 9 k (nI j) (pq_cp 9 c h) = k (nI (j + 1), pq_cp 9 (upd c (j + 5) (if j < m then 8 else 10)) h) := by
  unfold B_X3_setUp_26 B_X3_setUp_58
  rw [if_neg (pq_ge4 hj), pq_cp_off c h (by omega), h3, if_pos (pq_ok_nI hj (by decide)), if_pos (pq_ok_nI hj (by decide)), nI_clamp (by omega)]
  simp only [zw_nm, nI_1]
  rw [pq_cp_up c h _ hj, pq_cp_up c h _ hj]
  by_cases q : j < m
  · rw [if_neg (nI_ge q (by omega)), if_pos q]
  · rw [if_pos (nI_le (by omega) (by omega)), if_neg q]
theorem pz_su67 {j : Nat} (hj : j < 4) (c : pq_Pg) (h : zw_Hp) (k : (Int32 × zw_Hp) → Option zw_Hp) : B_X3_setUp_67 9 k (nI j) (pq_cp 9 c h) = k (nI (j + 1), pq_cp 9 (upd c (j + 9) 0) h) := by
  unfold B_X3_setUp_67
  rw [if_neg (pq_ge4 hj), if_pos (pq_ok_nI hj (by decide)), nI_clamp (by omega)]
  simp only [zw_nm, nI_1]
  rw [pq_cp_u3 c h _ hj]
theorem pz_su91 {j : Nat} (hj : j < 4) (c : pq_Pg) (h : zw_Hp) (k : (Int32 × zw_Hp) → Option zw_Hp) : B_X3_setUp_91 9 k (nI j) (pq_cp 9 c h) = k (nI (j + 1), pq_cp 9 (upd c (j + 13) 0) h) := by
  unfold B_X3_setUp_91
  rw [if_neg (pq_ge4 hj), if_pos (pq_ok_nI hj (by decide)), nI_clamp (by omega)]
  simp only [zw_nm, nI_1]
  rw [pq_cp_u4 c h _ hj]
theorem pz_setUp {m : Nat} (hm : m ≤ 4) {h : zw_Hp} (h3 : h.1 6 3 = nI m) : M_X3_setUp 9 h = some (pq_cp 9 (pz_c0 m (h.1 6 4) (h.1 6 5)) h) := by
  have e91 : ∀ c, ∃ c', L_X3_setUp_91 9 (nI 0, pq_cp 9 c h) = some (pq_cp 9 c' h) ∧ (∀ k, k < 13 → c' k = c k) ∧ (∀ k, 13 ≤ k → k < 22 → c' k = if k = 17 then h.1 6 4 else if k = 18 then h.1 6 5 else 0) := by
    intro c
    unfold L_X3_setUp_91
    obtain ⟨K, hK⟩ := pq_u5 (fun (k91 : (Int32 × zw_Hp) → Option (zw_Hp)) (w : Int32 × zw_Hp) => B_X3_setUp_91 9 k91 (w.1) (w.2)) (nI 0, pq_cp 9 c h)
    rw [hK]
    simp only []
    rw [pz_su91 (by decide), pz_su91 (by decide), pz_su91 (by decide), pz_su91 (by decide)]
    simp only []
    rw [B_X3_setUp_91, if_pos (by decide)]
    simp only [zw_nm]
    rw [pq_cp_off _ h (by omega), pq_cp_u0 _ h _ (by decide), pq_cp_off _ h (by omega), pq_cp_u0 _ h _ (by decide), pq_cp_u0 _ h _ (by decide), pq_cp_u0 _ h _ (by decide), pq_cp_u0 _ h _ (by decide)]
    refine ⟨_, rfl, fun k hk => ?_, fun k hk hk2 => ?_⟩
    · rw [pq_upd_ne (by omega), pq_upd_ne (by omega), pq_upd_ne (by omega), pq_upd_ne (by omega), pq_upd_ne (by omega), pq_upd_ne (by omega), pq_upd_ne (by omega), pq_upd_ne (by omega), pq_upd_ne (by omega)]
    · rcases (show k = 13 ∨ k = 14 ∨ k = 15 ∨ k = 16 ∨ k = 17 ∨ k = 18 ∨ k = 19 ∨ k = 20 ∨ k = 21 by omega) with rfl | rfl | rfl | rfl | rfl | rfl | rfl | rfl | rfl <;> simp [upd]
  have e67 : ∀ c, ∃ c', L_X3_setUp_67 9 (nI 0, pq_cp 9 c h) = some (pq_cp 9 c' h) ∧ (∀ k, k < 9 → c' k = c k) ∧ (∀ k, 9 ≤ k → k < 22 → c' k = if k = 17 then h.1 6 4 else if k = 18 then h.1 6 5 else 0) := by
    intro c
    unfold L_X3_setUp_67
    obtain ⟨K, hK⟩ := pq_u5 (fun (k67 : (Int32 × zw_Hp) → Option (zw_Hp)) (w : Int32 × zw_Hp) => B_X3_setUp_67 9 k67 (w.1) (w.2)) (nI 0, pq_cp 9 c h)
    rw [hK]
    simp only []
    rw [pz_su67 (by decide), pz_su67 (by decide), pz_su67 (by decide), pz_su67 (by decide)]
    simp only []
    rw [B_X3_setUp_67, if_pos (by decide)]
    obtain ⟨c', d1, d2, d3⟩ := e91 (upd (upd (upd (upd c (0 + 9) 0) (0 + 1 + 9) 0) (0 + 1 + 1 + 9) 0) (0 + 1 + 1 + 1 + 9) 0)
    refine ⟨c', d1, fun k hk => ?_, fun k hk hk2 => ?_⟩
    · rw [d2 k (by omega), pq_upd_ne (by omega), pq_upd_ne (by omega), pq_upd_ne (by omega), pq_upd_ne (by omega)]
    · by_cases k13 : 13 ≤ k
      · exact d3 k k13 hk2
      · rw [d2 k (by omega), if_neg (by omega), if_neg (by omega)]
        rcases (show k = 9 ∨ k = 10 ∨ k = 11 ∨ k = 12 by omega) with rfl | rfl | rfl | rfl <;> simp [upd]
  have e26 : ∀ c, ∃ c', L_X3_setUp_26 9 (nI 0, pq_cp 9 c h) = some (pq_cp 9 c' h) ∧ (∀ k, k < 5 → c' k = c k) ∧ (∀ k, 5 ≤ k → k < 22 → c' k = if k < 9 then (if k - 5 < m then 8 else 10) else if k = 17 then h.1 6 4 else if k = 18 then h.1 6 5 else 0) := by
    intro c
    unfold L_X3_setUp_26
    obtain ⟨K, hK⟩ := pq_u5 (fun (k26 : (Int32 × zw_Hp) → Option (zw_Hp)) (w : Int32 × zw_Hp) => B_X3_setUp_26 9 k26 (w.1) (w.2)) (nI 0, pq_cp 9 c h)
    rw [hK]
    simp only []
    rw [pz_su26 hm (by decide) _ h3, pz_su26 hm (by decide) _ h3, pz_su26 hm (by decide) _ h3, pz_su26 hm (by decide) _ h3]
    simp only []
    rw [B_X3_setUp_26, if_pos (by decide)]
    obtain ⟨c', d1, d2, d3⟩ := e67 (upd (upd (upd (upd c (0 + 5) (if 0 < m then 8 else 10)) (0 + 1 + 5) (if 0 + 1 < m then 8 else 10)) (0 + 1 + 1 + 5) (if 0 + 1 + 1 < m then 8 else 10)) (0 + 1 + 1 + 1 + 5) (if 0 + 1 + 1 + 1 < m then 8 else 10))
    refine ⟨c', d1, fun k hk => ?_, fun k hk hk2 => ?_⟩
    · rw [d2 k (by omega), pq_upd_ne (by omega), pq_upd_ne (by omega), pq_upd_ne (by omega), pq_upd_ne (by omega)]
    · by_cases k9 : k < 9
      · rw [d2 k k9, if_pos k9]
        rcases (show k = 5 ∨ k = 6 ∨ k = 7 ∨ k = 8 by omega) with rfl | rfl | rfl | rfl <;> simp [upd]
      · rw [if_neg k9]; exact d3 k (by omega) hk2
  unfold M_X3_setUp L_X3_setUp_2
  obtain ⟨K, hK⟩ := pq_u6 (fun (k2 : (Int32 × zw_Hp) → Option (zw_Hp)) (w : Int32 × zw_Hp) => B_X3_setUp_2 9 k2 (w.1) (w.2)) (nI 0, pq_cp 9 (pq_cg 9 h) h)
  rw [pq_cp_cg] at hK
  rw [show (0 : Int32) = nI 0 from rfl, hK]
  simp only []
  have hh : ∀ k, B_X3_setUp_2 9 k (nI 0) h = k (nI (0 + 1), pq_cp 9 (upd (pq_cg 9 h) 0 (nI 0)) h) := fun k => by
    have := pz_su2 (j := 0) (by decide) (pq_cg 9 h) h k
    rw [pq_cp_cg] at this
    exact this
  rw [hh, pz_su2 (by decide), pz_su2 (by decide), pz_su2 (by decide), pz_su2 (by decide)]
  simp only []
  rw [B_X3_setUp_2, if_pos (by decide)]
  obtain ⟨c', d1, d2, d3⟩ := e26 (upd (upd (upd (upd (upd (pq_cg 9 h) 0 (nI 0)) (0 + 1) (nI (0 + 1))) (0 + 1 + 1) (nI (0 + 1 + 1))) (0 + 1 + 1 + 1) (nI (0 + 1 + 1 + 1))) (0 + 1 + 1 + 1 + 1) (nI (0 + 1 + 1 + 1 + 1)))
  refine d1.trans (congrArg some (pq_cp_eq h (fun k hk => ?_)))
  unfold pz_c0
  by_cases k5 : k < 5
  · rw [if_pos k5, d2 k k5]
    rcases (show k = 0 ∨ k = 1 ∨ k = 2 ∨ k = 3 ∨ k = 4 by omega) with rfl | rfl | rfl | rfl | rfl <;> simp [upd]
  · rw [if_neg k5]; exact d3 k (by omega) hk
/-! the model's night -/
theorem pz_n51 (G : zw_Hp) : ∀ (d N j : Nat), j + d = 21 → d < N →
    zw_it (fun (k51 : (Int32 × zw_Hp) → Option (Int32 × zw_Hp)) (w : Int32 × zw_Hp) => B_X9_night_51 k51 (w.1) (w.2)) N (nI j, zw_upR G 37 (pq_b21 (fun _ => 0) (G.1 37) j)) = L_X9_night_72 (0, zw_upR G 37 (pq_b21 (fun _ => 0) (G.1 37) 21)) := by
  intro d
  induction d with
  | zero =>
    intro N j hj hN
    obtain ⟨N', rfl⟩ : ∃ N', N = N' + 1 := ⟨N - 1, by omega⟩
    rw [pq_it_s]
    simp only []
    rw [B_X9_night_51, show j = 21 by omega, if_pos (by decide)]
  | succ d ih =>
    intro N j hj hN
    obtain ⟨N', rfl⟩ : ∃ N', N = N' + 1 := ⟨N - 1, by omega⟩
    rw [pq_it_s]
    simp only []
    rw [B_X9_night_51, if_neg (show ¬ (21 : Int32) ≤ nI j from nI_ge (a := j) (b := 21) (by omega) (by decide)), if_pos (pq_ok_nI (by omega) (by decide)), nI_clamp (by omega)]
    simp only [zw_nm, nI_1]
    rw [pq_mu, pq_b21_s (fun _ => (0 : Int32))]
    exact ih N' (j + 1) (by omega) (by omega)
theorem pz_n72 (G : zw_Hp) (b : pq_Pg) {n : Nat} (hn : n ≤ 5) (h6 : G.1 31 6 = nI n) : ∀ (d N j : Nat), j + d = n → d < N →
    zw_it (fun (k72 : (Int32 × zw_Hp) → Option (Int32 × zw_Hp)) (w : Int32 × zw_Hp) => B_X9_night_72 k72 (w.1) (w.2)) N (nI j, zw_upR (zw_upR G 33 (pq_b21 (G.1 35) (G.1 33) j)) 37 (pq_b21 nI b j)) = L_X9_night_107 (0, zw_upR (zw_upR G 33 (pq_b21 (G.1 35) (G.1 33) n)) 37 (pq_b21 nI b n)) := by
  intro d
  have r6 : ∀ (a c : pq_Pg), (zw_upR (zw_upR G 33 a) 37 c).1 31 6 = nI n := fun a c => by rw [pq_upR_off _ _ (by decide), pq_upR_off _ _ (by decide)]; exact h6
  induction d with
  | zero =>
    intro N j hj hN
    obtain ⟨N', rfl⟩ : ∃ N', N = N' + 1 := ⟨N - 1, by omega⟩
    rw [pq_it_s]
    simp only []
    rw [B_X9_night_72, r6, show j = n by omega, if_pos (nI_le (Nat.le_refl n) (by omega))]
  | succ d ih =>
    intro N j hj hN
    obtain ⟨N', rfl⟩ : ∃ N', N = N' + 1 := ⟨N - 1, by omega⟩
    rw [pq_it_s]
    simp only []
    rw [B_X9_night_72, r6, if_neg (nI_ge (show j < n by omega) (by omega)), if_pos (pq_ok_nI (show j < 5 by omega) (by decide)), if_pos (pq_ok_nI (show j < 5 by omega) (by decide)), nI_clamp (by omega)]
    simp only [zw_nm, nI_1]
    rw [if_pos (pq_ok_nI (show j < 21 by omega) (by decide)), pq_upR_off _ _ (show (35 : Nat) ≠ 37 by decide), pq_upR_off _ _ (show (35 : Nat) ≠ 33 by decide), pq_up_upR _ (show (33 : Nat) ≠ 37 by decide), pq_mu, pq_mu, pq_b21_s, pq_b21_s nI]
    exact ih N' (j + 1) (by omega) (by omega)
def pz_nF (G : zw_Hp) (m : Nat) (a b : pq_Pg) : zw_Hp := zw_up (zw_up (zw_up (zw_up (zw_up (zw_upR (zw_upR G 34 a) 37 b) 37 17 (G.1 31 17)) 37 18 (G.1 31 10)) 31 21 0) 41 0 0) 41 1 0
theorem pz_n107 (G : zw_Hp) (b : pq_Pg) {m : Nat} (hm : m ≤ 4) (h8 : G.1 31 8 = nI m) : ∀ (d N j : Nat), j + d = m → d < N →
    zw_it (fun (k107 : (Int32 × zw_Hp) → Option (Int32 × zw_Hp)) (w : Int32 × zw_Hp) => B_X9_night_107 k107 (w.1) (w.2)) N (nI j, zw_upR (zw_upR G 34 (pq_b21 (G.1 36) (G.1 34) j)) 37 (pq_stp b 5 (fun _ => 8) j)) = some (10 * G.1 31 6 + nI m, pz_nF G m (pq_b21 (G.1 36) (G.1 34) m) (pq_stp b 5 (fun _ => 8) m)) := by
  intro d
  have r31 : ∀ (a c : pq_Pg) k, (zw_upR (zw_upR G 34 a) 37 c).1 31 k = G.1 31 k := fun a c k => by rw [pq_upR_off _ _ (by decide), pq_upR_off _ _ (by decide)]
  induction d with
  | zero =>
    intro N j hj hN
    obtain ⟨N', rfl⟩ : ∃ N', N = N' + 1 := ⟨N - 1, by omega⟩
    rw [pq_it_s]
    simp only []
    rw [B_X9_night_107, r31, h8, show j = m by omega, if_pos (nI_le (Nat.le_refl m) (by omega))]
    simp only [zw_nm]
    rw [if_pos (show zw_ok (17 : Int32) 21 = true by decide), if_pos (show zw_ok (18 : Int32) 21 = true by decide), if_pos (show zw_ok (0 : Int32) 2 = true by decide), if_pos (show zw_ok (1 : Int32) 2 = true by decide)]
    unfold pz_nF
    rw [show (17 : Int32).toNatClampNeg = 17 from rfl, show (18 : Int32).toNatClampNeg = 18 from rfl, show (0 : Int32).toNatClampNeg = 0 from rfl, show (1 : Int32).toNatClampNeg = 1 from rfl, pq_up_off _ (show (31 : Nat) ≠ 37 by decide), r31, r31]
    generalize hY : zw_up (zw_up (zw_upR (zw_upR G 34 (pq_b21 (G.1 36) (G.1 34) m)) 37 (pq_stp b 5 (fun _ => 8) m)) 37 17 (G.1 31 17)) 37 18 (G.1 31 10) = Y
    have y6 : ∀ k, k ≠ 21 → (zw_up (zw_up (zw_up Y 31 21 0) 41 0 0) 41 1 0).1 31 k = G.1 31 k := fun k hk => by
      rw [pq_up_off _ (by decide), pq_up_off _ (by decide), pq_up_at, if_neg (by omega), ← hY, pq_up_off _ (by decide), pq_up_off _ (by decide), r31]
    rw [y6 6 (by decide), y6 8 (by decide), h8]
  | succ d ih =>
    intro N j hj hN
    obtain ⟨N', rfl⟩ : ∃ N', N = N' + 1 := ⟨N - 1, by omega⟩
    have a5 := pq_a5 (show j < 4 by omega)
    rw [pq_it_s]
    simp only []
    rw [B_X9_night_107, r31, h8, if_neg (nI_ge (show j < m by omega) (by omega)), if_pos (pq_ok_nI (show j < 4 by omega) (by decide)), if_pos (pq_ok_nI (show j < 4 by omega) (by decide)), nI_clamp (by omega)]
    simp only [zw_nm, nI_1]
    rw [if_pos a5.2, a5.1, pq_upR_off _ _ (show (36 : Nat) ≠ 37 by decide), pq_upR_off _ _ (show (36 : Nat) ≠ 34 by decide), pq_up_upR _ (show (34 : Nat) ≠ 37 by decide), pq_mu, pq_mu, pq_b21_s, show j + 5 = 5 + j by omega, pq_stp_s b 5 (fun _ => (8 : Int32))]
    exact ih N' (j + 1) (by omega) (by omega)
