/-! about, person, stand, bucket -/
theorem pq_opPQ {n m B : Nat} {h : zw_Hp} (hI : pq_I n m B h) {C : zw_Hp → Option Int32} {M : zw_Hp → Option (Int32 × zw_Hp)} {r : Int32} (hC : C h = some r) (hM : M h = some (r, zw_up h 31 0 0)) : pq_opP B C M h := ⟨r, _, n, m, hC, hM, pq_I_le (by omega) (pq_I_m0 hI)⟩
theorem pq_cp9 (h : zw_Hp) : h = pq_cp 9 (pq_cg 9 h) h := (pq_cp_cg 9 h).symm
theorem pq_batC (v : Int32) (c : pq_Pg) (h : zw_Hp) : M_X3_bucketsAt 9 v (pq_cp 9 c h) = some (pq_ac (fun b => decide (c (b + 5) = v)) 4) := by
  unfold M_X3_bucketsAt L_X3_bucketsAt_4
  have key : ∀ (d N k : Nat), k + d = 4 → d < N → zw_it (fun (k4 : (Int32 × Int32 × Int32) → Option (Int32)) (w : Int32 × Int32 × Int32) => B_X3_bucketsAt_4 9 (pq_cp 9 c h) k4 (w.1) (w.2.1) (w.2.2)) N (v, pq_ac (fun b => decide (c (b + 5) = v)) k, nI k) = some (pq_ac (fun b => decide (c (b + 5) = v)) 4) := by
    intro d
    induction d with
    | zero =>
      intro N k hk hN
      obtain ⟨N', rfl⟩ : ∃ N', N = N' + 1 := ⟨N - 1, by omega⟩
      rw [pq_it_s]
      simp only []
      rw [B_X3_bucketsAt_4, show k = 4 by omega, if_pos (by decide)]
    | succ d ih =>
      intro N k hk hN
      obtain ⟨N', rfl⟩ : ∃ N', N = N' + 1 := ⟨N - 1, by omega⟩
      have ih' := ih N' (k + 1) (by omega) (by omega)
      rw [pq_ac_s] at ih'
      rw [pq_it_s]
      simp only []
      rw [B_X3_bucketsAt_4, if_neg (show ¬ (4 : Int32) ≤ nI k from nI_ge (a := k) (b := 4) (by omega) (by decide)), if_pos (pq_ok_nI (by omega) (by decide)), nI_clamp (by omega), pq_cp_p c h (by omega)]
      simp only [zw_nm, B_X3_bucketsAt_29, nI_1]
      by_cases q : c (k + 5) = v
      · rw [if_pos q]
        rw [if_pos (by simpa using q)] at ih'
        exact ih'
      · rw [if_neg q]
        rw [if_neg (by simpa using q), Int32.or_zero] at ih'
        exact ih'
  exact key 4 600 0 (by omega) (by omega)
theorem pq_batM {n m B : Nat} {h : zw_Hp} (hI : pq_I n m B h) {v : Int32} (hv : v = 8 ∨ v = 9) : M_X9_bucketsAt 37 v v h = some (pq_ac (fun b => decide (pq_cg 9 h (b + 5) = v)) 4) := by
  have hm := hI.1.2.2.1
  obtain ⟨n1, n2, n3, n4⟩ := hI.now
  have e4 := pq_mbat (pp := 37) (Or.inl rfl) hm h (h.1 37) hI.2.2.1.2.1 v v
  rw [pq_upR_id] at e4
  rw [e4]
  have e1 : pq_ac (fun b => decide (v ≤ h.1 37 (b + 5) ∧ h.1 37 (b + 5) ≤ v)) m = pq_ac (fun b => decide (pq_cg 9 h (b + 5) = v)) m := by
    refine pq_ac_ext m (fun b hb => ?_)
    obtain ⟨pp, -, -⟩ := (n3.2.1 b hb).2 (by omega)
    have key : (v ≤ h.1 37 (b + 5) ∧ h.1 37 (b + 5) ≤ v) ↔ pq_cg 9 h (b + 5) = v := by
      rcases pp with e | ⟨e1, e2⟩
      · rw [e]
        exact ⟨fun z => Int32.le_antisymm z.2 z.1, fun z => by rw [z]; exact ⟨Int32.le_refl _, Int32.le_refl _⟩⟩
      · exact absurd e1 (n2.2 b hb)
    exact decide_eq_decide.mpr key
  have e2 := pq_ac_m (P := fun b => decide (pq_cg 9 h (b + 5) = v)) (m := m) (fun b b1 b2 => by
    have := n1.2.1.2.1 b b2 b1
    simp only [this]
    rcases hv with rfl | rfl <;> decide) (4 - m) (by omega)
  rw [show m + (4 - m) = 4 by omega] at e2
  rw [e1, e2]
def pq_hs (c : pq_Pg) : Nat → Int32
  | 0 => 0
  | k + 1 => if 5 ≤ c (k + 5) then pq_hs c k else pq_hs c k ||| ((1 : Int32) <<< (c (k + 5) &&& 31))
theorem pq_hs_s (c : pq_Pg) (k : Nat) : pq_hs c (k + 1) = if 5 ≤ c (k + 5) then pq_hs c k else pq_hs c k ||| ((1 : Int32) <<< (c (k + 5) &&& 31)) := rfl
theorem pq_hstC (c : pq_Pg) (h : zw_Hp) : M_X3_holdingStands 9 (pq_cp 9 c h) = some (pq_hs c 4) := by
  unfold M_X3_holdingStands L_X3_holdingStands_4
  have key : ∀ (d N k : Nat), k + d = 4 → d < N → zw_it (fun (k4 : (Int32 × Int32) → Option (Int32)) (w : Int32 × Int32) => B_X3_holdingStands_4 9 (pq_cp 9 c h) k4 (w.1) (w.2)) N (pq_hs c k, nI k) = some (pq_hs c 4) := by
    intro d
    induction d with
    | zero =>
      intro N k hk hN
      obtain ⟨N', rfl⟩ : ∃ N', N = N' + 1 := ⟨N - 1, by omega⟩
      rw [pq_it_s]
      simp only []
      rw [B_X3_holdingStands_4, show k = 4 by omega, if_pos (by decide)]
    | succ d ih =>
      intro N k hk hN
      obtain ⟨N', rfl⟩ : ∃ N', N = N' + 1 := ⟨N - 1, by omega⟩
      have ih' := ih N' (k + 1) (by omega) (by omega)
      rw [pq_hs_s] at ih'
      rw [pq_it_s]
      simp only []
      rw [B_X3_holdingStands_4, if_neg (show ¬ (4 : Int32) ≤ nI k from nI_ge (a := k) (b := 4) (by omega) (by decide)), if_pos (pq_ok_nI (by omega) (by decide)), if_pos (pq_ok_nI (by omega) (by decide)), nI_clamp (by omega), pq_cp_p c h (by omega)]
      simp only [zw_nm, B_X3_holdingStands_34, nI_1]
      by_cases q : 5 ≤ c (k + 5)
      · rw [if_pos q]
        rw [if_pos q] at ih'
        exact ih'
      · rw [if_neg q]
        rw [if_neg q] at ih'
        exact ih'
  exact key 4 600 0 (by omega) (by omega)
theorem pq_hstM {n m B : Nat} {h : zw_Hp} (hI : pq_I n m B h) : M_X9_standsWith 37 h = some (pq_hs (pq_cg 9 h) 4) := by
  have hm := hI.1.2.2.1
  obtain ⟨n1, n2, n3, n4⟩ := hI.now
  have em : ∀ d, m + d ≤ 4 → pq_hs (pq_cg 9 h) (m + d) = pq_hs (pq_cg 9 h) m := by
    intro d
    induction d with
    | zero => intro _; rfl
    | succ d ih =>
      intro hd
      show pq_hs (pq_cg 9 h) (m + d + 1) = _
      rw [pq_hs_s, if_pos (by rw [n1.2.1.2.1 (m + d) (by omega) (by omega)]; decide)]
      exact ih (by omega)
  have e4 := em (4 - m) (by omega)
  rw [show m + (4 - m) = 4 by omega] at e4
  rw [e4]
  unfold M_X9_standsWith L_X9_standsWith_4
  have key : ∀ (d N k : Nat), k + d = m → d < N → zw_it (fun (k4 : (Int32 × Int32) → Option (Int32)) (w : Int32 × Int32) => B_X9_standsWith_4 37 h k4 (w.1) (w.2)) N (pq_hs (pq_cg 9 h) k, nI k) = some (pq_hs (pq_cg 9 h) m) := by
    intro d
    induction d with
    | zero =>
      intro N k hk hN
      obtain ⟨N', rfl⟩ : ∃ N', N = N' + 1 := ⟨N - 1, by omega⟩
      rw [pq_it_s]
      simp only []
      rw [B_X9_standsWith_4, hI.2.2.1.2.1, show k = m by omega, if_pos (Int32.le_refl _)]
    | succ d ih =>
      intro N k hk hN
      obtain ⟨N', rfl⟩ : ∃ N', N = N' + 1 := ⟨N - 1, by omega⟩
      have ih' := ih N' (k + 1) (by omega) (by omega)
      rw [pq_hs_s] at ih'
      have eg : h.1 37 (k + 5) = pq_cg 9 h (k + 5) := by
        rcases ((n3.2.1 k (by omega)).2 (by omega)).1 with e | ⟨e1, e2⟩
        · exact e
        · exact absurd e1 (n2.2 k (by omega))
      rw [pq_it_s]
      simp only []
      rw [B_X9_standsWith_4, hI.2.2.1.2.1, if_neg (nI_ge (by omega) (by omega)), if_pos (pq_a5 (show k < 4 by omega)).2, if_pos (pq_a5 (show k < 4 by omega)).2, (pq_a5 (show k < 4 by omega)).1, eg]
      simp only [zw_nm, B_X9_standsWith_33, nI_1]
      by_cases q : 5 ≤ pq_cg 9 h (k + 5)
      · rw [if_pos q, Int32.or_zero]
        rw [if_pos q] at ih'
        exact ih'
      · rw [if_neg q]
        rw [if_neg q] at ih'
        exact ih'
  exact key m 600 0 (by omega) (by omega)
theorem pq_about {n m B : Nat} {h : zw_Hp} (hI : pq_I n m B h) (x1 : Int32) : pq_opP B (M_X8_about x1) (M_X9_about x1) h := by
  have hI2 := pq_I_m0 hI
  obtain ⟨n1, n2, n3, n4⟩ := hI.now
  obtain ⟨a, o, ia1, ia2, ia3, ia4, -⟩ := hI.2.2.2.2.2.1
  obtain ⟨x, -, it1, it2, -⟩ := hI.2.2.2.2.2.2.2.1
  obtain ⟨y, -, is1, is2, -⟩ := hI.2.2.2.2.2.2.2.2.1
  have u : ∀ i k, ¬ (i = 31 ∧ k = 0) → (zw_up h 31 0 0).1 i k = h.1 i k := fun i k q => by rw [pq_up_at, if_neg q]
  have ecg : pq_cg 9 (zw_up h 31 0 0) = pq_cg 9 h := pq_eq_cg (pq_eq_up h 0 (by decide))
  have hs := pq_hstC (pq_cg 9 h) h
  rw [pq_cp_cg] at hs
  have b8 := pq_batC 8 (pq_cg 9 h) h
  rw [pq_cp_cg] at b8
  have b9 := pq_batC 9 (pq_cg 9 h) h
  rw [pq_cp_cg] at b9
  have hs' := pq_hstM hI2
  have b8' := pq_batM hI2 (v := 8) (Or.inl rfl)
  have b9' := pq_batM hI2 (v := 9) (Or.inr rfl)
  rw [ecg] at hs' b8' b9'
  have f18 : h.1 9 6 = h.1 37 18 := (n3.2.2 18 (by omega) (by omega)).symm
  have f19 : h.1 9 7 = h.1 37 19 := (n3.2.2 19 (by omega) (by omega)).symm
  have f20 : h.1 9 8 = h.1 37 20 := (n3.2.2 20 (by omega) (by omega)).symm
  have f17 : h.1 9 5 = h.1 37 17 := (n3.2.2 17 (by omega) (by omega)).symm
  unfold pq_opP M_X8_about M_X9_about
  simp only [zw_nm]
  have fin : ∀ (C : Option Int32) (M : Option (Int32 × zw_Hp)) (r : Int32), C = some r → M = some (r, zw_up h 31 0 0) → ∃ (r : Int32) (h2 : zw_Hp) (n' m' : Nat), C = some r ∧ M = some (r, h2) ∧ pq_I n' m' (B + 1) h2 := fun C M r e1 e2 => ⟨r, _, n, m, e1, e2, pq_I_le (by omega) hI2⟩
  by_cases q0 : x1 = 0
  · rw [if_pos q0, if_pos q0, u _ _ (by decide), hI.1.1, hI.2.2.1.1]; exact fin _ _ _ rfl rfl
  · rw [if_neg q0, if_neg q0]
    by_cases q1 : x1 = 1
    · rw [if_pos q1, if_pos q1, u _ _ (by decide), hI.2.1, hI.2.2.1.2.1]; exact fin _ _ _ rfl rfl
    · rw [if_neg q1, if_neg q1]
      by_cases q2 : x1 = 2
      · rw [if_pos q2, if_pos q2, if_pos (by decide), show (18 : Int32).toNatClampNeg = 18 from rfl, u _ _ (by decide), f18]; exact fin _ _ _ rfl rfl
      · rw [if_neg q2, if_neg q2]
        by_cases q3 : x1 = 3
        · rw [if_pos q3, if_pos q3, u _ _ (by decide), hI.2.2.1.2.2.2.1]; exact fin _ _ _ rfl rfl
        · rw [if_neg q3, if_neg q3]
          by_cases q4 : x1 = 4
          · rw [if_pos q4, if_pos q4, u _ _ (by decide), hI.2.2.1.2.2.1]; exact fin _ _ _ rfl rfl
          · rw [if_neg q4, if_neg q4]
            by_cases q5 : x1 = 5
            · rw [if_pos q5, if_pos q5, if_pos (by decide), show (20 : Int32).toNatClampNeg = 20 from rfl, u _ _ (by decide), f20]; exact fin _ _ _ rfl rfl
            · rw [if_neg q5, if_neg q5]
              by_cases q6 : x1 = 6
              · rw [if_pos q6, if_pos q6, if_pos (by decide), show (19 : Int32).toNatClampNeg = 19 from rfl, u _ _ (by decide), f19]; exact fin _ _ _ rfl rfl
              · rw [if_neg q6, if_neg q6]
                by_cases q7 : x1 = 7
                · rw [if_pos q7, if_pos q7, hs, hs']; exact fin _ _ _ rfl rfl
                · rw [if_neg q7, if_neg q7]
                  by_cases q8 : x1 = 8
                  · rw [if_pos q8, if_pos q8, b8, b8']; exact fin _ _ _ rfl rfl
                  · rw [if_neg q8, if_neg q8]
                    by_cases q9 : x1 = 9
                    · rw [if_pos q9, if_pos q9, b9, b9']; exact fin _ _ _ rfl rfl
                    · rw [if_neg q9, if_neg q9]
                      by_cases q10 : x1 = 10
                      · rw [if_pos q10, if_pos q10, if_pos (by decide), show (17 : Int32).toNatClampNeg = 17 from rfl, u _ _ (by decide), f17]; exact fin _ _ _ rfl rfl
                      · rw [if_neg q10, if_neg q10]
                        by_cases q11 : x1 = 11
                        · rw [if_pos q11, if_pos q11, u _ _ (by decide), ia3, ia4]; exact fin _ _ _ rfl rfl
                        · rw [if_neg q11, if_neg q11]
                          by_cases q12 : x1 = 12
                          · rw [if_pos q12, if_pos q12, u _ _ (by decide), is1, is2]; exact fin _ _ _ rfl rfl
                          · rw [if_neg q12, if_neg q12]
                            by_cases q13 : x1 = 13
                            · rw [if_pos q13, if_pos q13, u _ _ (by decide), it1, it2]; exact fin _ _ _ rfl rfl
                            · rw [if_neg q13, if_neg q13]; exact fin _ _ _ rfl rfl
theorem pq_person {n m B : Nat} {h : zw_Hp} (hI : pq_I n m B h) (x1 x2 : Int32) : pq_opP B (M_X8_person x1 x2) (M_X9_person x1 x2) h := by
  have hI2 := pq_I_m0 hI
  have hn := hI.1.2.1
  obtain ⟨n1, n2, n3, n4⟩ := hI.now
  have u : ∀ i k, ¬ (i = 31 ∧ k = 0) → (zw_up h 31 0 0).1 i k = h.1 i k := fun i k q => by rw [pq_up_at, if_neg q]
  unfold pq_opP M_X8_person M_X9_person
  simp only [zw_nm]
  have fin : ∀ (C : Option Int32) (M : Option (Int32 × zw_Hp)) (r : Int32), C = some r → M = some (r, zw_up h 31 0 0) → ∃ (r : Int32) (h2 : zw_Hp) (n' m' : Nat), C = some r ∧ M = some (r, h2) ∧ pq_I n' m' (B + 1) h2 := fun C M r e1 e2 => ⟨r, _, n, m, e1, e2, pq_I_le (by omega) hI2⟩
  rw [pq_hasPerson hn _ hI.1.1, pq_noOne hn _ hI2.2.2.1.1]
  simp only [Option.bind_some]
  rcases pq_num x1 (n := n) (by omega) with ⟨a1, a2⟩ | ⟨a, a1, a3, a4⟩
  · rw [if_neg a1, if_pos rfl, if_neg a1, if_neg pq_10]
    exact fin _ _ _ rfl rfl
  · rw [if_pos a4, if_neg pq_10, if_pos a4, if_pos rfl, a3]
    by_cases q0 : x2 = 0
    · rw [if_pos q0, if_pos q0, if_pos (pq_ok_nI (by omega) (by decide)), if_pos (pq_ok_nI (by omega) (by decide)), nI_clamp (by omega), u _ _ (by omega), hI.2.2.1.2.2.2.2.1 a a1]
      exact fin _ _ _ rfl rfl
    · rw [if_neg q0, if_neg q0]
      by_cases q1 : x2 = 1
      · have s1 := pq_standOf 9 (nI a) (pq_cg 9 h) h
        rw [pq_cp_cg] at s1
        have s2 := pq_mstandOf (pp := 37) (Or.inl rfl) hn (zw_up h 31 0 0) ((zw_up h 31 0 0).1 37) (nI a)
        rw [pq_upR_id, pq_up_off _ (show (37 : Nat) ≠ 31 by decide), pq_sf_so hn n1.1 n3.1 a1] at s2
        rw [if_pos q1, if_pos q1, hI2.2.2.1.1, s1, s2]
        exact fin _ _ _ rfl rfl
      · rw [if_neg q1, if_neg q1]
        exact fin _ _ _ rfl rfl
theorem pq_stand {n m B : Nat} {h : zw_Hp} (hI : pq_I n m B h) (x1 x2 : Int32) : pq_opP B (M_X8_stand x1 x2) (M_X9_stand x1 x2) h := by
  have hI2 := pq_I_m0 hI
  have hn := hI.1.2.1
  have hm := hI.1.2.2.1
  obtain ⟨n1, n2, n3, n4⟩ := hI.now
  have u : ∀ i k, ¬ (i = 31 ∧ k = 0) → (zw_up h 31 0 0).1 i k = h.1 i k := fun i k q => by rw [pq_up_at, if_neg q]
  unfold pq_opP M_X8_stand M_X9_stand
  simp only [zw_nm]
  have fin : ∀ (C : Option Int32) (M : Option (Int32 × zw_Hp)) (r : Int32), C = some r → M = some (r, zw_up h 31 0 0) → ∃ (r : Int32) (h2 : zw_Hp) (n' m' : Nat), C = some r ∧ M = some (r, h2) ∧ pq_I n' m' (B + 1) h2 := fun C M r e1 e2 => ⟨r, _, n, m, e1, e2, pq_I_le (by omega) hI2⟩
  rw [pq_hasPerson hn _ hI.1.1, pq_noOne hn _ hI2.2.2.1.1]
  simp only [Option.bind_some]
  rcases pq_num x1 (n := n) (by omega) with ⟨a1, a2⟩ | ⟨a, a1, a3, a4⟩
  · rw [if_neg a1, if_pos rfl, if_neg a1, if_neg pq_10]
    exact fin _ _ _ rfl rfl
  · rw [if_pos a4, if_neg pq_10, if_pos a4, if_pos rfl, a3]
    by_cases q0 : x2 = 0
    · have e : pq_cg 9 h a = h.1 10 a := if_pos (by omega)
      rw [if_pos q0, if_pos q0, if_pos (pq_ok_nI (by omega) (by decide)), if_pos (pq_ok_nI (by omega) (by decide)), nI_clamp (by omega), u _ _ (by omega), n3.1 a a1, e]
      exact fin _ _ _ rfl rfl
    · rw [if_neg q0, if_neg q0]
      by_cases q1 : x2 = 1
      · have s1 := pq_least 9 (nI a) (pq_cg 9 h) h
        rw [pq_cp_cg] at s1
        have s2 := pq_heldAt (pp := 37) (Or.inl rfl) hm (zw_up h 31 0 0) ((zw_up h 31 0 0).1 37) hI2.2.2.1.2.1 (nI a)
        rw [pq_upR_id, pq_up_off _ (show (37 : Nat) ≠ 31 by decide), pq_hf_lb hn hm n1.2.1 n3 (by omega)] at s2
        rw [if_pos q1, if_pos q1, s1, s2]
        exact fin _ _ _ rfl rfl
      · rw [if_neg q1, if_neg q1]
        exact fin _ _ _ rfl rfl
theorem pq_bucket {n m B : Nat} {h : zw_Hp} (hI : pq_I n m B h) (x1 x2 : Int32) : pq_opP B (M_X8_bucket x1 x2) (M_X9_bucket x1 x2) h := by
  have hI2 := pq_I_m0 hI
  have hn := hI.1.2.1
  have hm := hI.1.2.2.1
  obtain ⟨n1, n2, n3, n4⟩ := hI.now
  have u : ∀ i k, ¬ (i = 31 ∧ k = 0) → (zw_up h 31 0 0).1 i k = h.1 i k := fun i k q => by rw [pq_up_at, if_neg q]
  unfold pq_opP M_X8_bucket M_X9_bucket
  simp only [zw_nm]
  have fin : ∀ (C : Option Int32) (M : Option (Int32 × zw_Hp)) (r : Int32), C = some r → M = some (r, zw_up h 31 0 0) → ∃ (r : Int32) (h2 : zw_Hp) (n' m' : Nat), C = some r ∧ M = some (r, h2) ∧ pq_I n' m' (B + 1) h2 := fun C M r e1 e2 => ⟨r, _, n, m, e1, e2, pq_I_le (by omega) hI2⟩
  rw [pq_hasBucket hm _ hI.2.1, pq_noBucket hm _ hI2.2.2.1.2.1]
  simp only [Option.bind_some]
  rcases pq_num x1 (n := m) (by omega) with ⟨a1, a2⟩ | ⟨b, a1, a3, a4⟩
  · rw [if_neg a1, if_pos rfl, if_neg a1, if_neg pq_10]
    exact fin _ _ _ rfl rfl
  · have b4 : b < 4 := by omega
    have eg : h.1 37 (b + 5) = pq_cg 9 h (b + 5) := by
      rcases ((n3.2.1 b a1).2 (by omega)).1 with e | ⟨e1, e2⟩
      · exact e
      · exact absurd e1 (n2.2 b a1)
    obtain ⟨-, e9, e13⟩ := (n3.2.1 b a1).2 (by omega)
    have c5 : h.1 11 b = pq_cg 9 h (b + 5) := by
      have := pq_cp_p (t := 9) (k := b) (pq_cg 9 h) h b4
      rw [pq_cp_cg] at this
      exact this
    have c9 : h.1 12 b = pq_cg 9 h (b + 9) := by
      have := pq_cp_3 (t := 9) (k := b) (pq_cg 9 h) h b4
      rw [pq_cp_cg] at this
      exact this
    have c13 : h.1 13 b = pq_cg 9 h (b + 13) := by
      have := pq_cp_4 (t := 9) (k := b) (pq_cg 9 h) h b4
      rw [pq_cp_cg] at this
      exact this
    rw [if_pos a4, if_neg pq_10, if_pos a4, if_pos rfl, a3]
    simp only [pq_ok_nI b4 (show 4 < 2 ^ 31 by decide), (pq_a5 b4).2, (pq_a9 b4).2, (pq_a13 b4).2, if_true, nI_clamp (show b < 2 ^ 31 by omega), (pq_a5 b4).1, (pq_a9 b4).1, (pq_a13 b4).1, u _ _ (show ¬ (37 = 31 ∧ b + 5 = 0) by omega), u _ _ (show ¬ (37 = 31 ∧ b + 9 = 0) by omega), u _ _ (show ¬ (37 = 31 ∧ b + 13 = 0) by omega), u _ _ (show ¬ (34 = 31 ∧ b = 0) by omega), eg, e9, e13, c5, c9, c13]
    by_cases q0 : x2 = 0
    · rw [if_pos q0, if_pos q0, hI.2.2.1.2.2.2.2.2 b a1]
      exact fin _ _ _ rfl rfl
    · rw [if_neg q0, if_neg q0]
      by_cases q1 : x2 = 1
      · have s1 := pq_hasHole 9 b b4 (pq_cg 9 h) h
        rw [pq_cp_cg] at s1
        rw [if_pos q1, if_pos q1, s1, if_pos (show zw_ok (17 : Int32) 21 = true by decide), show (17 : Int32).toNatClampNeg = 17 from rfl, u _ _ (by decide), n3.2.2 17 (by omega) (by omega)]
        simp only [Option.bind_some]
        rcases pq_bit01 (pq_cg 9 h 17) (nI b &&& 31) with e | e
        · rw [e, if_pos (show (if (0 : Int32) = 1 then (1 : Int32) else 0) = 0 by decide)]
          exact fin _ _ _ rfl rfl
        · rw [e, if_pos rfl, if_neg pq_10]
          exact fin _ _ _ rfl rfl
      · rw [if_neg q1, if_neg q1]
        by_cases q2 : x2 = 2
        · rw [if_pos q2, if_pos q2]
          exact fin _ _ _ rfl rfl
        · rw [if_neg q2, if_neg q2]
          by_cases q3 : x2 = 3
          · rw [if_pos q3, if_pos q3]
            by_cases z : 5 ≤ pq_cg 9 h (b + 5)
            · rw [if_pos z, (n2.1 b b4).1 z]
              exact fin _ _ _ rfl rfl
            · rw [if_neg z]
              exact fin _ _ _ rfl rfl
          · rw [if_neg q3, if_neg q3]
            by_cases q4 : x2 = 4
            · rw [if_pos q4, if_pos q4]
              by_cases z : pq_cg 9 h (b + 5) = 9
              · rw [if_pos z]
                exact fin _ _ _ rfl rfl
              · rw [if_neg z, (n2.1 b b4).2 z]
                exact fin _ _ _ rfl rfl
            · rw [if_neg q4, if_neg q4]
              exact fin _ _ _ rfl rfl
