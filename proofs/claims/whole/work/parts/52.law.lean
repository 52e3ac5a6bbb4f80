/-! every call of the law, of both -/
theorem pq_laterV_eq {h h' : zw_Hp} (e : pq_eq h h') (n : Nat) (x1 x2 : Int32) : pq_laterV h' n x1 x2 = pq_laterV h n x1 x2 := by
  unfold pq_laterV
  rw [pq_v_eq e]
theorem pq_laterO {n m B : Nat} (hB : B < 2 ^ 26) {h : zw_Hp} (hI : pq_I n m B h) (x1 x2 : Int32) : pq_op B (M_X8_later x1 x2) (M_X9_later x1 x2) h :=
  pq_opQ (V := fun h => pq_laterV h n x1 x2) hI (pq_laterC hI x1 x2) (fun h' hI' => pq_laterM (by omega) hI' x1 x2) (fun h' e => pq_laterV_eq e n x1 x2)
theorem pq_outO {n m B : Nat} (hB : B < 2 ^ 26) {h : zw_Hp} (hI : pq_I n m B h) : pq_op B M_X8_out M_X9_out h :=
  pq_opQ (V := fun h => pq_outV h n) hI (pq_outC hI) (fun h' hI' => pq_outM (by omega) hI') (fun h' e => pq_outV_eq e n)
theorem pq_swapO {n m B : Nat} (hB : B < 2 ^ 26) {h : zw_Hp} (hI : pq_I n m B h) (x1 x2 : Int32) : pq_op B (M_X8_swap x1 x2) (M_X9_swap x1 x2) h :=
  pq_opQ (V := fun h => pq_swapV h n x1 x2) hI (pq_swapC hI x1 x2) (fun h' hI' => pq_swapM (by omega) hI' x1 x2) (fun h' e => pq_swapV_eq e n x1 x2)
theorem pq_lineO {n m B : Nat} (hB : B < 2 ^ 26) {h : zw_Hp} (hI : pq_I n m B h) (x1 x2 : Int32) : pq_op B (M_X8_line x1 x2) (M_X9_line x1 x2) h :=
  pq_opQ (V := fun h => pq_lineV h n x1 x2) hI (pq_lineC hI x1 x2) (fun h' hI' => pq_lineM hB hI' x1 x2) (fun h' e => pq_lineV_eq e n x1 x2)
theorem pq_judgeO {n m B : Nat} (hB : B < 2 ^ 26) {h : zw_Hp} (hI : pq_I n m B h) (x1 : Int32) (x2 : Int64) : pq_op B (M_X8_judge x1 x2) (M_X9_judge x1 x2) h :=
  pq_opQ (V := fun h => pq_judgeV h n m x1 x2) hI (pq_judgeC hB hI x1 x2) (fun h' hI' => pq_judgeM hB hI' x1 x2) (fun h' e => pq_judgeV_eq e n m x1 x2)
theorem pq_restsO {n m B : Nat} (hB : B < 2 ^ 26) {h : zw_Hp} (hI : pq_I n m B h) (x1 x2 x3 : Int32) : pq_op B (M_X8_rests x1 x2 x3) (M_X9_rests x1 x2 x3) h :=
  pq_opQ (V := fun h => pq_restsV h n x1 x2 x3) hI (pq_restsC hI x1 x2 x3) (fun h' hI' => pq_restsM (by omega) hI' x1 x2 x3) (fun h' e => pq_restsV_eq e n x1 x2 x3)
theorem pq_nightsO {n m B : Nat} (hB : B < 2 ^ 26) {h : zw_Hp} (hI : pq_I n m B h) (x1 : Int32) : pq_op B (M_X8_nights x1) (M_X9_nights x1) h := by
  obtain ⟨h1, e1, q1⟩ := pq_nightsC hB hI x1
  have e0 : pq_eq h (zw_upL h1 0 (h.2 0)) := by
    refine ⟨fun i k q => q1.1 i k q, ?_⟩
    funext a
    rw [pq_upL_at, q1.2, pq_upL_at]
    by_cases z : a = 0
    · rw [if_pos z, z]
    · rw [if_neg z, if_neg z]
  obtain ⟨h2, e2, q2⟩ := pq_nightsM hB (z0 := h.2 0) (pq_I_eq hI e0) x1
  have s31 : h1.2 31 = h.2 31 := by rw [q1.2, pq_upL_at, if_neg (by decide)]
  have r : h1.1 6 = h.1 6 ∧ h1.1 7 = h.1 7 ∧ h1.1 8 = h.1 8 := pq_row678 (h := zw_upL h 0 (pq_nightsZ h x1)) q1
  have cg : pq_cg 9 h1 = pq_cg 9 h := pq_eq_cg (h := zw_upL h 0 (pq_nightsZ h x1)) q1
  have ev : pq_nightsV h1 n m x1 = pq_nightsV h n m x1 := by
    unfold pq_nightsV
    rw [r.1, r.2.1, r.2.2, s31, cg]
  have ez : pq_nightsZ h1 x1 = pq_nightsZ h x1 := by
    unfold pq_nightsZ
    rw [s31]
  rw [ev] at e2
  rw [ez] at q2
  have q3 : pq_eq (zw_upL (zw_upL h 0 (pq_nightsZ h x1)) 31 (pq_nightsZ h x1)) (zw_upL h1 31 (pq_nightsZ h x1)) := by
    refine ⟨fun i k q => q1.1 i k q, ?_⟩
    funext a
    rw [pq_upL_at, pq_upL_at, q1.2]
  exact ⟨_, h1, h2, n, m, e1, e2, pq_I_le (Nat.le_succ B) (pq_I_eq (pq_I_eq (pq_I_upL hI _) q3) q2)⟩
theorem pq_opK {B : Nat} {C M : zw_Hp → Option (Int32 × zw_Hp)} {h : zw_Hp} (o : pq_op B C M h) (K : zw_Hp → Option Int32) : ∃ h2 n' m', pq_I n' m' (B + 1) h2 ∧ (C h).bind (fun z => (M z.2).bind (fun w => if z.1 = w.1 then K w.2 else some 0)) = K h2 := by
  obtain ⟨r, h1, h2, n', m', e1, e2, hI⟩ := o
  refine ⟨h2, n', m', hI, ?_⟩
  rw [e1, Option.bind_some]
  show (M h1).bind _ = _
  rw [e2, Option.bind_some]
  exact if_pos rfl
theorem pq_opKP {B : Nat} {C : zw_Hp → Option Int32} {M : zw_Hp → Option (Int32 × zw_Hp)} {h : zw_Hp} (o : pq_opP B C M h) (K : zw_Hp → Option Int32) : ∃ h2 n' m', pq_I n' m' (B + 1) h2 ∧ (C h).bind (fun z => (M h).bind (fun w => if z = w.1 then K w.2 else some 0)) = K h2 := by
  obtain ⟨r, h2, n', m', e1, e2, hI⟩ := o
  refine ⟨h2, n', m', hI, ?_⟩
  rw [e1, Option.bind_some, e2, Option.bind_some]
  exact if_pos rfl
theorem pq_lg0 (z : Int64) : lg_cmp z z = 0 := by
  unfold lg_cmp
  rw [if_neg (fun q => absurd q (Int64.lt_irrefl (a := z))), if_pos rfl]
theorem pq_opKL {n m B : Nat} {h : zw_Hp} (hI : pq_I n m B h) (x : Int64) (K : zw_Hp → Option Int32) : ∃ h2 n' m', pq_I n' m' (B + 1) h2 ∧ (M_X8_seed x h).bind (fun z => (M_X9_seed x z.2).bind (fun w => if lg_cmp z.1 w.1 = 0 then K w.2 else some 0)) = K h2 := by
  obtain ⟨r, h1, h2, e1, e2, hI2⟩ := pq_seed hI x
  refine ⟨h2, n, m, hI2, ?_⟩
  rw [e1, Option.bind_some]
  show (M_X9_seed x h1).bind _ = _
  rw [e2, Option.bind_some]
  exact if_pos (pq_lg0 r)
theorem pq_shareK {n m B : Nat} (hB : B < 2 ^ 26) {h : zw_Hp} (hI : pq_I n m B h) {L : Nat} {xs : Nat → Int32} (k18 : (Int32 × zw_Hp) → Option Int32) (x3 : Int32) (o1 : zw_ok (x3 + 1) L = true) (o2 : zw_ok (x3 + 2) L = true) (b : Int32) (hb : b = if xs (x3 + 2).toNatClampNeg = 0 then 0 else 1) : ∃ h2 n' m', pq_I n' m' (B + 1) h2 ∧ B_L_law_643 L xs k18 x3 b (xs (x3 + 1).toNatClampNeg) h = B_L_law_977 L xs k18 x3 h2 := by
  obtain ⟨r, h1, h2, n', m', e1, e2, hI2⟩ := pq_share (B := B) (by omega) hI (xs (x3 + 1).toNatClampNeg) b
  refine ⟨h2, n', m', hI2, ?_⟩
  have e3 : B_L_law_665 L xs k18 x3 b (xs (x3 + 1).toNatClampNeg) r h1 = B_L_law_977 L xs k18 x3 h2 := by
    unfold B_L_law_665
    rw [e2, Option.bind_some]
    exact if_pos rfl
  unfold B_L_law_643
  rw [e1, Option.bind_some, if_pos o1, if_pos o2]
  by_cases q : xs (x3 + 2).toNatClampNeg = 0
  · rw [if_pos q] at hb ⊢
    rw [hb] at e3; exact e3
  · rw [if_neg q] at hb ⊢
    rw [hb] at e3; exact e3
theorem pq_fallsK {n m B : Nat} (hB : B < 2 ^ 26) {h : zw_Hp} (hI : pq_I n m B h) {L : Nat} {xs : Nat → Int32} (k18 : (Int32 × zw_Hp) → Option Int32) (x3 : Int32) (o1 : zw_ok (x3 + 1) L = true) (o2 : zw_ok (x3 + 2) L = true) (o3 : zw_ok (x3 + 3) L = true) (b : Int32) (hb : b = if xs (x3 + 3).toNatClampNeg = 0 then 0 else 1) : ∃ h2 n' m', pq_I n' m' (B + 1) h2 ∧ B_L_law_819 L xs k18 x3 b (xs (x3 + 2).toNatClampNeg) (xs (x3 + 1).toNatClampNeg) h = B_L_law_977 L xs k18 x3 h2 := by
  obtain ⟨r, h1, h2, n', m', e1, e2, hI2⟩ := pq_falls (B := B) (by omega) hI (xs (x3 + 1).toNatClampNeg) (xs (x3 + 2).toNatClampNeg) b
  refine ⟨h2, n', m', hI2, ?_⟩
  have e3 : B_L_law_846 L xs k18 x3 b (xs (x3 + 2).toNatClampNeg) (xs (x3 + 1).toNatClampNeg) r h1 = B_L_law_977 L xs k18 x3 h2 := by
    unfold B_L_law_846
    rw [e2, Option.bind_some]
    exact if_pos rfl
  unfold B_L_law_819
  rw [e1, Option.bind_some, if_pos o1, if_pos o2, if_pos o3]
  by_cases q : xs (x3 + 3).toNatClampNeg = 0
  · rw [if_pos q] at hb ⊢
    rw [hb] at e3; exact e3
  · rw [if_neg q] at hb ⊢
    rw [hb] at e3; exact e3

set_option maxRecDepth 100000 in
set_option maxHeartbeats 4000000 in
theorem pq_lawS {n m B : Nat} (hB : B < 2 ^ 26) {h : zw_Hp} (hI : pq_I n m B h) {L : Nat} {xs : Nat → Int32} (k18 : (Int32 × zw_Hp) → Option Int32) {x3 : Int32} (hx : ¬ (Int32.ofNat L - (4 : Int32)) < x3) (o0 : zw_ok x3 L = true) (o1 : zw_ok (x3 + 1) L = true) (o2 : zw_ok (x3 + 2) L = true) (o3 : zw_ok (x3 + 3) L = true) : ∃ h2 n' m', pq_I n' m' (B + 1) h2 ∧ B_L_law_18 L xs k18 x3 h = B_L_law_977 L xs k18 x3 h2 := by
  unfold B_L_law_18
  rw [if_neg hx, if_pos o0]
  generalize (xs (x3).toNatClampNeg) &&& (31 : Int32) = y
  by_cases q0 : y = 0
  · rw [if_pos q0]
    simp only [o1, o2, o3, if_true]
    exact pq_opK (pq_write hI _) _
  rw [if_neg q0]
  by_cases q1 : y = 1
  · rw [if_pos q1]
    exact pq_opK (pq_wipe hI) _
  rw [if_neg q1]
  by_cases q2 : y = 2
  · rw [if_pos q2]
    exact pq_opK (pq_fault hI) _
  rw [if_neg q2]
  by_cases q3 : y = 3
  · rw [if_pos q3]
    exact pq_opK (pq_night hI) _
  rw [if_neg q3]
  by_cases q4 : y = 4
  · rw [if_pos q4]
    simp only [o1, o2, o3, if_true]
    exact pq_opKP (pq_about hI _) _
  rw [if_neg q4]
  by_cases q5 : y = 5
  · rw [if_pos q5]
    simp only [o1, o2, o3, if_true]
    exact pq_opKP (pq_person hI _ _) _
  rw [if_neg q5]
  by_cases q6 : y = 6
  · rw [if_pos q6]
    simp only [o1, o2, o3, if_true]
    exact pq_opKP (pq_stand hI _ _) _
  rw [if_neg q6]
  by_cases q7 : y = 7
  · rw [if_pos q7]
    simp only [o1, o2, o3, if_true]
    exact pq_opKP (pq_bucket hI _ _) _
  rw [if_neg q7]
  by_cases q8 : y = 8
  · rw [if_pos q8]
    exact pq_opK (pq_beat (by omega) hI) _
  rw [if_neg q8]
  by_cases q9 : y = 9
  · rw [if_pos q9]
    simp only [o1, o2, o3, if_true]
    exact pq_opK (pq_change hI _ _) _
  rw [if_neg q9]
  by_cases q10 : y = 10
  · rw [if_pos q10]
    simp only [o1, o2, o3, if_true]
    exact pq_opK (pq_mendOp hI _) _
  rw [if_neg q10]
  by_cases q11 : y = 11
  · rw [if_pos q11]
    simp only [o1, o2, o3, if_true]
    exact pq_opK (pq_dropOp hI _) _
  rw [if_neg q11]
  by_cases q12 : y = 12
  · rw [if_pos q12]
    exact pq_opK (pq_undo hI) _
  rw [if_neg q12]
  by_cases q13 : y = 13
  · rw [if_pos q13]
    simp only [o1, o2, o3, if_true]
    exact pq_opK (pq_laterO hB hI _ _) _
  rw [if_neg q13]
  by_cases q14 : y = 14
  · rw [if_pos q14]
    exact pq_opK (pq_outO hB hI) _
  rw [if_neg q14]
  by_cases q15 : y = 15
  · rw [if_pos q15]
    simp only [o1, o2, o3, if_true]
    exact pq_opK (pq_swapO hB hI _ _) _
  rw [if_neg q15]
  by_cases q16 : y = 16
  · rw [if_pos q16]
    simp only [o1, o2, o3, if_true]
    exact pq_opK (pq_lineO hB hI _ _) _
  rw [if_neg q16]
  by_cases q17 : y = 17
  · rw [if_pos q17]
    simp only [o1, o2, o3, if_true]
    exact pq_opK (pq_judgeO hB hI _ _) _
  rw [if_neg q17]
  by_cases q18 : y = 18
  · rw [if_pos q18, if_pos o1, if_pos o2]
    by_cases z : xs (x3 + 2).toNatClampNeg = 0
    · rw [if_pos z]
      exact pq_shareK hB hI k18 x3 o1 o2 0 (by rw [if_pos z])
    · rw [if_neg z]
      exact pq_shareK hB hI k18 x3 o1 o2 1 (by rw [if_neg z])
  rw [if_neg q18]
  by_cases q19 : y = 19
  · rw [if_pos q19]
    simp only [o1, o2, o3, if_true]
    exact pq_opK (pq_see hI _ _ _) _
  rw [if_neg q19]
  by_cases q20 : y = 20
  · rw [if_pos q20]
    exact pq_opK (pq_unsee hI) _
  rw [if_neg q20]
  by_cases q21 : y = 21
  · rw [if_pos q21]
    simp only [o1, o2, o3, if_true]
    exact pq_opKP (pq_fires hI _) _
  rw [if_neg q21]
  by_cases q22 : y = 22
  · rw [if_pos q22]
    simp only [o1, o2, o3, if_true]
    exact pq_opK (pq_restsO hB hI _ _ _) _
  rw [if_neg q22]
  by_cases q23 : y = 23
  · rw [if_pos q23, if_pos o1, if_pos o2, if_pos o3]
    by_cases z : xs (x3 + 3).toNatClampNeg = 0
    · rw [if_pos z]
      exact pq_fallsK hB hI k18 x3 o1 o2 o3 0 (by rw [if_pos z])
    · rw [if_neg z]
      exact pq_fallsK hB hI k18 x3 o1 o2 o3 1 (by rw [if_neg z])
  rw [if_neg q23]
  by_cases q24 : y = 24
  · rw [if_pos q24]
    simp only [o1, o2, o3, if_true]
    exact pq_opKL hI _ _
  rw [if_neg q24]
  by_cases q25 : y = 25
  · rw [if_pos q25]
    simp only [o1, o2, o3, if_true]
    exact pq_opK (pq_nightsO hB hI _) _
  rw [if_neg q25]
  by_cases q26 : y = 26
  · rw [if_pos q26]
    simp only [o1, o2, o3, if_true]
    exact pq_opK (pq_keep hI _) _
  rw [if_neg q26]
  by_cases q27 : y = 27
  · rw [if_pos q27]
    simp only [o1, o2, o3, if_true]
    exact pq_opK (pq_again hI _) _
  rw [if_neg q27]
  exact ⟨h, n, m, pq_I_le (Nat.le_succ B) hI, rfl⟩
theorem pq_lawE {L i : Nat} (hL : L ≤ 2048) (hi : i ≤ 2048) : ((Int32.ofNat L - (4 : Int32)) < nI i) ↔ L < i + 4 := by
  show (nI L - 4 < nI i) ↔ L < i + 4
  by_cases q : L < 4
  · refine ⟨fun _ => by omega, fun _ => ?_⟩
    have : nI L - 4 < 0 := by rcases (show L = 0 ∨ L = 1 ∨ L = 2 ∨ L = 3 by omega) with rfl | rfl | rfl | rfl <;> decide
    exact Int32.lt_of_lt_of_le this (nI_pos' (by omega))
  · rw [show nI L - 4 = nI (L - 4) from pk_sub (a := L) (b := 4) (by omega), nI_ltI (by omega) (by omega)]
    omega
theorem pq_lawL {L : Nat} (hL : L ≤ 2048) (xs : Nat → Int32) : ∀ (d N i B n m : Nat) (h : zw_Hp), L ≤ i + 4 * d + 3 → d < N → i ≤ 2048 → B + d ≤ 4096 → pq_I n m B h → zw_it (fun (k18 : (Int32 × zw_Hp) → Option (Int32)) (w : Int32 × zw_Hp) => B_L_law_18 L xs k18 (w.1) (w.2)) N (nI i, h) = some 1 := by
  have fin : ∀ (k18 : (Int32 × zw_Hp) → Option (Int32)) (i : Nat) (h : zw_Hp), i ≤ 2048 → L < i + 4 → B_L_law_18 L xs k18 (nI i) h = some 1 := fun k18 i h hi q => by
    unfold B_L_law_18
    rw [if_pos ((pq_lawE hL hi).mpr q)]
  intro d
  induction d with
  | zero =>
    intro N i B n m h hd hN hi hB hI
    obtain ⟨N', rfl⟩ : ∃ N', N = N' + 1 := ⟨N - 1, by omega⟩
    rw [pq_it_s]
    exact fin _ i h hi (by omega)
  | succ d ih =>
    intro N i B n m h hd hN hi hB hI
    obtain ⟨N', rfl⟩ : ∃ N', N = N' + 1 := ⟨N - 1, by omega⟩
    rw [pq_it_s]
    by_cases q : L < i + 4
    · exact fin _ i h hi q
    · have ok : ∀ j, j < 4 → zw_ok (nI (i + j)) L = true := fun j hj => pq_ok_nI (by omega) (by omega)
      obtain ⟨h2, n', m', hI2, e⟩ := pq_lawS (L := L) (xs := xs) (by omega) hI (zw_it (fun (k18 : (Int32 × zw_Hp) → Option (Int32)) (w : Int32 × zw_Hp) => B_L_law_18 L xs k18 (w.1) (w.2)) N') (x3 := nI i) (fun z => q ((pq_lawE hL hi).mp z)) (ok 0 (by omega)) (by rw [show nI i + 1 = nI (i + 1) from nI_add i 1]; exact ok 1 (by omega)) (by rw [show nI i + 2 = nI (i + 2) from nI_add i 2]; exact ok 2 (by omega)) (by rw [show nI i + 3 = nI (i + 3) from nI_add i 3]; exact ok 3 (by omega))
      refine e.trans ?_
      unfold B_L_law_977
      refine pq_nmG (fun y ey => ?_)
      rw [ey, show nI i + 4 = nI (i + 4) from nI_add i 4]
      exact ih N' (i + 4) (B + 1) n' m' h2 (by omega) (by omega) (by omega) (by omega) hI2
theorem pq_lawR {L : Nat} (hL : L ≤ 2048) (xs : Nat → Int32) {n m : Nat} {h : zw_Hp} (hI : pq_I n m 0 h) : L_L_law_18 L xs (0, h) = some 1 :=
  pq_lawL hL xs 513 600 0 0 n m h (by omega) (by omega) (by omega) (by omega) hI
