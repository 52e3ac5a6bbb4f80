/-! beat, change, mend, drop -/
theorem pq_C_frA {n m : Nat} {h H : zw_Hp} (e : pq_fr pq_tA h H) (hC : pq_Cf n m h) : pq_C n m (h.1 7) (h.1 8) (h.1 6 7) (h.1 6 6) H := by
  have r := pq_fr_row e
  unfold pq_Cf pq_C at *
  rw [r 33 (fun k => rfl), r 34 (fun k => rfl), e.1 31 4 rfl, e.1 31 5 rfl, e.1 31 6 rfl, e.1 31 8 rfl]
  exact hC
theorem pq_xr_0 {c : pq_Pg} (h : c 21 = 0) : pq_xr c = c := by
  funext k
  unfold pq_xr
  by_cases q : k = 21
  · subst q; rw [if_pos rfl, h]
  · rw [if_neg q]
theorem pq_Sn_mk {n m B : Nat} {w : Int32} {c g : pq_Pg} (h21 : c 21 = 0) (h1 : pq_Wb n m B c) (h2 : pq_W8 m c) (h3 : pq_R 4 w n m c g) : pq_Sn n m B w c g := by
  unfold pq_Sn
  rw [pq_xr_0 h21]
  exact ⟨h1, h2, h3⟩
theorem pq_beat {n m B : Nat} (hB : B < 2 ^ 29) {h : zw_Hp} (hI : pq_I n m B h) : pq_op B M_X8_beat M_X9_beat h := by
  obtain ⟨p1, hn, hm, hZ, hg, hw⟩ := hI.1
  obtain ⟨n1, n2, n3, n4⟩ := hI.now
  obtain ⟨h1, r1, f1, c1, act⟩ := pq_act hI
  have r := pq_fr_row f1
  have r6 := r 6 (fun k => rfl)
  have r7 := r 7 (fun k => rfl)
  have r8 := r 8 (fun k => rfl)
  have c21 : pq_bt (h.1 7) (h.1 8) (h.1 6 7) (h.1 6 6) n (pq_cg 9 h) 21 = 0 := by rw [pq_bt_17 (by omega)]; exact n4
  obtain ⟨H2, s1, s2, s3, s4⟩ := act _ c21
  have hC2 := pq_C_frA s2 hI.2.2.1
  obtain ⟨g', e2, R2⟩ := pq_goBeat (pp := 37) (sm := 31) (Or.inl rfl) hn hm hC2 hZ n1.1 n1.2.1 n1.2.2.1 (pq_Wb_B (by omega) n1) n3 (by rw [n4]; exact pq_msk0 n hn)
  refine ⟨pq_bt (h.1 7) (h.1 8) (h.1 6 7) (h.1 6 6) n (pq_cg 9 h) 19 - pq_cg 9 h 19, pq_cp 9 (pq_bt (h.1 7) (h.1 8) (h.1 6 7) (h.1 6 6) n (pq_cg 9 h)) h1, zw_upR H2 37 g', n, m, ?_, ?_, ?_⟩
  · unfold M_X8_beat
    rw [r1]
    simp only [Option.bind_some, if_true, if_neg pq_10]
    have := pq_passBeat (t := 9) (Or.inl rfl) hn (pq_cg 9 h1) h1 (by rw [r6]; exact p1) (by rw [c1]; exact n1.1.who) (by rw [c1]; exact n1.2.1.plc hn)
    rw [pq_cp_cg, r6, r7, r8, c1] at this
    rw [this]
    rfl
  · unfold M_X9_beat
    simp only [zw_nm]
    rw [s1]
    simp only [Option.bind_some, if_true, if_neg pq_10]
    rw [← s3, pq_upR_id] at e2
    rw [e2]
    rfl
  · exact s4 g' (pq_Sn_mk c21 (pq_Wb_bt hn hZ hg n1) (pq_W8_bt hm hn n2) R2)
theorem pq_change {n m B : Nat} {h : zw_Hp} (hI : pq_I n m B h) (x1 x2 : Int32) : pq_op B (M_X8_change x1 x2) (M_X9_change x1 x2) h := by
  obtain ⟨p1, hn, hm, hZ, hg, hw⟩ := hI.1
  obtain ⟨n1, n2, n3, n4⟩ := hI.now
  have hI2 := pq_I_m0 hI
  have q6 := hI2.2.2.1.1
  rcases pq_num x1 (n := n) (by omega) with ⟨u1, _⟩ | ⟨a, ha, ea, va⟩
  · refine pq_opId (r := -1) hI ?_ ?_
    · unfold M_X8_change
      rw [pq_hasPerson hn x1 p1, if_neg u1]
      simp only [Option.bind_some, if_true, if_neg pq_10]
    · unfold M_X9_change
      simp only [zw_nm]
      rw [pq_noOne hn x1 q6, if_neg u1]
      simp only [Option.bind_some, if_true, if_neg pq_10]
  · rcases pq_num x2 (n := n) (by omega) with ⟨u2, _⟩ | ⟨b, hb, eb, vb⟩
    · refine pq_opId (r := -1) hI ?_ ?_
      · unfold M_X8_change
        rw [pq_hasPerson hn x1 p1, if_pos va, pq_hasPerson hn x2 p1, if_neg u2]
        simp only [Option.bind_some, if_true, if_neg pq_10]
      · unfold M_X9_change
        simp only [zw_nm]
        rw [pq_noOne hn x1 q6, if_pos va, pq_noOne hn x2 q6, if_neg u2]
        simp only [Option.bind_some, if_true, if_neg pq_10]
    · by_cases ab : a = b
      · have e12 : x1 = x2 := by rw [ea, eb, ab]
        refine pq_opId (r := -2) hI ?_ ?_
        · unfold M_X8_change
          rw [pq_hasPerson hn x1 p1, if_pos va, pq_hasPerson hn x2 p1, if_pos vb]
          simp only [Option.bind_some, if_true, if_neg pq_10]
          rw [if_pos e12]
        · unfold M_X9_change
          simp only [zw_nm]
          rw [pq_noOne hn x1 q6, if_pos va, pq_noOne hn x2 q6, if_pos vb]
          simp only [Option.bind_some, if_true, if_neg pq_10]
          rw [if_pos e12]
      · have e12 : ¬ x1 = x2 := by
          rw [ea, eb]
          intro z
          exact ab ((nI_eq (by omega) (by omega)).mp z)
        obtain ⟨h1, r1, f1, c1, act⟩ := pq_act hI
        have r := pq_fr_row f1
        obtain ⟨sa, _, _⟩ := n1.1.stand hn ha
        obtain ⟨sb, _, _⟩ := n1.1.stand hn hb
        have c21 : pq_xc (pq_cg 9 h) (nI a) (nI b) 21 = 0 := by rw [pq_xc_hi (by omega) (by omega) (by omega)]; exact n4
        obtain ⟨H2, s1, s2, s3, s4⟩ := act _ c21
        have hC2 := pq_C_frA s2 hI.2.2.1
        have hWx := pq_Wb_xc hn n1 ha hb ab
        obtain ⟨g', e2, R2⟩ := pq_goChange (pp := 37) (Or.inl rfl) hn hC2 n1.1 n3 ha hb
        refine ⟨pq_si (pq_so (pq_xc (pq_cg 9 h) (nI a) (nI b)) (nI a)), pq_cp 9 (pq_xc (pq_cg 9 h) (nI a) (nI b)) h1, zw_upR H2 37 g', n, m, ?_, ?_, ?_⟩
        · unfold M_X8_change
          rw [pq_hasPerson hn x1 p1, if_pos va, pq_hasPerson hn x2 p1, if_pos vb]
          simp only [Option.bind_some, if_true, if_neg pq_10]
          rw [if_neg e12, r1]
          simp only [Option.bind_some, if_true, if_neg pq_10]
          have z := pq_exchange (t := 9) hn (c := pq_cg 9 h1) (by rw [c1]; exact n1.1) ha hb h1
          rw [pq_cp_cg, c1] at z
          rw [ea, eb, z]
          simp only [Option.bind_some, if_true, if_neg pq_10]
          rw [pq_standOf]
          rfl
        · unfold M_X9_change
          simp only [zw_nm]
          rw [← s3, pq_upR_id] at e2
          have hI3 : pq_C n m (h.1 7) (h.1 8) (h.1 6 7) (h.1 6 6) (zw_up (pq_cp 9 (pq_xc (pq_cg 9 h) (nI a) (nI b)) h1) 31 0 0) := pq_C_frA (pq_fr_up (pq_fr_cp9 f1 _) _ rfl) hI.2.2.1
          rw [pq_noOne hn x1 hI3.1, if_pos va, pq_noOne hn x2 hI3.1, if_pos vb]
          simp only [Option.bind_some, if_true, if_neg pq_10]
          rw [if_neg e12, s1]
          simp only [Option.bind_some, if_true, if_neg pq_10]
          rw [ea, eb, e2]
          simp only [Option.bind_some, if_true, if_neg pq_10]
          rw [pq_mo (Or.inl rfl) H2 g' (by decide), hC2.1, pq_mstandOf (Or.inl rfl) hn, pq_sf_so hn hWx.1 R2.1 ha]
          rfl
        · exact s4 g' (pq_Sn_mk c21 (pq_Wb_le (by omega) hWx) (pq_W8_xc hm hn n1.1 ha hb n2) R2)
theorem pq_mendOp {n m B : Nat} {h : zw_Hp} (hI : pq_I n m B h) (x1 : Int32) : pq_op B (M_X8_mend x1) (M_X9_mend x1) h := by
  obtain ⟨p1, hn, hm, hZ, hg, hw⟩ := hI.1
  obtain ⟨n1, n2, n3, n4⟩ := hI.now
  have hI2 := pq_I_m0 hI
  have q8 := hI2.2.2.1.2.1
  have ok17 : zw_ok (17 : Int32) 21 = true := by decide
  have n17 : (17 : Int32).toNatClampNeg = 17 := rfl
  rcases pq_num x1 (n := m) (by omega) with ⟨u1, _⟩ | ⟨b, hb, eb, vb⟩
  · refine pq_opId (r := -1) hI ?_ ?_
    · unfold M_X8_mend
      rw [pq_hasBucket hm x1 hI.2.1, if_neg u1]
      simp only [Option.bind_some, if_true, if_neg pq_10]
    · unfold M_X9_mend
      simp only [zw_nm]
      rw [pq_noBucket hm x1 q8, if_neg u1]
      simp only [Option.bind_some, if_true, if_neg pq_10]
  · have b4 : b < 4 := by omega
    have hh := pq_hasHole 9 b b4 (pq_cg 9 h) h
    rw [pq_cp_cg] at hh
    by_cases bit : ((pq_cg 9 h 17 >>> (nI b &&& 31)) &&& 1) = 1
    · obtain ⟨h1, r1, f1, c1, act⟩ := pq_act hI
      have c21 : pq_mnd (pq_cg 9 h) b 21 = 0 := by unfold pq_mnd; rw [pq_upd_ne (by omega)]; exact n4
      obtain ⟨H2, s1, s2, s3, s4⟩ := act _ c21
      have hWx : pq_Wb n m B (pq_mnd (pq_cg 9 h) b) := pq_Wb_mnd hm b4 n1
      obtain ⟨⟨q, q1, q2⟩, _⟩ := hWx.2.2.1
      have q16 : q < 16 := Nat.lt_of_lt_of_le q1 (pq_p16 hm)
      have e17 : pq_cg 9 h 17 &&& (((1 : Int32) <<< (nI b &&& 31)) ^^^ (-1 : Int32)) = nI q := by
        rw [← q2]
        unfold pq_mnd
        rw [pq_upd_eq]
      have hI3 : pq_C n m (h.1 7) (h.1 8) (h.1 6 7) (h.1 6 6) (zw_up (pq_cp 9 (pq_mnd (pq_cg 9 h) b) h1) 31 0 0) := pq_C_frA (pq_fr_up (pq_fr_cp9 f1 _) _ rfl) hI.2.2.1
      have hH2 : H2.1 37 17 = pq_cg 9 h 17 := by rw [s3]; exact n3.2.2 17 (by omega) (by omega)
      refine ⟨nI (pq_pop q), pq_cp 9 (pq_mnd (pq_cg 9 h) b) h1, zw_upR H2 37 (upd (h.1 37) 17 (nI q)), n, m, ?_, ?_, ?_⟩
      · unfold M_X8_mend
        rw [pq_hasBucket hm x1 hI.2.1, if_pos vb, eb, hh, if_pos bit]
        simp only [Option.bind_some, if_true, if_neg pq_10]
        rw [r1]
        simp only [Option.bind_some, if_true, if_neg pq_10]
        have z : M_X3_closeHole 9 (nI b) h1 = some (pq_cp 9 (pq_mnd (pq_cg 9 h) b) h1) := by
          have w : M_X3_closeHole 9 (nI b) (pq_cp 9 (pq_cg 9 h1) h1) = some (pq_cp 9 (pq_mnd (pq_cg 9 h1) b) h1) := by
            unfold M_X3_closeHole pq_mnd
            simp only [zw_nm]
            rw [pq_cp_u0 _ h1 _ (by decide), pq_cp_0 _ h1 (by decide)]
          rw [pq_cp_cg, c1] at w
          exact w
        rw [z]
        simp only [Option.bind_some, if_true, if_neg pq_10]
        rw [pq_cp_0 _ h1 (by decide), q2, pq_bc q16]
        rfl
      · have g17 : (zw_up (pq_cp 9 (pq_mnd (pq_cg 9 h) b) h1) 31 0 0).1 37 17 = pq_cg 9 h 17 := by
          rw [pq_up_off _ (by decide), pq_cp_off _ _ (by omega)]
          have := s4
          have f37 : h1.1 37 = h.1 37 := by
            obtain ⟨a, o, a1, a2, a3, a4, a5, a6⟩ := hI.2.2.2.2.2.1
            have : some h1 = some (pq_rmC h a o) := by rw [← r1]; exact pq_rem a1 a2 a3 a5
            cases this
            exact pq_rmC_off h a o (by decide) (by decide)
          rw [f37]
          exact n3.2.2 17 (by omega) (by omega)
        unfold M_X9_mend
        simp only [zw_nm]
        rw [pq_noBucket hm x1 hI3.2.1, if_pos vb]
        simp only [Option.bind_some, if_true, if_neg pq_10]
        rw [if_pos ok17, pq_has, n17, g17, eb, if_pos bit]
        simp only [Option.bind_some, if_true, if_neg pq_10]
        rw [s1]
        simp only [Option.bind_some, if_true, if_neg pq_10]
        rw [if_pos ok17, if_pos ok17, hH2, e17, if_pos ok17, show (zw_up H2 37 17 (nI q)).1 37 17 = nI q by rw [pq_up_at, if_pos ⟨rfl, rfl⟩], pq_many q16]
        simp only [Option.bind_some, if_true, if_neg pq_10]
        rw [← s3]
        rfl
      · refine s4 _ (pq_Sn_mk c21 (pq_Wb_le (by omega) hWx) (pq_W8_mnd hm n2) ?_)
        unfold pq_mnd
        rw [e17]
        exact pq_R_hi n3 hn hm (by omega) _
    · refine pq_opId (r := -3) hI ?_ ?_
      · unfold M_X8_mend
        rw [pq_hasBucket hm x1 hI.2.1, if_pos vb, eb, hh, if_neg bit]
        simp only [Option.bind_some, if_true, if_neg pq_10]
      · unfold M_X9_mend
        simp only [zw_nm]
        rw [pq_noBucket hm x1 q8, if_pos vb]
        simp only [Option.bind_some, if_true, if_neg pq_10]
        rw [if_pos ok17, pq_has, n17, pq_up_off _ (by decide), n3.2.2 17 (by omega) (by omega), eb, if_neg bit]
        simp only [Option.bind_some, if_true, if_neg pq_10]
theorem pq_dropOp {n m B : Nat} {h : zw_Hp} (hI : pq_I n m B h) (x1 : Int32) : pq_op B (M_X8_drop x1) (M_X9_drop x1) h := by
  obtain ⟨p1, hn, hm, hZ, hg, hw⟩ := hI.1
  obtain ⟨n1, n2, n3, n4⟩ := hI.now
  have hI2 := pq_I_m0 hI
  have q8 := hI2.2.2.1.2.1
  rcases pq_num x1 (n := m) (by omega) with ⟨u1, _⟩ | ⟨b, hb, eb, vb⟩
  · refine pq_opId (r := -1) hI ?_ ?_
    · unfold M_X8_drop
      rw [pq_hasBucket hm x1 hI.2.1, if_neg u1]
      simp only [Option.bind_some, if_true, if_neg pq_10]
    · unfold M_X9_drop
      simp only [zw_nm]
      rw [pq_noBucket hm x1 q8, if_neg u1]
      simp only [Option.bind_some, if_true, if_neg pq_10]
  · have b4 : b < 4 := by omega
    have hh := pq_isHeld 9 b b4 (pq_cg 9 h) h
    rw [pq_cp_cg] at hh
    have eg : h.1 37 (b + 5) = pq_cg 9 h (b + 5) := by
      rcases ((n3.2.1 b hb).2 (by omega)).1 with e | ⟨e1, e2⟩
      · exact e
      · exact absurd e1 (n2.2 b hb)
    obtain ⟨-, e9, e13⟩ := (n3.2.1 b hb).2 (by omega)
    by_cases hd : 5 ≤ pq_cg 9 h (b + 5)
    · refine pq_opId (r := -3) hI ?_ ?_
      · unfold M_X8_drop
        rw [pq_hasBucket hm x1 hI.2.1, if_pos vb, eb, hh, if_pos hd]
        simp only [Option.bind_some, if_true, if_neg pq_10]
      · unfold M_X9_drop
        simp only [zw_nm]
        rw [pq_noBucket hm x1 q8, if_pos vb]
        simp only [Option.bind_some, if_true, if_neg pq_10]
        rw [eb, if_pos (pq_a5 b4).2, (pq_a5 b4).1, pq_up_off _ (by decide), eg, if_neg (Int32.not_lt.mpr hd)]
    · obtain ⟨h1, r1, f1, c1, act⟩ := pq_act hI
      have r6 := pq_fr_row f1 6 (fun k => rfl)
      have c21 : pq_fall (h.1 6 7) (pq_cg 9 h) b 21 = 0 := by rw [pq_fall_off b4 (by omega)]; exact n4
      obtain ⟨H2, s1, s2, s3, s4⟩ := act _ c21
      have hC2 := pq_C_frA s2 hI.2.2.1
      have hI3 : pq_C n m (h.1 7) (h.1 8) (h.1 6 7) (h.1 6 6) (zw_up (pq_cp 9 (pq_fall (h.1 6 7) (pq_cg 9 h) b) h1) 31 0 0) := pq_C_frA (pq_fr_up (pq_fr_cp9 f1 _) _ rfl) hI.2.2.1
      have f37 : h1.1 37 = h.1 37 := by
        obtain ⟨a, o, a1, a2, a3, a4, a5, a6⟩ := hI.2.2.2.2.2.1
        have : some h1 = some (pq_rmC h a o) := by rw [← r1]; exact pq_rem a1 a2 a3 a5
        cases this
        exact pq_rmC_off h a o (by decide) (by decide)
      refine ⟨pq_cg 9 h (b + 9), pq_cp 9 (pq_fall (h.1 6 7) (pq_cg 9 h) b) h1, _, n, m, ?_, ?_, s4 _ (pq_Sn_mk c21 (pq_Wb_le (by omega) (pq_Wb_fall hn b4 n1)) (pq_W8_fall hm b4 n2) (pq_R_fall hn hm n3 hb hd))⟩
      · unfold M_X8_drop
        rw [pq_hasBucket hm x1 hI.2.1, if_pos vb, eb, hh, if_neg hd]
        simp only [Option.bind_some, if_true, if_neg pq_10]
        rw [r1]
        simp only [Option.bind_some, zw_nm, if_true, if_neg pq_10]
        rw [if_pos (pq_ok_nI b4 (by decide)), nI_clamp (by omega)]
        have z := pq_letFall (t := 9) (Or.inl rfl) b b4 (pq_cg 9 h1) h1
        rw [pq_cp_cg, c1, r6] at z
        rw [z]
        simp only [Option.bind_some, if_true, if_neg pq_10]
        have c9 : h1.1 12 b = pq_cg 9 h (b + 9) := by
          have := pq_cp_3 (t := 9) (k := b) (pq_cg 9 h1) h1 b4
          rw [pq_cp_cg, c1] at this
          exact this
        rw [c9]
      · unfold M_X9_drop
        simp only [zw_nm]
        rw [pq_noBucket hm x1 hI3.2.1, if_pos vb]
        simp only [Option.bind_some, if_true, if_neg pq_10]
        rw [eb, if_pos (pq_a5 b4).2, (pq_a5 b4).1, pq_up_off _ (by decide), pq_cp_off _ _ (by omega), f37, eg, if_pos (Int32.not_le.mp hd), s1]
        simp only [Option.bind_some, if_true, if_neg pq_10]
        rw [if_pos (pq_a9 b4).2, (pq_a9 b4).1, s3, e9]
        have z := pq_msend (pp := 37) (Or.inl rfl) (g := h.1 37) hC2 b4
        rw [← s3, pq_upR_id] at z
        rw [z, s3]
        rfl
