def pq_swapV (h : zw_Hp) (n : Nat) (x1 x2 : Int32) : Int32 := if 1 ≤ x1 ∧ x1 ≤ 20 then (if 0 ≤ x2 ∧ x2 ≤ 1 then (if x2 = 0 then (pq_sw (pq_swF h n x1.toNatClampNeg) n n 0 (pq_v h n x1.toNatClampNeg 19, 99)).1 else (pq_sw (pq_swF h n x1.toNatClampNeg) n n 0 (pq_v h n x1.toNatClampNeg 19, 99)).2) else -2) else -2
theorem pq_swF_eq {h h' : zw_Hp} (e : pq_eq h h') (n T : Nat) : pq_swF h' n T = pq_swF h n T := by
  funext i j
  unfold pq_swF
  obtain ⟨e6, e7, e8⟩ := pq_row678 e
  rw [pq_eq_cg e, e6, e7, e8]
theorem pq_swapV_eq {h h' : zw_Hp} (e : pq_eq h h') (n : Nat) (x1 x2 : Int32) : pq_swapV h' n x1 x2 = pq_swapV h n x1 x2 := by
  unfold pq_swapV
  rw [pq_swF_eq e, pq_v_eq e]
theorem pq_swapC {n m B : Nat} {h : zw_Hp} (hI : pq_I n m B h) (x1 x2 : Int32) : ∃ h1, M_X8_swap x1 x2 h = some (pq_swapV h n x1 x2, h1) ∧ pq_eq h h1 := by
  unfold M_X8_swap pq_swapV
  rcases pq_rng x1 (a := 1) (b := 20) (by decide) (by decide) with ⟨a1, a2⟩ | ⟨j, a1, a2, a3, a4⟩
  · have a1' : ¬ (1 ≤ x1 ∧ x1 ≤ 20) := a1
    have a2' : x1 < 1 ∨ 20 < x1 := a2
    refine ⟨h, ?_, pq_eq_rf h⟩
    rw [if_neg a1']
    by_cases q : x1 < 1
    · rw [if_pos q]
    · rw [if_neg q, if_pos (a2'.resolve_left q)]
  · have a4' : 1 ≤ x1 ∧ x1 ≤ 20 := a4
    have q1 : ¬ x1 < 1 := Int32.not_lt.mpr a4'.1
    have q2 : ¬ 20 < x1 := Int32.not_lt.mpr a4'.2
    rw [if_neg q1, if_neg q2, if_pos a4', pq_01]
    simp only [Option.bind_some]
    by_cases b1 : 0 ≤ x2 ∧ x2 ≤ 1
    · simp only [if_pos b1, if_neg pq_10]
      rw [a3, nI_clamp (by omega)]
      unfold M_X4_tryExchanges
      rw [pq_copyFrom]
      simp only [Option.bind_some]
      rw [pq_passBeats (Or.inr rfl) h hI.1 (show j < 600 by omega) hI.now.1]
      simp only [Option.bind_some, zw_nm]
      rw [pq_cp_0 _ h (by decide), pq_cp_uo _ h _ (by omega), pq_cp_uo _ _ _ (by omega)]
      unfold L_X4_tryExchanges_39
      obtain ⟨c', e⟩ := pq_swC2 hI (T := j) (by omega) n 600 0 (pq_v h n j) (pq_v h n j 19, 99) (by omega) (by have := hI.1.2.1; omega)
      have e' : zw_it (fun (k39 : (Int32 × Int32 × zw_Hp) → Option (zw_Hp)) (w : Int32 × Int32 × zw_Hp) => B_X4_tryExchanges_39 k39 (w.1) (w.2.1) (w.2.2)) 600 (nI j, 0, pq_cp 14 (pq_bts (h.1 7) (h.1 8) (h.1 6 7) (h.1 6 6) n (pq_cg 9 h) j) (zw_up (zw_up h 28 4 (pq_bts (h.1 7) (h.1 8) (h.1 6 7) (h.1 6 6) n (pq_cg 9 h) j (7 + 12))) 28 5 99)) = some (pq_cp 14 c' (pq_ss (pq_sw (pq_swF h n j) n n 0 (pq_v h n j 19, 99)) h)) := e
      rw [e']
      simp only [Option.bind_some]
      rw [pq_cp_off _ _ (by omega), (pq_ss_4 _ h).1, (pq_ss_4 _ h).2]
      refine ⟨pq_cp 14 c' (pq_ss (pq_sw (pq_swF h n j) n n 0 (pq_v h n j 19, 99)) h), ?_, pq_eq_tr (pq_eq_ss _ h) (pq_eq_cp _ c')⟩
      by_cases x0 : x2 = 0
      · rw [if_pos x0, if_pos x0]
      · rw [if_neg x0, if_neg x0]
    · exact ⟨h, by simp [b1], pq_eq_rf h⟩
/-! the model's -/
def pq_ms (st : Int32 × Int32) (h : zw_Hp) : zw_Hp := zw_up (zw_up h 31 29 st.1) 31 30 st.2
theorem pq_eq_ms (st : Int32 × Int32) (h : zw_Hp) : pq_eq h (pq_ms st h) := pq_eq_tr (pq_eq_up h _ (by decide)) (pq_eq_up _ _ (by decide))
theorem pq_ms_off (st : Int32 × Int32) (h : zw_Hp) {i : Nat} (hi : i ≠ 31) : (pq_ms st h).1 i = h.1 i := by
  funext k
  unfold pq_ms
  rw [pq_up_at, if_neg (fun q => hi q.1), pq_up_at, if_neg (fun q => hi q.1)]
theorem pq_ms_4 (st : Int32 × Int32) (h : zw_Hp) : (pq_ms st h).1 31 29 = st.1 ∧ (pq_ms st h).1 31 30 = st.2 := by
  unfold pq_ms
  simp [pq_up_at]
theorem pq_ms_ms (st st' : Int32 × Int32) (h : zw_Hp) : zw_up (zw_up (pq_ms st h) 31 29 st'.1) 31 30 st'.2 = pq_ms st' h := by
  refine pq_hext (fun a b => ?_) rfl
  unfold pq_ms
  simp only [pq_up_at]
  by_cases h1 : a = 31 ∧ b = 30
  · simp [h1]
  · by_cases h2 : a = 31 ∧ b = 29
    · simp [h2]
    · simp [h1, h2]
theorem pq_C_of {n m : Nat} {h h' : zw_Hp} (e : pq_eq h h') (hC : pq_Cf n m h) : pq_C n m (h.1 7) (h.1 8) (h.1 6 7) (h.1 6 6) h' := by
  unfold pq_Cf pq_C at hC
  unfold pq_C
  rw [e.1 31 6 (by decide), e.1 31 8 (by decide), e.1 31 5 (by decide), e.1 31 4 (by decide), pq_eq_row e (i := 33) (fun k => pq_rl_t k (by omega) (by omega) (by omega) (by omega)), pq_eq_row e (i := 34) (fun k => pq_rl_t k (by omega) (by omega) (by omega) (by omega))]
  exact hC
theorem pq_upR_upR (h : zw_Hp) (i : Nat) (a b : pq_Pg) : zw_upR (zw_upR h i a) i b = zw_upR h i b := by
  refine pq_hext (fun x y => ?_) rfl
  rw [pq_upR_at, pq_upR_at, pq_upR_at]
  by_cases q : x = i
  · rw [if_pos q, if_pos q]
  · rw [if_neg q, if_neg q, if_neg q]
theorem pq_up_upR (h : zw_Hp) {i j : Nat} (hij : j ≠ i) (g : pq_Pg) (k : Nat) (v : Int32) : zw_up (zw_upR h i g) j k v = zw_upR (zw_up h j k v) i g := by
  refine pq_hext (fun x y => ?_) rfl
  rw [pq_up_at, pq_upR_at, pq_upR_at]
  by_cases q : x = i
  · rw [if_pos q, if_pos q, if_neg (by omega)]
  · rw [if_neg q, if_neg q, pq_up_at]
/-- begin over a trial that is in use -/
theorem pq_mbegin2 (h : zw_Hp) (g : pq_Pg) : M_X9_begin (zw_upR h 38 g) = some (zw_upR h 38 (pq_b21 (h.1 37) g 21)) := by
  rw [pq_mbegin, pq_upR_upR, pq_mp, pq_upR_off h g (show (37 : Nat) ≠ 38 by decide)]
theorem pq_swM1 {n m B : Nat} (hB : B < 2 ^ 29) {h : zw_Hp} (hI : pq_I n m B h) {T : Nat} (hT : T < 600) (y : Int32) {i : Nat} (hi : i < n) (k60 : (Int32 × Int32 × Int32 × zw_Hp) → Option (Int32 × zw_Hp)) : ∀ (d N j : Nat) (g : pq_Pg) (st : Int32 × Int32), j + d = n → i < j → d < N →
    ∃ g', zw_it (fun (k73 : (Int32 × Int32 × Int32 × Int32 × zw_Hp) → Option (Int32 × zw_Hp)) (w : Int32 × Int32 × Int32 × Int32 × zw_Hp) => B_X9_swap_73 k60 k73 (w.1) (w.2.1) (w.2.2.1) (w.2.2.2.1) (w.2.2.2.2)) N (nI T, y, nI i, nI j, zw_upR (pq_ms st h) 38 g) = k60 (nI T, y, nI (i + 1), zw_upR (pq_ms (pq_sw1 (pq_swF h n T) i d j st) h) 38 g') := by
  obtain ⟨p1, hn, hm, hZ, hg, p6⟩ := hI.1
  obtain ⟨n1, n2, n3, n4⟩ := hI.now
  intro d
  induction d with
  | zero =>
    intro N j g st hj hij hN
    obtain ⟨N', rfl⟩ : ∃ N', N = N' + 1 := ⟨N - 1, by omega⟩
    refine ⟨g, ?_⟩
    rw [pq_it_s]
    simp only []
    rw [B_X9_swap_73, pq_upR_off _ g (show (31 : Nat) ≠ 38 by decide), (pq_C_of (pq_eq_ms st h) hI.2.2.1).1, show j = n by omega, if_pos (Int32.le_refl _)]
    simp only [zw_nm, nI_1]
    rfl
  | succ d ih =>
    intro N j g st hj hij hN
    obtain ⟨N', rfl⟩ : ∃ N', N = N' + 1 := ⟨N - 1, by omega⟩
    have hC := pq_C_of (pq_eq_ms st h) hI.2.2.1
    have hW := pq_Wb_xc hn n1 hi (show j < n by omega) (by omega)
    obtain ⟨g1, e1, R1⟩ := pq_goChange (pp := 38) (g := pq_b21 (h.1 37) g 21) (Or.inr rfl) hn hC n1.1 (pq_R_b21 hn hm n3) hi (show j < n by omega)
    obtain ⟨a1, -, -⟩ := n1.1.stand hn hi
    obtain ⟨b1, -, -⟩ := n1.1.stand hn (show j < n by omega)
    obtain ⟨g2, e2, R2⟩ := pq_goBeats hn hm hZ hg _ hC hT hB hW R1 (sm := 31) (by rw [pq_xc_hi (by omega) (by omega) (by omega), n4]; exact pq_msk0 n hn)
    rw [pq_it_s]
    simp only []
    rw [B_X9_swap_73, pq_upR_off _ g (show (31 : Nat) ≠ 38 by decide), hC.1, if_neg (nI_ge (by omega) (by omega)), pq_mbegin2, pq_ms_off st h (show (37 : Nat) ≠ 31 by decide)]
    simp only [Option.bind_some]
    rw [e1]
    simp only [Option.bind_some]
    rw [e2]
    simp only [Option.bind_some, zw_nm, B_X9_swap_140, nI_1]
    rw [if_pos (show zw_ok (19 : Int32) 21 = true by decide), if_pos (show zw_ok (19 : Int32) 21 = true by decide), show (19 : Int32).toNatClampNeg = 19 from rfl, pq_mp, pq_upR_off _ g2 (show (31 : Nat) ≠ 38 by decide), (pq_ms_4 st h).1, R2.2.2 19 (by omega) (by omega), pq_up_upR _ (by decide), pq_up_upR _ (by decide)]
    have em := pq_ms_ms st (pq_swF h n T i j, 10 * nI i + nI j) h
    simp only at em
    have ih1 := ih N' (j + 1) g2 (pq_pf (pq_swF h n T i j) (10 * nI i + nI j) st) (by omega) (by omega) (by omega)
    unfold pq_pf at ih1
    show ∃ g', (if pq_swF h n T i j ≤ st.1 then _ else _) = k60 (nI T, y, nI (i + 1), zw_upR (pq_ms (pq_sw1 (pq_swF h n T) i d (j + 1) (if pq_swF h n T i j ≤ st.1 then st else (pq_swF h n T i j, 10 * nI i + nI j))) h) 38 g')
    by_cases q : pq_swF h n T i j ≤ st.1
    · rw [if_pos q] at ih1 ⊢
      rw [if_pos q]
      exact ih1
    · rw [if_neg q] at ih1 ⊢
      rw [if_neg q]
      have em2 : zw_up (zw_up (pq_ms st h) 31 29 (pq_bts (h.1 7) (h.1 8) (h.1 6 7) (h.1 6 6) n (pq_xc (pq_cg 9 h) (nI i) (nI j)) T 19)) 31 30 (10 * nI i + nI j) = pq_ms (pq_swF h n T i j, 10 * nI i + nI j) h := em
      rw [em2]
      exact ih1
theorem pq_swM2 {n m B : Nat} (hB : B < 2 ^ 29) {h : zw_Hp} (hI : pq_I n m B h) {T : Nat} (hT : T < 600) (y : Int32) : ∀ (d N i : Nat) (g : pq_Pg) (st : Int32 × Int32), i + d = n → d < N →
    ∃ g', zw_it (fun (k60 : (Int32 × Int32 × Int32 × zw_Hp) → Option (Int32 × zw_Hp)) (w : Int32 × Int32 × Int32 × zw_Hp) => B_X9_swap_60 k60 (w.1) (w.2.1) (w.2.2.1) (w.2.2.2)) N (nI T, y, nI i, zw_upR (pq_ms st h) 38 g) = some (if y = 0 then (pq_sw (pq_swF h n T) n d i st).1 else (pq_sw (pq_swF h n T) n d i st).2, zw_upR (pq_ms (pq_sw (pq_swF h n T) n d i st) h) 38 g') := by
  have hn := hI.1.2.1
  intro d
  induction d with
  | zero =>
    intro N i g st hi hN
    obtain ⟨N', rfl⟩ : ∃ N', N = N' + 1 := ⟨N - 1, by omega⟩
    refine ⟨g, ?_⟩
    rw [pq_it_s]
    simp only []
    rw [B_X9_swap_60, pq_upR_off _ g (show (31 : Nat) ≠ 38 by decide), (pq_C_of (pq_eq_ms st h) hI.2.2.1).1, show i = n by omega, if_pos (Int32.le_refl _), (pq_ms_4 st h).1, (pq_ms_4 st h).2]
    by_cases q : y = 0
    · rw [if_pos q, if_pos q]; rfl
    · rw [if_neg q, if_neg q]; rfl
  | succ d ih =>
    intro N i g st hi hN
    obtain ⟨N', rfl⟩ : ∃ N', N = N' + 1 := ⟨N - 1, by omega⟩
    rw [pq_it_s]
    simp only []
    rw [B_X9_swap_60, pq_upR_off _ g (show (31 : Nat) ≠ 38 by decide), (pq_C_of (pq_eq_ms st h) hI.2.2.1).1, if_neg (nI_ge (by omega) (by omega))]
    simp only [zw_nm, nI_1]
    unfold L_X9_swap_73
    obtain ⟨g1, e1⟩ := pq_swM1 hB hI hT y (show i < n by omega) (zw_it (fun (k60 : (Int32 × Int32 × Int32 × zw_Hp) → Option (Int32 × zw_Hp)) (w : Int32 × Int32 × Int32 × zw_Hp) => B_X9_swap_60 k60 (w.1) (w.2.1) (w.2.2.1) (w.2.2.2)) N') (n - (i + 1)) 600 (i + 1) g st (by omega) (by omega) (by omega)
    rw [e1]
    exact ih N' (i + 1) g1 _ (by omega) (by omega)
theorem pq_swapM {n m B : Nat} (hB : B < 2 ^ 29) {h : zw_Hp} (hI : pq_I n m B h) (x1 x2 : Int32) : ∃ h1, M_X9_swap x1 x2 h = some (pq_swapV h n x1 x2, h1) ∧ pq_eq h h1 := by
  have e0 : pq_eq h (zw_up h 31 0 0) := pq_eq_up h 0 (by decide)
  rw [← pq_swapV_eq e0]
  have hI := pq_I_eq hI e0
  unfold M_X9_swap pq_swapV
  simp only [zw_nm]
  generalize zw_up h 31 0 0 = H at e0 hI ⊢
  rw [show (0 : Int64) = (0 : Int32).toInt64 from rfl, show (20 : Int64) = (20 : Int32).toInt64 from rfl, show (1 : Int64) = (1 : Int32).toInt64 from rfl]
  simp only [pq_in, Option.bind_some]
  rcases pq_rng x1 (a := 1) (b := 20) (by decide) (by decide) with ⟨a1, a2⟩ | ⟨j, a1, a2, a3, a4⟩
  · have a1' : ¬ (1 ≤ x1 ∧ x1 ≤ 20) := a1
    exact ⟨_, by rw [if_neg a1', if_neg a1', if_pos rfl], e0⟩
  · have a4' : 1 ≤ x1 ∧ x1 ≤ 20 := a4
    rw [if_pos a4', if_pos a4', if_neg pq_10]
    by_cases b1 : 0 ≤ x2 ∧ x2 ≤ 1
    · rw [if_pos b1, if_pos b1, if_neg pq_10, a3, nI_clamp (by omega)]
      obtain ⟨g', e2, R2⟩ := pq_mod_beats hB hI (T := j) (by omega)
      rw [pq_mbegin] at e2 ⊢
      simp only [Option.bind_some] at e2 ⊢
      rw [e2]
      simp only [Option.bind_some]
      rw [if_pos (show zw_ok (19 : Int32) 21 = true by decide), show (19 : Int32).toNatClampNeg = 19 from rfl, pq_mp, R2.2.2 19 (by omega) (by omega), pq_up_upR _ (by decide), pq_up_upR _ (by decide)]
      unfold L_X9_swap_60
      obtain ⟨g2, e3⟩ := pq_swM2 hB hI (T := j) (by omega) x2 n 600 0 g' (pq_v H n j 19, 99) (by omega) (by have := hI.1.2.1; omega)
      have e3' : zw_it (fun (k60 : (Int32 × Int32 × Int32 × zw_Hp) → Option (Int32 × zw_Hp)) (w : Int32 × Int32 × Int32 × zw_Hp) => B_X9_swap_60 k60 (w.1) (w.2.1) (w.2.2.1) (w.2.2.2)) 600 (nI j, x2, 0, zw_upR (zw_up (zw_up H 31 29 (pq_bts (H.1 7) (H.1 8) (H.1 6 7) (H.1 6 6) n (pq_cg 9 H) j 19)) 31 30 99) 38 g') = _ := e3
      rw [e3']
      exact ⟨_, rfl, pq_eq_tr e0 (pq_eq_tr (pq_eq_ms _ H) (pq_eq_upR _ g2 pq_rl_38))⟩
    · exact ⟨_, by rw [if_neg b1, if_neg b1, if_pos rfl], e0⟩
