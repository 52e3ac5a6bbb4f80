def pq_of (K Z : Nat → Int32) (w gr : Int32) (n : Nat) : Nat → Nat → pq_Pg → Int32
  | 0, _, _ => -9
  | d + 1, j, c => if c 18 = 0 then nI j else pq_of K Z w gr n d (j + 1) (pq_bt K Z w gr n c)
theorem pq_outCL {n m : Nat} {h : zw_Hp} (hPl : pq_Pl n m h) : ∀ (d N j B : Nat) (c : pq_Pg), j + d = 61 → d < N → pq_Wb n m B c →
    ∃ c', zw_it (fun (k6 : (Int32 × zw_Hp) → Option (Int32 × zw_Hp)) (w : Int32 × zw_Hp) => B_X1_beatsUntilOut_6 k6 (w.1) (w.2)) N (nI j, pq_cp 14 c h) = some (pq_of (h.1 7) (h.1 8) (h.1 6 7) (h.1 6 6) n d j c, pq_cp 14 c' h) := by
  obtain ⟨hp, hn, hm, hZ, hg, -⟩ := id hPl
  intro d
  induction d with
  | zero =>
    intro N j B c hj hN hW
    obtain ⟨N', rfl⟩ : ∃ N', N = N' + 1 := ⟨N - 1, by omega⟩
    refine ⟨c, ?_⟩
    rw [pq_it_s]
    simp only []
    rw [B_X1_beatsUntilOut_6, show j = 61 by omega, if_pos (by decide)]
    rfl
  | succ d ih =>
    intro N j B c hj hN hW
    obtain ⟨N', rfl⟩ : ∃ N', N = N' + 1 := ⟨N - 1, by omega⟩
    have hlt : ¬ ((60 : Int32) < nI j) := nI_nlt (a := 60) (b := j) (by omega) (by decide)
    rw [pq_it_s]
    simp only []
    rw [B_X1_beatsUntilOut_6, if_neg hlt, pq_cp_0 c h (by decide)]
    show ∃ c', (if c 18 = 0 then _ else _) = some ((if c 18 = 0 then nI j else pq_of (h.1 7) (h.1 8) (h.1 6 7) (h.1 6 6) n d (j + 1) (pq_bt (h.1 7) (h.1 8) (h.1 6 7) (h.1 6 6) n c)), pq_cp 14 c' h)
    by_cases q : c 18 = 0
    · rw [if_pos q, if_pos q]
      exact ⟨c, rfl⟩
    · rw [if_neg q, if_neg q, pq_passBeat (Or.inr rfl) hn c h hp hW.1.who (hW.2.1.plc hn)]
      simp only [Option.bind_some, zw_nm, nI_1]
      exact ih N' (j + 1) (B + 1) _ (by omega) (by omega) (pq_Wb_bt hn hZ hg hW)
theorem pq_outML {n m : Nat} {K Z : Nat → Int32} {w gr : Int32} (hn : n ≤ 5) (hm : m ≤ 4) (hZ : ∀ b, b < m → pq_s9 (Z b)) (hg : pq_s9 gr) {h : zw_Hp} (hC : pq_C n m K Z w gr h) : ∀ (d N j B : Nat) (c g : pq_Pg), j + d = 61 → d < N → B + d < 2 ^ 30 → pq_Wb n m B c → pq_R 4 w n m c g → pq_msk n (c 21) 31 →
    ∃ g', zw_it (fun (k11 : (Int32 × zw_Hp) → Option (Int32 × zw_Hp)) (w : Int32 × zw_Hp) => B_X9_out_11 k11 (w.1) (w.2)) N (nI j, zw_upR h 38 g) = some (pq_of K Z w gr n d j c, zw_upR h 38 g') := by
  intro d
  induction d with
  | zero =>
    intro N j B c g hj hN hB hW hR hs
    obtain ⟨N', rfl⟩ : ∃ N', N = N' + 1 := ⟨N - 1, by omega⟩
    refine ⟨g, ?_⟩
    rw [pq_it_s]
    simp only []
    rw [B_X9_out_11, show j = 61 by omega, if_pos (by decide)]
    rfl
  | succ d ih =>
    intro N j B c g hj hN hB hW hR hs
    obtain ⟨N', rfl⟩ : ∃ N', N = N' + 1 := ⟨N - 1, by omega⟩
    have hlt : ¬ ((60 : Int32) < nI j) := nI_nlt (a := 60) (b := j) (by omega) (by decide)
    rw [pq_it_s]
    simp only []
    rw [B_X9_out_11, if_neg hlt, if_pos (show zw_ok (18 : Int32) 21 = true by decide), pq_mp, show (18 : Int32).toNatClampNeg = 18 from rfl, hR.2.2 18 (by omega) (by omega)]
    show ∃ g', (if c 18 = 0 then _ else _) = some ((if c 18 = 0 then nI j else pq_of K Z w gr n d (j + 1) (pq_bt K Z w gr n c)), zw_upR h 38 g')
    by_cases q : c 18 = 0
    · rw [if_pos q, if_pos q]
      exact ⟨g, rfl⟩
    · obtain ⟨g1, e1, R1⟩ := pq_goBeat (pp := 38) (Or.inr rfl) hn hm hC hZ hW.1 hW.2.1 hW.2.2.1 (pq_Wb_B (by omega) hW) hR hs
      rw [if_neg q, if_neg q, e1]
      simp only [Option.bind_some, zw_nm, nI_1]
      exact ih N' (j + 1) (B + 1) _ g1 (by omega) (by omega) (by omega) (pq_Wb_bt (K := K) (w := w) hn hZ hg hW) R1 (by rw [pq_bt_17 (by omega)]; exact hs)
def pq_outV (h : zw_Hp) (n : Nat) : Int32 := pq_of (h.1 7) (h.1 8) (h.1 6 7) (h.1 6 6) n 61 0 (pq_cg 9 h)
theorem pq_row678 {h h' : zw_Hp} (e : pq_eq h h') : h'.1 6 = h.1 6 ∧ h'.1 7 = h.1 7 ∧ h'.1 8 = h.1 8 :=
  ⟨pq_eq_row e (i := 6) (fun k => pq_rl_t k (by omega) (by omega) (by omega) (by omega)), pq_eq_row e (i := 7) (fun k => pq_rl_t k (by omega) (by omega) (by omega) (by omega)), pq_eq_row e (i := 8) (fun k => pq_rl_t k (by omega) (by omega) (by omega) (by omega))⟩
theorem pq_outV_eq {h h' : zw_Hp} (e : pq_eq h h') (n : Nat) : pq_outV h' n = pq_outV h n := by
  unfold pq_outV
  obtain ⟨e6, e7, e8⟩ := pq_row678 e
  rw [pq_eq_cg e, e6, e7, e8]
theorem pq_outC {n m B : Nat} {h : zw_Hp} (hI : pq_I n m B h) : ∃ h1, M_X8_out h = some (pq_outV h n, h1) ∧ pq_eq h h1 := by
  unfold M_X8_out M_X1_beatsUntilOut
  rw [pq_begin]
  simp only [Option.bind_some]
  obtain ⟨c', e⟩ := pq_outCL hI.1 61 600 0 B (pq_cg 9 h) (by omega) (by omega) hI.now.1
  unfold L_X1_beatsUntilOut_6
  rw [show (0 : Int32) = nI 0 from rfl, e]
  exact ⟨_, rfl, pq_eq_cp h _⟩
theorem pq_outM {n m B : Nat} (hB : B < 2 ^ 29) {h : zw_Hp} (hI : pq_I n m B h) : ∃ h1, M_X9_out h = some (pq_outV h n, h1) ∧ pq_eq h h1 := by
  unfold M_X9_out
  simp only [zw_nm]
  have e0 : pq_eq h (zw_up h 31 0 0) := pq_eq_up h 0 (by decide)
  have hI2 := pq_I_eq hI e0
  rw [← pq_outV_eq e0]
  rw [pq_mbegin]
  simp only [Option.bind_some]
  obtain ⟨h1, h2, h3, h4, h5, h6⟩ := hI2.1
  obtain ⟨n1, n2, n3, n4⟩ := hI2.now
  obtain ⟨g', e⟩ := pq_outML h2 h3 h4 h5 hI2.2.2.1 61 600 0 B (pq_cg 9 (zw_up h 31 0 0)) _ (by omega) (by omega) (by omega) n1 (pq_R_b21 (g := (zw_up h 31 0 0).1 38) h2 h3 n3) (by rw [n4]; exact pq_msk0 n h2)
  unfold L_X9_out_11
  rw [show ((0 : Int32), zw_upR (zw_up h 31 0 0) 38 (pq_b21 ((zw_up h 31 0 0).1 37) ((zw_up h 31 0 0).1 38) 21)) = (nI 0, zw_upR (zw_up h 31 0 0) 38 (pq_b21 ((zw_up h 31 0 0).1 37) ((zw_up h 31 0 0).1 38) 21)) from rfl, e]
  exact ⟨_, rfl, pq_eq_tr e0 (pq_eq_upR _ g' pq_rl_38)⟩
/-! the best change of two -/
def pq_pf (v w : Int32) (st : Int32 × Int32) : Int32 × Int32 := if v ≤ st.1 then st else (v, w)
def pq_ss (st : Int32 × Int32) (h : zw_Hp) : zw_Hp := zw_up (zw_up h 28 4 st.1) 28 5 st.2
theorem pq_ss_off (st : Int32 × Int32) (h : zw_Hp) {i : Nat} (hi : i ≠ 28) : (pq_ss st h).1 i = h.1 i := by
  funext k
  unfold pq_ss
  rw [pq_up_at, if_neg (fun q => hi q.1), pq_up_at, if_neg (fun q => hi q.1)]
theorem pq_ss_4 (st : Int32 × Int32) (h : zw_Hp) : (pq_ss st h).1 28 4 = st.1 ∧ (pq_ss st h).1 28 5 = st.2 := by
  unfold pq_ss
  simp [pq_up_at]
theorem pq_ss_ss (st st' : Int32 × Int32) (h : zw_Hp) : zw_up (zw_up (pq_ss st h) 28 4 st'.1) 28 5 st'.2 = pq_ss st' h := by
  refine pq_hext (fun a b => ?_) rfl
  unfold pq_ss
  simp only [pq_up_at]
  by_cases h1 : a = 28 ∧ b = 5
  · simp [h1]
  · by_cases h2 : a = 28 ∧ b = 4
    · simp [h2]
    · simp [h1, h2]
theorem pq_eq_ss (st : Int32 × Int32) (h : zw_Hp) : pq_eq h (pq_ss st h) := pq_eq_tr (pq_eq_up h _ (by decide)) (pq_eq_up _ _ (by decide))
theorem pq_prefer (x : Int32) (d : pq_Pg) (st : Int32 × Int32) (h : zw_Hp) : M_X4_prefer x (pq_cp 14 d (pq_ss st h)) = some (pq_cp 14 d (pq_ss (pq_pf (d 19) x st) h)) := by
  unfold M_X4_prefer pq_pf
  rw [pq_cp_0 d _ (by decide), pq_cp_off d _ (by omega), (pq_ss_4 st h).1]
  by_cases q : d 19 ≤ st.1
  · rw [if_pos q, if_pos q]
  · rw [if_neg q, if_neg q]
    simp only [zw_nm]
    rw [pq_cp_uo d _ _ (by omega), pq_cp_uo d _ _ (by omega)]
    have := pq_ss_ss st (d 19, x) h
    simp only at this
    rw [this]
def pq_sw1 (F : Nat → Nat → Int32) (i : Nat) : Nat → Nat → Int32 × Int32 → Int32 × Int32
  | 0, _, st => st
  | d + 1, j, st => pq_sw1 F i d (j + 1) (pq_pf (F i j) (10 * nI i + nI j) st)
def pq_sw (F : Nat → Nat → Int32) (n : Nat) : Nat → Nat → Int32 × Int32 → Int32 × Int32
  | 0, _, st => st
  | d + 1, i, st => pq_sw F n d (i + 1) (pq_sw1 F i (n - (i + 1)) (i + 1) st)
def pq_swF (h : zw_Hp) (n T : Nat) (i j : Nat) : Int32 := pq_bts (h.1 7) (h.1 8) (h.1 6 7) (h.1 6 6) n (pq_xc (pq_cg 9 h) (nI i) (nI j)) T 19
theorem pq_Pl_eq {n m : Nat} {h h' : zw_Hp} (e : pq_eq h h') (hp : pq_Pl n m h) : pq_Pl n m h' := by
  obtain ⟨e6, e7, e8⟩ := pq_row678 e
  unfold pq_Pl
  rw [e6, e8]
  exact hp
theorem pq_swC1 {n m B : Nat} {h : zw_Hp} (hI : pq_I n m B h) {T : Nat} (hT : T < 600) {i : Nat} (hi : i < n) (k39 : (Int32 × Int32 × zw_Hp) → Option zw_Hp) : ∀ (d N j : Nat) (c' : pq_Pg) (st : Int32 × Int32), j + d = n → i < j → d < N →
    ∃ c'', zw_it (fun (k54 : (Int32 × Int32 × Int32 × zw_Hp) → Option (zw_Hp)) (w : Int32 × Int32 × Int32 × zw_Hp) => B_X4_tryExchanges_54 k39 k54 (w.1) (w.2.1) (w.2.2.1) (w.2.2.2)) N (nI T, nI i, nI j, pq_cp 14 c' (pq_ss st h)) = k39 (nI T, nI (i + 1), pq_cp 14 c'' (pq_ss (pq_sw1 (pq_swF h n T) i d j st) h)) := by
  have hn := hI.1.2.1
  intro d
  induction d with
  | zero =>
    intro N j c' st hj hij hN
    obtain ⟨N', rfl⟩ : ∃ N', N = N' + 1 := ⟨N - 1, by omega⟩
    refine ⟨c', ?_⟩
    rw [pq_it_s]
    simp only []
    rw [B_X4_tryExchanges_54, pq_cp_off c' _ (by omega), pq_ss_off st h (by decide), hI.1.1, show j = n by omega, if_pos (Int32.le_refl _)]
    simp only [zw_nm, nI_1]
    rfl
  | succ d ih =>
    intro N j c' st hj hij hN
    obtain ⟨N', rfl⟩ : ∃ N', N = N' + 1 := ⟨N - 1, by omega⟩
    have e0 : pq_eq h (pq_ss st h) := pq_eq_ss st h
    have eH : pq_cg 9 (pq_cp 14 c' (pq_ss st h)) = pq_cg 9 h := (pq_eq_cg (pq_eq_cp _ _)).trans (pq_eq_cg e0)
    have hW := pq_Wb_xc hn hI.now.1 hi (show j < n by omega) (by omega)
    rw [pq_it_s]
    simp only []
    rw [B_X4_tryExchanges_54, pq_cp_off c' _ (by omega), pq_ss_off st h (by decide), hI.1.1, if_neg (nI_ge (by omega) (by omega)), pq_copyFrom, pq_cp_cp, eH]
    simp only [Option.bind_some]
    rw [pq_exchange hn hI.now.1.1 hi (show j < n by omega)]
    simp only [Option.bind_some]
    rw [pq_passBeats (Or.inr rfl) _ (pq_Pl_eq e0 hI.1) hT hW]
    simp only [Option.bind_some]
    rw [pq_prefer, pq_ss_off st h (by decide), pq_ss_off st h (by decide), pq_ss_off st h (by decide)]
    simp only [Option.bind_some, zw_nm, nI_1]
    exact ih N' (j + 1) _ _ (by omega) (by omega) (by omega)
theorem pq_swC2 {n m B : Nat} {h : zw_Hp} (hI : pq_I n m B h) {T : Nat} (hT : T < 600) : ∀ (d N i : Nat) (c' : pq_Pg) (st : Int32 × Int32), i + d = n → d < N →
    ∃ c'', zw_it (fun (k39 : (Int32 × Int32 × zw_Hp) → Option (zw_Hp)) (w : Int32 × Int32 × zw_Hp) => B_X4_tryExchanges_39 k39 (w.1) (w.2.1) (w.2.2)) N (nI T, nI i, pq_cp 14 c' (pq_ss st h)) = some (pq_cp 14 c'' (pq_ss (pq_sw (pq_swF h n T) n d i st) h)) := by
  have hn := hI.1.2.1
  intro d
  induction d with
  | zero =>
    intro N i c' st hi hN
    obtain ⟨N', rfl⟩ : ∃ N', N = N' + 1 := ⟨N - 1, by omega⟩
    refine ⟨c', ?_⟩
    rw [pq_it_s]
    simp only []
    rw [B_X4_tryExchanges_39, pq_cp_off c' _ (by omega), pq_ss_off st h (by decide), hI.1.1, show i = n by omega, if_pos (Int32.le_refl _)]
    rfl
  | succ d ih =>
    intro N i c' st hi hN
    obtain ⟨N', rfl⟩ : ∃ N', N = N' + 1 := ⟨N - 1, by omega⟩
    rw [pq_it_s]
    simp only []
    rw [B_X4_tryExchanges_39, pq_cp_off c' _ (by omega), pq_ss_off st h (by decide), hI.1.1, if_neg (nI_ge (by omega) (by omega))]
    simp only [zw_nm, nI_1]
    unfold L_X4_tryExchanges_54
    obtain ⟨c1, e1⟩ := pq_swC1 hI hT (show i < n by omega) (zw_it (fun (k39 : (Int32 × Int32 × zw_Hp) → Option (zw_Hp)) (w : Int32 × Int32 × zw_Hp) => B_X4_tryExchanges_39 k39 (w.1) (w.2.1) (w.2.2)) N') (n - (i + 1)) 600 (i + 1) c' st (by omega) (by omega) (by omega)
    rw [e1]
    exact ih N' (i + 1) c1 _ (by omega) (by omega)
