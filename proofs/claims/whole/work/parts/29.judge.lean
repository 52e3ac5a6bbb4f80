/-! told doings judged -/
theorem pq_3f (x : Nat) (hx : x < 1000) : nI x / 100 = nI (x / 100) ∧ nI x / 10 - nI x / 10 / 10 * 10 = nI (x / 10 % 10) ∧ nI x - nI x / 10 * 10 = nI (x % 10) := by
  have e1 := pk_div (a := x) (d := 100) (by omega) (by decide) (by decide)
  have e2 := pk_div (a := x) (d := 10) (by omega) (by decide) (by decide)
  have e3 := pk_rem (a := x / 10) (d := 10) (by omega) (by decide) (by decide)
  have e4 := pk_rem (a := x) (d := 10) (by omega) (by decide) (by decide)
  rw [← e2] at e3
  exact ⟨e1, e3, e4⟩
theorem pq_lg_ge (x y : Int64) : 0 ≤ lg_cmp x y ↔ ¬ x < y := by
  rw [← pq_lg_lt, Int32.not_lt]
def pq_jd (K Z : Nat → Int32) (w gr : Int32) (n m r : Nat) : Nat → Nat → pq_Pg → Int32
  | 0, _, _ => -9
  | d + 1, k, c => if (pq_fo K Z w gr n m (r / 1000 ^ d % 1000 / 100) (r / 1000 ^ d % 1000 / 10 % 10) (r / 1000 ^ d % 1000 % 10) c).1 = 0 then nI k else pq_jd K Z w gr n m r d (k + 1) (pq_fo K Z w gr n m (r / 1000 ^ d % 1000 / 100) (r / 1000 ^ d % 1000 / 10 % 10) (r / 1000 ^ d % 1000 % 10) c).2
theorem pq_jin (k7 : (Int32 × Int64 × Int32 × zw_Hp) → Option (Int32 × zw_Hp)) {T k : Nat} (hT : T < 2 ^ 30) (x2 : Int64) (H : zw_Hp) : ∀ (d N j v : Nat), j + d = T → d < N → v < 2 ^ 63 →
    zw_it (fun (k22 : (Int32 × Int64 × Int32 × Int64 × Int32 × zw_Hp) → Option (Int32 × zw_Hp)) (w : Int32 × Int64 × Int32 × Int64 × Int32 × zw_Hp) => B_X1_firstWrongDoing_22 k7 k22 (w.1) (w.2.1) (w.2.2.1) (w.2.2.2.1) (w.2.2.2.2.1) (w.2.2.2.2.2)) N (nI T, x2, nI k, lN v, nI j, H) =
      (M_X3_follow 14 (nI (v / 1000 ^ d % 1000 / 100)) (nI (v / 1000 ^ d % 1000 / 10 % 10)) (nI (v / 1000 ^ d % 1000 % 10)) H).bind (fun z9 => if z9.1 = 0 then some (nI k, z9.2) else k7 (nI T, x2, nI (k + 1), z9.2)) := by
  intro d
  induction d with
  | zero =>
    intro N j v hj hN hv
    obtain ⟨N', rfl⟩ : ∃ N', N = N' + 1 := ⟨N - 1, by omega⟩
    rw [pq_it_s]
    simp only []
    have e := pk_lRem (a := v) (b := 1000) hv (by decide) (by decide)
    obtain ⟨f1, f2, f3⟩ := pq_3f (v % 1000) (by omega)
    rw [B_X1_firstWrongDoing_22, show j = T by omega, if_pos (Int32.le_refl _), show (1000 : Int64) = lN 1000 from rfl, e, lN_i]
    simp only [zw_nm]
    rw [f1, f2, f3, nI_1, Nat.pow_zero, Nat.div_one]
  | succ d ih =>
    intro N j v hj hN hv
    obtain ⟨N', rfl⟩ : ∃ N', N = N' + 1 := ⟨N - 1, by omega⟩
    rw [pq_it_s]
    simp only []
    rw [B_X1_firstWrongDoing_22, if_neg (nI_ge (by omega) (by omega)), show (1000 : Int64) = lN 1000 from rfl, pk_lDiv hv (by decide) (by decide)]
    simp only [zw_nm]
    have h := ih N' (j + 1) (v / 1000) (by omega) (by omega) (by omega)
    rw [Nat.div_div_eq_div_mul, show 1000 * 1000 ^ d = 1000 ^ (d + 1) by rw [Nat.pow_succ, Nat.mul_comm]] at h
    rw [nI_1]
    exact h
theorem pq_jout {n m : Nat} {h : zw_Hp} (hPl : pq_Pl n m h) {T r : Nat} (hT : T ≤ 4) (hr : r < 2 ^ 63) : ∀ (d N k B : Nat) (c : pq_Pg), k + d = T → d < N → B + d < 2 ^ 27 → pq_Wb n m B c →
    ∃ c', zw_it (fun (k7 : (Int32 × Int64 × Int32 × zw_Hp) → Option (Int32 × zw_Hp)) (w : Int32 × Int64 × Int32 × zw_Hp) => B_X1_firstWrongDoing_7 k7 (w.1) (w.2.1) (w.2.2.1) (w.2.2.2)) N (nI T, lN r, nI k, pq_cp 14 c h) = some (pq_jd (h.1 7) (h.1 8) (h.1 6 7) (h.1 6 6) n m r d k c, pq_cp 14 c' h) := by
  obtain ⟨hp, hn, hm, hZ, hg, hw⟩ := hPl
  intro d
  induction d with
  | zero =>
    intro N k B c hj hN hB hW
    obtain ⟨N', rfl⟩ : ∃ N', N = N' + 1 := ⟨N - 1, by omega⟩
    refine ⟨c, ?_⟩
    rw [pq_it_s]
    simp only []
    rw [B_X1_firstWrongDoing_7, show k = T by omega, if_pos (Int32.le_refl _)]
    rfl
  | succ d ih =>
    intro N k B c hj hN hB hW
    obtain ⟨N', rfl⟩ : ∃ N', N = N' + 1 := ⟨N - 1, by omega⟩
    rw [pq_it_s]
    simp only []
    rw [B_X1_firstWrongDoing_7, if_neg (nI_ge (by omega) (by omega))]
    simp only [zw_nm, nI_1]
    unfold L_X1_firstWrongDoing_22
    rw [pq_jin _ (by omega) _ _ d 600 (k + 1) r (by omega) (by omega) hr, pq_follow (by omega) ⟨hp, hn, hm, hZ, hg, hw⟩ hW (by omega) (by omega) (by omega)]
    simp only [Option.bind_some]
    unfold pq_jd
    split
    · exact ⟨_, rfl⟩
    · exact ih N' (k + 1) (B + 1) _ (by omega) (by omega) (by omega) (pq_fo_keep hn hm hZ hg hW _ _ _).1
theorem pq_jbey {T r : Nat} (hT : 1 ≤ T ∧ T ≤ 4) (hr : r < 2 ^ 63) (h : zw_Hp) : L_X8_judge_25 (nI T, lN r, 1, 0, h) = if r < 1000 ^ T then (M_X1_firstWrongDoing (nI T) (lN r) h).bind (fun z6 => some (z6.1, z6.2)) else some (-2, h) := by
  unfold L_X8_judge_25
  have key : ∀ (d N j : Nat), j + d = T → d < N → zw_it (fun (k25 : (Int32 × Int64 × Int64 × Int32 × zw_Hp) → Option (Int32 × zw_Hp)) (w : Int32 × Int64 × Int64 × Int32 × zw_Hp) => B_X8_judge_25 k25 (w.1) (w.2.1) (w.2.2.1) (w.2.2.2.1) (w.2.2.2.2)) N (nI T, lN r, lN (1000 ^ j), nI j, h) = if r < 1000 ^ T then (M_X1_firstWrongDoing (nI T) (lN r) h).bind (fun z6 => some (z6.1, z6.2)) else some (-2, h) := by
    intro d
    induction d with
    | zero =>
      intro N j hj hN
      obtain ⟨N', rfl⟩ : ∃ N', N = N' + 1 := ⟨N - 1, by omega⟩
      have hp : 1000 ^ T ≤ 1000 ^ 4 := Nat.pow_le_pow_right (by omega) hT.2
      rw [pq_it_s]
      simp only []
      rw [B_X8_judge_25, show j = T by omega, if_pos (Int32.le_refl _)]
      by_cases q : r < 1000 ^ T
      · rw [if_pos q, if_neg (fun z => (pq_lg_ge _ _).mp z ((pk_lLT hr (by omega)).mpr q))]
      · rw [if_neg q, if_pos ((pq_lg_ge _ _).mpr (fun z => q ((pk_lLT hr (by omega)).mp z)))]
    | succ d ih =>
      intro N j hj hN
      obtain ⟨N', rfl⟩ : ∃ N', N = N' + 1 := ⟨N - 1, by omega⟩
      rw [pq_it_s]
      simp only []
      rw [B_X8_judge_25, if_neg (nI_ge (by omega) (by omega)), show (1000 : Int64) = lN 1000 from rfl, lN_mul]
      simp only [zw_nm, nI_1]
      exact ih N' (j + 1) (by omega) (by omega)
  exact key T 600 0 (by omega) (by omega)
def pq_judgeV (h : zw_Hp) (n m : Nat) (x1 : Int32) (x2 : Int64) : Int32 := if 1 ≤ x1 ∧ x1 ≤ 4 then (if 0 ≤ x2 ∧ x2.toInt.toNat < 1000 ^ x1.toNatClampNeg then pq_jd (h.1 7) (h.1 8) (h.1 6 7) (h.1 6 6) n m x2.toInt.toNat x1.toNatClampNeg 0 (pq_cg 9 h) else -2) else -2
theorem pq_judgeV_eq {h h' : zw_Hp} (e : pq_eq h h') (n m : Nat) (x1 : Int32) (x2 : Int64) : pq_judgeV h' n m x1 x2 = pq_judgeV h n m x1 x2 := by
  unfold pq_judgeV
  obtain ⟨e6, e7, e8⟩ := pq_row678 e
  rw [pq_eq_cg e, e6, e7, e8]
theorem pq_judgeC {n m B : Nat} (hB : B < 2 ^ 26) {h : zw_Hp} (hI : pq_I n m B h) (x1 : Int32) (x2 : Int64) : ∃ h1, M_X8_judge x1 x2 h = some (pq_judgeV h n m x1 x2, h1) ∧ pq_eq h h1 := by
  unfold M_X8_judge pq_judgeV
  rcases pq_rng x1 (a := 1) (b := 4) (by decide) (by decide) with ⟨a1, a2⟩ | ⟨j, a1, a2, a3, a4⟩
  · have a1' : ¬ (1 ≤ x1 ∧ x1 ≤ 4) := a1
    have a2' : x1 < 1 ∨ 4 < x1 := a2
    refine ⟨h, ?_, pq_eq_rf h⟩
    rw [if_neg a1']
    by_cases q : x1 < 1
    · rw [if_pos q]
    · rw [if_neg q, if_pos (a2'.resolve_left q)]
  · have a4' : 1 ≤ x1 ∧ x1 ≤ 4 := a4
    have q1 : ¬ x1 < 1 := Int32.not_lt.mpr a4'.1
    have q2 : ¬ 4 < x1 := Int32.not_lt.mpr a4'.2
    rw [if_neg q1, if_neg q2, if_pos a4']
    by_cases b1 : x2 < 0
    · rw [if_neg (fun z => (pq_lg_ge _ _).mp z b1), if_neg (fun z => absurd z.1 (Int64.not_le.mpr b1))]
      exact ⟨h, rfl, pq_eq_rf h⟩
    · rw [if_pos ((pq_lg_ge _ _).mpr b1)]
      obtain ⟨r, r1, rfl⟩ := pk_lOf b1
      have er : (lN r).toInt.toNat = r := by rw [pk_lT r1]; exact Int.toNat_natCast r
      rw [a3, pq_jbey ⟨a1, a2⟩ r1, er, nI_clamp (by omega)]
      by_cases c1 : r < 1000 ^ j
      · rw [if_pos c1, if_pos ⟨Int64.not_lt.mp b1, c1⟩]
        unfold M_X1_firstWrongDoing
        rw [pq_begin]
        simp only [Option.bind_some]
        unfold L_X1_firstWrongDoing_7
        obtain ⟨c', e⟩ := pq_jout hI.1 (T := j) a2 r1 j 600 0 B (pq_cg 9 h) (by omega) (by omega) (by omega) hI.now.1
        have e' : zw_it (fun (k7 : (Int32 × Int64 × Int32 × zw_Hp) → Option (Int32 × zw_Hp)) (w : Int32 × Int64 × Int32 × zw_Hp) => B_X1_firstWrongDoing_7 k7 (w.1) (w.2.1) (w.2.2.1) (w.2.2.2)) 600 (nI j, lN r, 0, pq_cp 14 (pq_cg 9 h) h) = _ := e
        rw [e']
        exact ⟨pq_cp 14 c' h, rfl, pq_eq_cp h c'⟩
      · rw [if_neg c1, if_neg (fun z => c1 z.2)]
        exact ⟨h, rfl, pq_eq_rf h⟩
/-! the model's -/
theorem pq_lpow {T : Nat} (hT : T ≤ 4) (h : zw_Hp) : M_X9_longPower 1000 (nI T) h = some (lN (1000 ^ T)) := by
  unfold M_X9_longPower L_X9_longPower_5
  have key : ∀ (d N j : Nat), j + d = T → d < N → zw_it (fun (k5 : (Int64 × Int32 × Int64 × Int32) → Option (Int64)) (w : Int64 × Int32 × Int64 × Int32) => B_X9_longPower_5 h k5 (w.1) (w.2.1) (w.2.2.1) (w.2.2.2)) N (1000, nI T, lN (1000 ^ j), nI j) = some (lN (1000 ^ T)) := by
    intro d
    induction d with
    | zero =>
      intro N j hj hN
      obtain ⟨N', rfl⟩ : ∃ N', N = N' + 1 := ⟨N - 1, by omega⟩
      rw [pq_it_s]
      simp only []
      rw [B_X9_longPower_5, show j = T by omega, if_pos (Int32.le_refl _)]
    | succ d ih =>
      intro N j hj hN
      obtain ⟨N', rfl⟩ : ∃ N', N = N' + 1 := ⟨N - 1, by omega⟩
      rw [pq_it_s]
      simp only []
      rw [B_X9_longPower_5, if_neg (nI_ge (by omega) (by omega))]
      simp only [zw_nm, nI_1]
      have e : lN (1000 ^ j) * 1000 = lN (1000 ^ (j + 1)) := lN_mul (1000 ^ j) 1000
      rw [e]
      exact ih N' (j + 1) (by omega) (by omega)
  exact key T 600 0 (by omega) (by omega)
theorem pq_mjout {n m : Nat} {K Z : Nat → Int32} {w gr : Int32} (hn : n ≤ 5) (hm : m ≤ 4) (hZ : ∀ b, b < m → pq_s9 (Z b)) (hg : pq_s9 gr) {h : zw_Hp} (hC : pq_C n m K Z w gr h) {T r : Nat} (hT : T ≤ 4) (hr : r < 2 ^ 63) : ∀ (d N k B : Nat) (c g : pq_Pg), k + d = T → d < N → B + d < 2 ^ 27 → pq_Wb n m B c → pq_R 4 w n m c g → c 21 = 0 →
    ∃ g', zw_it (fun (k44 : (Int32 × Int64 × Int32 × zw_Hp) → Option (Int32 × zw_Hp)) (w : Int32 × Int64 × Int32 × zw_Hp) => B_X9_judge_44 k44 (w.1) (w.2.1) (w.2.2.1) (w.2.2.2)) N (nI T, lN r, nI k, zw_upR h 38 g) = some (pq_jd K Z w gr n m r d k c, zw_upR h 38 g') := by
  intro d
  induction d with
  | zero =>
    intro N k B c g hj hN hB hW hR h21
    obtain ⟨N', rfl⟩ : ∃ N', N = N' + 1 := ⟨N - 1, by omega⟩
    refine ⟨g, ?_⟩
    rw [pq_it_s]
    simp only []
    rw [B_X9_judge_44, show k = T by omega, if_pos (Int32.le_refl _)]
    rfl
  | succ d ih =>
    intro N k B c g hj hN hB hW hR h21
    obtain ⟨N', rfl⟩ : ∃ N', N = N' + 1 := ⟨N - 1, by omega⟩
    have e1 : nI T - 1 - nI k = nI d := by
      rw [show (1 : Int32) = nI 1 from rfl, pk_sub (by omega), pk_sub (by omega)]
      congr 1
      omega
    have hp : 1000 ^ d ≤ 1000 ^ 4 := Nat.pow_le_pow_right (by omega) (by omega)
    have hp0 : 0 < 1000 ^ d := Nat.pow_pos (by omega)
    have hne : ¬ lN (1000 ^ d) = 0 := fun q => by
      have := (pk_lEQ (a := 1000 ^ d) (b := 0) (by omega) (by decide)).mp q
      omega
    have e2 : ((lN r / lN (1000 ^ d)) - (lN r / lN (1000 ^ d)) / 1000 * 1000).toInt32 = nI (r / 1000 ^ d % 1000) := by
      rw [pk_lDiv hr hp0 (by omega)]
      have := pk_lRem (a := r / 1000 ^ d) (b := 1000) (Nat.lt_of_le_of_lt (Nat.div_le_self _ _) hr) (by decide) (by decide)
      have e : lN (r / 1000 ^ d) - lN (r / 1000 ^ d) / 1000 * 1000 = lN (r / 1000 ^ d % 1000) := this
      rw [e, lN_i]
    rw [pq_it_s]
    simp only []
    rw [B_X9_judge_44, if_neg (nI_ge (by omega) (by omega)), e1, pq_lpow (by omega)]
    simp only [Option.bind_some]
    rw [if_pos hne, e2]
    generalize ex : r / 1000 ^ d % 1000 = x
    have hx : x < 1000 := by omega
    obtain ⟨g1, e3, R1⟩ := pq_does (gr := gr) (show B < 2 ^ 29 by omega) hn hm hC hZ hW hR h21 (d := x / 100) (a := x / 10 % 10) (b := x % 10) (by omega) (by omega) (by omega)
    rw [show 100 * (x / 100) + 10 * (x / 10 % 10) + x % 10 = x by omega] at e3
    rw [e3]
    simp only [Option.bind_some, zw_nm, nI_1]
    unfold pq_jd
    rw [ex]
    split
    · exact ⟨_, rfl⟩
    · have k1 := pq_fo_keep (K := K) (Z := Z) (w := w) (gr := gr) hn hm hZ hg hW (x / 100) (x / 10 % 10) (x % 10)
      exact ih N' (k + 1) (B + 1) _ g1 (by omega) (by omega) (by omega) k1.1 R1 (by rw [k1.2]; exact h21)
theorem pq_judgeM {n m B : Nat} (hB : B < 2 ^ 26) {h : zw_Hp} (hI : pq_I n m B h) (x1 : Int32) (x2 : Int64) : ∃ h1, M_X9_judge x1 x2 h = some (pq_judgeV h n m x1 x2, h1) ∧ pq_eq h h1 := by
  have e0 : pq_eq h (zw_up h 31 0 0) := pq_eq_up h 0 (by decide)
  rw [← pq_judgeV_eq e0]
  have hI := pq_I_eq hI e0
  unfold M_X9_judge pq_judgeV
  simp only [zw_nm]
  generalize zw_up h 31 0 0 = H at e0 hI ⊢
  rw [show (4 : Int64) = (4 : Int32).toInt64 from rfl]
  have e1 : M_X9_in x1.toInt64 1 (4 : Int32).toInt64 H = some (if 1 ≤ x1 ∧ x1 ≤ 4 then 1 else 0) := pq_in x1 1 4 H
  rw [e1]
  simp only [Option.bind_some]
  rcases pq_rng x1 (a := 1) (b := 4) (by decide) (by decide) with ⟨a1, a2⟩ | ⟨j, a1, a2, a3, a4⟩
  · have a1' : ¬ (1 ≤ x1 ∧ x1 ≤ 4) := a1
    exact ⟨_, by rw [if_neg a1', if_neg a1', if_pos rfl], e0⟩
  · have a4' : 1 ≤ x1 ∧ x1 ≤ 4 := a4
    have hp : 1000 ^ j ≤ 1000 ^ 4 := Nat.pow_le_pow_right (by omega) a2
    have hp0 : 0 < 1000 ^ j := Nat.pow_pos (by omega)
    rw [if_pos a4', if_pos a4', if_neg pq_10, a3, nI_clamp (by omega), pq_lpow (by omega)]
    simp only [Option.bind_some]
    have e2 : lN (1000 ^ j) - 1 = lN (1000 ^ j - 1) := lN_sub (a := 1000 ^ j) (b := 1) (by omega)
    rw [e2, pq_in64]
    simp only [Option.bind_some]
    by_cases b1 : x2 < 0
    · have f1 : ¬ (0 ≤ x2 ∧ x2 ≤ lN (1000 ^ j - 1)) := fun z => absurd z.1 (Int64.not_le.mpr b1)
      have f2 : ¬ (0 ≤ x2 ∧ x2.toInt.toNat < 1000 ^ j) := fun z => absurd z.1 (Int64.not_le.mpr b1)
      rw [if_neg f1, if_pos rfl, if_neg f2]
      exact ⟨_, rfl, e0⟩
    · obtain ⟨r, r1, rfl⟩ := pk_lOf b1
      have er : (lN r).toInt.toNat = r := by rw [pk_lT r1]; exact Int.toNat_natCast r
      rw [er]
      by_cases c1 : r < 1000 ^ j
      · have f1 : 0 ≤ lN r ∧ lN r ≤ lN (1000 ^ j - 1) := ⟨Int64.not_lt.mp b1, (pk_lLE r1 (by omega)).mpr (by omega)⟩
        have f2 : 0 ≤ lN r ∧ r < 1000 ^ j := ⟨Int64.not_lt.mp b1, c1⟩
        rw [if_pos f1, if_neg pq_10, if_pos f2, pq_mbegin]
        simp only [Option.bind_some]
        unfold L_X9_judge_44
        obtain ⟨p1, hn, hm, hZ, hg, p6⟩ := hI.1
        obtain ⟨n1, n2, n3, n4⟩ := hI.now
        obtain ⟨g', e⟩ := pq_mjout hn hm hZ hg hI.2.2.1 (T := j) a2 r1 j 600 0 B (pq_cg 9 H) (pq_b21 (H.1 37) (H.1 38) 21) (by omega) (by omega) (by omega) n1 (pq_R_b21 hn hm n3) n4
        have e' : zw_it (fun (k44 : (Int32 × Int64 × Int32 × zw_Hp) → Option (Int32 × zw_Hp)) (w : Int32 × Int64 × Int32 × zw_Hp) => B_X9_judge_44 k44 (w.1) (w.2.1) (w.2.2.1) (w.2.2.2)) 600 (nI j, lN r, 0, zw_upR H 38 (pq_b21 (H.1 37) (H.1 38) 21)) = _ := e
        rw [e']
        exact ⟨_, rfl, pq_eq_tr e0 (pq_eq_upR _ g' pq_rl_38)⟩
      · have f1 : ¬ (0 ≤ lN r ∧ lN r ≤ lN (1000 ^ j - 1)) := fun z => c1 (by have := (pk_lLE r1 (by omega)).mp z.2; omega)
        have f2 : ¬ (0 ≤ lN r ∧ r < 1000 ^ j) := fun z => c1 z.2
        rw [if_neg f1, if_pos rfl, if_neg f2]
        exact ⟨_, rfl, e0⟩
