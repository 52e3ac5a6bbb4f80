/-! falls of the model -/
theorem pq_flIn {n m B : Nat} (hB : B < 2 ^ 29) {h : zw_Hp} (hI : pq_I n m B h) {S x : Nat} (hS : S < 2 ^ m) (hsub : pq_sub S (pq_hm (pq_hd m (pq_cg 9 h)))) (v x3 x4 s : Int32) (k57 : (Int32 × Int32 × Int32 × Int32 × Int32 × Int32 × Int32 × zw_Hp) → Option (Int32 × zw_Hp)) {H : zw_Hp} (eH : pq_eq h H) : ∀ (d N k : Nat) (g : pq_Pg), k + d = m → d < N → pq_R 4 (h.1 6 7) n m (pq_fln (h.1 6 7) (pq_cg 9 h) S k) g →
    ∃ g', zw_it (fun (k85 : (Int32 × Int32 × Int32 × Int32 × Int32 × Int32 × Int32 × Int32 × zw_Hp) → Option (Int32 × zw_Hp)) (w : Int32 × Int32 × Int32 × Int32 × Int32 × Int32 × Int32 × Int32 × zw_Hp) => B_X9_falls_85 k57 k85 (w.1) (w.2.1) (w.2.2.1) (w.2.2.2.1) (w.2.2.2.2.1) (w.2.2.2.2.2.1) (w.2.2.2.2.2.2.1) (w.2.2.2.2.2.2.2.1) (w.2.2.2.2.2.2.2.2)) N (v, nI x, x3, x4, nI (pq_pop (pq_hm (pq_hd m (pq_cg 9 h)))), s, nI S, nI k, zw_upR H 38 g) = k57 (v, nI x, x3, x4, nI (pq_pop (pq_hm (pq_hd m (pq_cg 9 h)))), pq_c1 (pq_hd m (pq_cg 9 h)) (pq_fw h n) v x S s, nI (S + 1), zw_upR H 38 g') := by
  obtain ⟨p1, hn, hm, hZ, hg, p6⟩ := hI.1
  obtain ⟨n1, n2, n3, n4⟩ := hI.now
  have hC := pq_C_of eH hI.2.2.1
  have h16 := pq_p16 hm
  have e37 : H.1 37 = h.1 37 := pq_eq_row eH (fun k => pq_rl_t k (by omega) (by omega) (by omega) (by omega))
  have hpop : pq_pop S ≤ pq_pop (pq_hm (pq_hd m (pq_cg 9 h))) := (pq_wt_f (pq_hd m (pq_cg 9 h)) (S := S) (x := 0) (by omega) (by omega)).2.2 hsub
  have hpl := pq_popl (pq_hm (pq_hd m (pq_cg 9 h)))
  intro d
  induction d with
  | zero =>
    intro N k g hk hN hR
    obtain ⟨N', rfl⟩ : ∃ N', N = N' + 1 := ⟨N - 1, by omega⟩
    have hkm : k = m := by omega
    subst hkm
    have em := pq_fln_m (w := h.1 6 7) (c := pq_cg 9 h) hm hS (4 - k) (by omega)
    rw [show k + (4 - k) = 4 by omega] at em
    have kp := pq_fln_keep (w := h.1 6 7) hn n1 S k hm
    obtain ⟨g1, e1, R1⟩ := pq_goBeats hn hm hZ hg H hC (T := 10) (by omega) hB kp.1 hR (sm := 31) (by rw [kp.2.1 21 (by omega), n4]; exact pq_msk0 n hn)
    refine ⟨g1, ?_⟩
    have e1' : M_X9_goBeats 10 31 (zw_upR H 38 g) = _ := e1
    rw [pq_it_s]
    simp only []
    rw [B_X9_falls_85, pq_mo (Or.inr rfl) H g (by decide), hC.2.1, if_pos (Int32.le_refl _), e1']
    simp only [Option.bind_some]
    rw [pq_many (by omega)]
    simp only [Option.bind_some]
    rw [pk_sub hpop, pq_power (by omega), pq_power (by omega)]
    simp only [Option.bind_some, B_X9_falls_179, B_X9_falls_182, zw_nm, nI_1]
    rw [if_pos (show zw_ok (19 : Int32) 21 = true by decide), if_pos (show zw_ok (19 : Int32) 21 = true by decide), show (19 : Int32).toNatClampNeg = 19 from rfl, pq_mp, pq_upR_off H g1 (show (37 : Nat) ≠ 38 by decide), e37, R1.2.2 19 (by omega) (by omega), n3.2.2 19 (by omega) (by omega)]
    have hc : pq_c1 (pq_hd k (pq_cg 9 h)) (pq_fw h n) v x S s = s + (if pq_fw h n S < v then 0 else pq_pwr (nI x) (pq_pop S) * pq_pwr (10 - nI x) (pq_pop (pq_hm (pq_hd k (pq_cg 9 h))) - pq_pop S)) := if_pos hsub
    rw [hc]
    unfold pq_fw
    rw [em]
    by_cases z : pq_bts (h.1 7) (h.1 8) (h.1 6 7) (h.1 6 6) n (pq_fln (h.1 6 7) (pq_cg 9 h) S k) 10 19 - pq_cg 9 h 19 < v
    · rw [if_pos z, if_pos z]
    · rw [if_neg z, if_neg z]
  | succ d ih =>
    intro N k g hk hN hR
    obtain ⟨N', rfl⟩ : ∃ N', N = N' + 1 := ⟨N - 1, by omega⟩
    have ih' := fun g => ih N' (k + 1) g (by omega) (by omega)
    rw [pq_it_s]
    simp only []
    rw [B_X9_falls_85, pq_mo (Or.inr rfl) H g (by decide), hC.2.1, if_neg (nI_ge (by omega) (by omega)), pq_has, pq_msend (Or.inr rfl) hC (show k < 4 by omega)]
    simp only [Option.bind_some, B_X9_falls_114, zw_nm, nI_1]
    rw [pq_fln_s] at ih'
    by_cases q : pq_off S k
    · have q1 : ¬ ((nI S >>> (nI k &&& 31)) &&& 1) = 1 := fun z => (pq_off1 S k).mpr z q
      rw [if_neg q1, if_pos rfl]
      rw [if_pos q] at ih'
      exact ih' g hR
    · have q1 : ((nI S >>> (nI k &&& 31)) &&& 1) = 1 := (pq_off1 S k).mp q
      rw [if_pos q1, if_neg pq_10]
      rw [if_neg q] at ih'
      have hk' : pq_hd m (pq_cg 9 h) k = true := pq_sb_f _ (show S < 16 by omega) (show k < 4 by omega) hsub q
      have h5 : ¬ 5 ≤ pq_fln (h.1 6 7) (pq_cg 9 h) S k (k + 5) := by
        rw [(pq_fln_keep (w := h.1 6 7) hn n1 S k (by omega)).2.2 k (by omega) (by omega)]
        unfold pq_hd at hk'
        simp at hk'
        exact Int32.not_le.mpr hk'.2
      exact ih' _ (pq_R_fall hn hm hR (by omega) h5)
theorem pq_flO {n m B : Nat} (hB : B < 2 ^ 29) {h : zw_Hp} (hI : pq_I n m B h) {x : Nat} (v x3 : Int32) : ∀ (d N S : Nat) (s : Int32) (g : pq_Pg), S + d = 2 ^ m → d < N →
    ∃ g', zw_it (fun (k57 : (Int32 × Int32 × Int32 × Int32 × Int32 × Int32 × Int32 × zw_Hp) → Option (Int32 × zw_Hp)) (w : Int32 × Int32 × Int32 × Int32 × Int32 × Int32 × Int32 × zw_Hp) => B_X9_falls_57 k57 (w.1) (w.2.1) (w.2.2.1) (w.2.2.2.1) (w.2.2.2.2.1) (w.2.2.2.2.2.1) (w.2.2.2.2.2.2.1) (w.2.2.2.2.2.2.2)) N (v, nI x, x3, nI (pq_hm (pq_hd m (pq_cg 9 h))), nI (pq_pop (pq_hm (pq_hd m (pq_cg 9 h)))), s, nI S, zw_upR h 38 g) = (M_X9_fraction (pq_cs (pq_hd m (pq_cg 9 h)) (pq_fw h n) v x d S s) (pq_pwr 10 (pq_pop (pq_hm (pq_hd m (pq_cg 9 h))))) x3 (zw_upR h 38 g')).bind (fun z16 => some (z16, zw_upR h 38 g')) := by
  have hm := hI.1.2.2.1
  have h16 := pq_p16 hm
  have hC := hI.2.2.1
  obtain ⟨n1, n2, n3, n4⟩ := hI.now
  intro d
  induction d with
  | zero =>
    intro N S s g hS hN
    obtain ⟨N', rfl⟩ : ∃ N', N = N' + 1 := ⟨N - 1, by omega⟩
    refine ⟨g, ?_⟩
    rw [pq_it_s]
    simp only []
    rw [B_X9_falls_57, pq_mo (Or.inr rfl) h g (by decide), hC.2.1, pq_shm hm, show S = 2 ^ m by omega, if_pos (Int32.le_refl _), pq_power (pq_popl _)]
    rfl
  | succ d ih =>
    intro N S s g hS hN
    obtain ⟨N', rfl⟩ : ∃ N', N = N' + 1 := ⟨N - 1, by omega⟩
    rw [pq_it_s]
    simp only []
    rw [B_X9_falls_57, pq_mo (Or.inr rfl) h g (by decide), hC.2.1, pq_shm hm, if_neg (nI_ge (by omega) (by omega))]
    simp only [pq_cs]
    by_cases q : pq_sub S (pq_hm (pq_hd m (pq_cg 9 h)))
    · have q' : (nI S &&& (nI (pq_hm (pq_hd m (pq_cg 9 h))) ^^^ -1)) = 0 := q
      rw [if_pos q', pq_mbegin2]
      simp only [Option.bind_some]
      unfold L_X9_falls_85
      obtain ⟨g1, e1⟩ := pq_flIn hB hI (x := x) (show S < 2 ^ m by omega) q v x3 (nI (pq_hm (pq_hd m (pq_cg 9 h)))) s (zw_it (fun (k57 : (Int32 × Int32 × Int32 × Int32 × Int32 × Int32 × Int32 × zw_Hp) → Option (Int32 × zw_Hp)) (w : Int32 × Int32 × Int32 × Int32 × Int32 × Int32 × Int32 × zw_Hp) => B_X9_falls_57 k57 (w.1) (w.2.1) (w.2.2.1) (w.2.2.2.1) (w.2.2.2.2.1) (w.2.2.2.2.2.1) (w.2.2.2.2.2.2.1) (w.2.2.2.2.2.2.2)) N') (pq_eq_rf h) m 600 0 (pq_b21 (h.1 37) g 21) (by omega) (by omega) (pq_R_b21 hI.1.2.1 hm n3)
      rw [show nI 0 = 0 from rfl] at e1
      rw [e1]
      exact ih N' (S + 1) _ g1 (by omega) (by omega)
    · have q' : ¬ (nI S &&& (nI (pq_hm (pq_hd m (pq_cg 9 h))) ^^^ -1)) = 0 := q
      have hc : pq_c1 (pq_hd m (pq_cg 9 h)) (pq_fw h n) v x S s = s := if_neg q
      rw [if_neg q', hc]
      simp only [B_X9_falls_182, zw_nm, nI_1]
      exact ih N' (S + 1) _ g (by omega) (by omega)
theorem pq_hd_g {n m B : Nat} {h : zw_Hp} (hI : pq_I n m B h) : pq_ac (fun b => decide (0 ≤ h.1 37 (b + 5) ∧ h.1 37 (b + 5) ≤ 4)) m = nI (pq_hm (pq_hd m (pq_cg 9 h))) := by
  have hn := hI.1.2.1
  have hm := hI.1.2.2.1
  obtain ⟨n1, n2, n3, n4⟩ := hI.now
  have e1 : pq_ac (fun b => decide (0 ≤ h.1 37 (b + 5) ∧ h.1 37 (b + 5) ≤ 4)) m = pq_ac (pq_hd m (pq_cg 9 h)) m := by
    refine pq_ac_ext m (fun b hb => ?_)
    unfold pq_hd
    obtain ⟨p5, px, p9⟩ := pq_pl5 hm n3 hb
    obtain ⟨pp, -, -⟩ := (n3.2.1 b hb).2 (by omega)
    rcases pq_pok_hi hn (n1.2.1.1 b (by omega)) with ⟨p, p1, p2, p3⟩ | ⟨p1, p2⟩
    · have e := (px p (by omega)).mpr p2
      rw [e, p2]
      have a1 : 0 ≤ nI p := nI_pos' (by omega)
      have a2 : nI p ≤ 4 := nI_le (a := p) (b := 4) (by omega) (by decide)
      have a3 : ¬ 5 ≤ nI p := by rw [pq_le5 (by omega)]; omega
      rw [decide_eq_true (show 0 ≤ nI p ∧ nI p ≤ 4 from ⟨a1, a2⟩), decide_eq_true (show b < m ∧ ¬ 5 ≤ nI p from ⟨hb, a3⟩)]
    · have a1 := p5.mpr p1
      rw [decide_eq_false (show ¬ (0 ≤ h.1 37 (b + 5) ∧ h.1 37 (b + 5) ≤ 4) from fun z => absurd (Int32.le_trans a1 z.2) (by decide)), decide_eq_false (fun z => z.2 p1)]
  have e2 := pq_ac_m (P := pq_hd m (pq_cg 9 h)) (m := m) pq_hd_hi (4 - m) (by omega)
  rw [show m + (4 - m) = 4 by omega, pq_ac4] at e2
  rw [e1, ← e2]
theorem pq_cs16 {m : Nat} (hm : m ≤ 4) {P : Nat → Bool} {y : Nat → Int32} {v : Int32} {x : Nat} (hP : ∀ b, m ≤ b → b < 4 → P b = false) (s : Int32) : pq_cs P y v x 16 0 s = pq_cs P y v x (2 ^ m) 0 s := by
  have h16 := pq_p16 hm
  have := pq_cs_add (P := P) (y := y) (v := v) (x := x) (2 ^ m) (16 - 2 ^ m) 0 s
  rw [show 2 ^ m + (16 - 2 ^ m) = 16 by omega] at this
  rw [this]
  exact pq_cs_m hm hP _ _ _ (by omega) (by omega)
theorem pq_upR_id (H : zw_Hp) (j : Nat) : zw_upR H j (H.1 j) = H := by
  refine pq_hext (fun i k => ?_) rfl
  rw [pq_upR_at]
  by_cases z : i = j
  · subst z; rw [if_pos rfl]
  · rw [if_neg z]
theorem pq_fallsM2 {n m B : Nat} {H : zw_Hp} (hI : pq_I n m B H) : M_X9_bucketsAt 37 0 4 H = some (nI (pq_hm (pq_hd m (pq_cg 9 H)))) := by
  have e4 := pq_mbat (pp := 37) (Or.inl rfl) hI.1.2.2.1 H (H.1 37) hI.2.2.1.2.1 0 4
  rw [pq_upR_id, pq_hd_g hI] at e4
  exact e4
theorem pq_fallsM1 {n m B : Nat} (hB : B < 2 ^ 29) {H : zw_Hp} (hI : pq_I n m B H) (v x3 : Int32) (x : Nat) : ∃ g', L_X9_falls_57 (v, nI x, x3, nI (pq_hm (pq_hd m (pq_cg 9 H))), nI (pq_pop (pq_hm (pq_hd m (pq_cg 9 H)))), 0, 0, H) = (M_X9_fraction (pq_cs (pq_hd m (pq_cg 9 H)) (pq_fw H n) v x (2 ^ m) 0 0) (pq_pwr 10 (pq_pop (pq_hm (pq_hd m (pq_cg 9 H))))) x3 (zw_upR H 38 g')).bind (fun z16 => some (z16, zw_upR H 38 g')) := by
  have h16 := pq_p16 hI.1.2.2.1
  obtain ⟨g', e3⟩ := pq_flO hB hI (x := x) v x3 (2 ^ m) 600 0 0 (H.1 38) (by omega) (by omega)
  refine ⟨g', ?_⟩
  rw [pq_upR_id, nI_0] at e3
  rw [L_X9_falls_57, e3]
theorem pq_fallsM {n m B : Nat} (hB : B < 2 ^ 29) {H : zw_Hp} (hI : pq_I n m B H) (v x3 : Int32) (x : Nat) : ∃ g', ((M_X9_bucketsAt 37 0 4 H).bind fun z9 => (M_X9_many z9 H).bind fun z11 => L_X9_falls_57 (v, nI x, x3, z9, z11, 0, 0, H)) = (M_X9_fraction (pq_cs (pq_hd m (pq_cg 9 H)) (pq_fw H n) v x (2 ^ m) 0 0) (pq_pwr 10 (pq_pop (pq_hm (pq_hd m (pq_cg 9 H))))) x3 (zw_upR H 38 g')).bind (fun z16 => some (z16, zw_upR H 38 g')) := by
  obtain ⟨g', e3⟩ := pq_fallsM1 hB hI v x3 x
  refine ⟨g', ?_⟩
  rw [pq_fallsM2 hI, Option.bind_some, pq_many (pq_hm_lt _), Option.bind_some, e3]
theorem pq_falls {n m B : Nat} (hB : B < 2 ^ 29) {h : zw_Hp} (hI : pq_I n m B h) (x1 x2 x3 : Int32) : pq_op B (M_X8_falls x1 x2 x3) (M_X9_falls x1 x2 x3) h := by
  have hn := hI.1.2.1
  have hm := hI.1.2.2.1
  have h16 := pq_p16 hm
  have i1 : ∀ H, M_X9_in x1.toInt64 0 99 H = some (if 0 ≤ x1 ∧ x1 ≤ 99 then 1 else 0) := fun H => pq_in x1 0 99 H
  have i2 : ∀ H, M_X9_in x2.toInt64 0 10 H = some (if 0 ≤ x2 ∧ x2 ≤ 10 then 1 else 0) := fun H => pq_in x2 0 10 H
  rcases pq_rng x1 (a := 0) (b := 99) (by decide) (by decide) with ⟨a1, a2⟩ | ⟨j, a1, a2, a3, a4⟩
  · have a1' : ¬ (0 ≤ x1 ∧ x1 ≤ 99) := a1
    have a2' : x1 < 0 ∨ 99 < x1 := a2
    refine pq_opId (r := -2) hI ?_ ?_
    · unfold M_X8_falls
      by_cases q : x1 < 0
      · rw [if_pos q]
      · rw [if_neg q, if_pos (a2'.resolve_left q)]
    · unfold M_X9_falls
      simp only [zw_nm, i1, Option.bind_some]
      rw [if_neg a1', if_pos rfl]
  · have a4' : 0 ≤ x1 ∧ x1 ≤ 99 := a4
    have p1 : ¬ x1 < 0 := Int32.not_lt.mpr a4'.1
    have p2 : ¬ 99 < x1 := Int32.not_lt.mpr a4'.2
    rcases pq_rng x2 (a := 0) (b := 10) (by decide) (by decide) with ⟨b1, b2⟩ | ⟨x, b1, b2, b3, b4⟩
    · have b1' : ¬ (0 ≤ x2 ∧ x2 ≤ 10) := b1
      have b2' : x2 < 0 ∨ 10 < x2 := b2
      refine pq_opId (r := -2) hI ?_ ?_
      · unfold M_X8_falls
        rw [if_neg p1, if_neg p2]
        by_cases q : x2 < 0
        · rw [if_pos q]
        · rw [if_neg q, if_neg (Int32.not_le.mpr (b2'.resolve_left q))]
      · unfold M_X9_falls
        simp only [zw_nm, i1, i2, Option.bind_some]
        rw [if_pos a4', if_neg pq_10, if_neg b1', if_pos rfl]
    · have b4' : 0 ≤ x2 ∧ x2 ≤ 10 := b4
      have p3 : ¬ x2 < 0 := Int32.not_lt.mpr b4'.1
      obtain ⟨c', e1⟩ := pq_fallsC hI x1 x3 b2
      have e2 : pq_eq h (zw_up (pq_cp 14 c' h) 31 0 0) := pq_eq_tr (pq_eq_cp h c') (pq_eq_up _ 0 (by decide))
      have hI2 := pq_I_eq hI e2
      generalize eH : zw_up (pq_cp 14 c' h) 31 0 0 = H at hI2 e2
      obtain ⟨g', e3⟩ := pq_fallsM hB hI2 x1 x3 x
      have ef : pq_fw H n = pq_fw h n := funext fun S => pq_fw_eq e2 n S
      have ecg : pq_cg 9 H = pq_cg 9 h := pq_eq_cg e2
      have em := pq_cs16 hm (P := pq_hd m (pq_cg 9 h)) (y := pq_fw h n) (v := x1) (x := x) pq_hd_hi 0
      obtain ⟨v, v1, v2⟩ := pq_frac (pq_cs (pq_hd m (pq_cg 9 h)) (pq_fw h n) x1 x (2 ^ m) 0 0) (pq_pwr 10 (pq_pop (pq_hm (pq_hd m (pq_cg 9 h))))) x3 (pq_cp 14 c' h) (zw_upR H 38 g') (pq_pw10 _).1 (pq_pw10 _).2
      rw [em, v1] at e1
      rw [ef, ecg, v2] at e3
      refine ⟨v, pq_cp 14 c' h, zw_upR H 38 g', n, m, ?_, ?_, pq_I_le (by omega) (pq_I_eq hI2 (pq_eq_upR _ g' pq_rl_38))⟩
      · unfold M_X8_falls
        rw [if_neg p1, if_neg p2, if_neg p3, if_pos b4'.2, b3, e1]
        rfl
      · unfold M_X9_falls
        simp only [zw_nm, i1, i2, Option.bind_some]
        rw [eH, if_pos a4', if_neg pq_10, if_pos b4', if_neg pq_10]
        rw [b3, e3]
        rfl
