/-! shares -/
abbrev pq_off (S b : Nat) : Prop := ((nI S >>> (nI b &&& 31)) &&& 1) = 0
def pq_mkn (c : pq_Pg) (S : Nat) : Nat → pq_Pg
  | 0 => c
  | k + 1 => if pq_off S k then upd (pq_mkn c S k) (k + 5) 10 else pq_mkn c S k
theorem pq_mkn_s (c : pq_Pg) (S k : Nat) : pq_mkn c S (k + 1) = if pq_off S k then upd (pq_mkn c S k) (k + 5) 10 else pq_mkn c S k := rfl
theorem pq_bit01 (x y : Int32) : ((x >>> y) &&& 1) = 0 ∨ ((x >>> y) &&& 1) = 1 := by
  obtain ⟨j, j1, e⟩ := pk_andE (x >>> y) (m := 1) 1 (by decide)
  rw [e]
  rcases (show j = 0 ∨ j = 1 by omega) with rfl | rfl
  · exact Or.inl rfl
  · exact Or.inr rfl
theorem pq_off1 (S b : Nat) : ¬ pq_off S b ↔ ((nI S >>> (nI b &&& 31)) &&& 1) = 1 := by
  unfold pq_off
  rcases pq_bit01 (nI S) (nI b &&& 31) with e | e
  · rw [e]; decide
  · rw [e]; decide
theorem pq_Wb_no {n m B : Nat} (hm : m ≤ 4) {c : pq_Pg} (h : pq_Wb n m B c) {b : Nat} (hb : b < 4) : pq_Wb n m B (upd c (b + 5) 10) := by
  obtain ⟨h1, ⟨w1, w2, w3, w4⟩, ⟨⟨q, q1, q2⟩, ⟨f, f1, f2⟩⟩, ⟨⟨t, t1, t2⟩, ⟨u, u1, u2⟩⟩⟩ := h
  refine ⟨h1.of (fun s hs => pq_upd_ne (by omega)), ⟨fun a ha => ?_, fun a ha hma => ?_, fun a a' ha ha' hne he => ?_, fun a ha => ?_⟩, ⟨⟨q, q1, by rw [pq_upd_ne (by omega)]; exact q2⟩, ⟨f, f1, by rw [pq_upd_ne (by omega)]; exact f2⟩⟩, ⟨⟨t, t1, by rw [pq_upd_ne (by omega)]; exact t2⟩, ⟨u, u1, by rw [pq_upd_ne (by omega)]; exact u2⟩⟩⟩
  · by_cases z : a = b
    · subst z; rw [pq_upd_eq]; exact Or.inr (Or.inr (Or.inr rfl))
    · rw [pq_upd_ne (by omega)]; exact w1 a ha
  · by_cases z : a = b
    · subst z; rw [pq_upd_eq]
    · rw [pq_upd_ne (by omega)]; exact w2 a ha hma
  · by_cases z : a = b
    · subst z; rw [pq_upd_eq]; decide
    · rw [pq_upd_ne (show a + 5 ≠ b + 5 by omega)] at he ⊢
      by_cases z' : a' = b
      · subst z'; rw [pq_upd_eq] at he; rw [he]; decide
      · rw [pq_upd_ne (by omega)] at he; exact w3 a a' ha ha' hne he
  · rw [pq_upd_ne (by omega)]; exact w4 a ha
theorem pq_mkn_keep {n m B : Nat} (hm : m ≤ 4) {c : pq_Pg} (h : pq_Wb n m B c) (S : Nat) : ∀ k, k ≤ 4 → pq_Wb n m B (pq_mkn c S k) ∧ (∀ i, (i < 5 ∨ k + 5 ≤ i) → pq_mkn c S k i = c i) := by
  intro k
  induction k with
  | zero => intro _; exact ⟨h, fun i _ => rfl⟩
  | succ k ih =>
    intro hk
    obtain ⟨i1, i2⟩ := ih (by omega)
    unfold pq_mkn
    split
    · exact ⟨pq_Wb_no hm i1 (by omega), fun i hi => by rw [pq_upd_ne (by omega)]; exact i2 i (by omega)⟩
    · exact ⟨i1, fun i hi => i2 i (by omega)⟩
theorem pq_mkn_hi {c : pq_Pg} (S : Nat) {k : Nat} (hk : k ≤ 4) : ∀ i, 9 ≤ i → pq_mkn c S k i = c i := by
  intro i hi
  induction k with
  | zero => rfl
  | succ k ih =>
    unfold pq_mkn
    split
    · rw [pq_upd_ne (by omega)]; exact ih (by omega)
    · exact ih (by omega)
theorem pq_mkn_m {n m B : Nat} (hm : m ≤ 4) {c : pq_Pg} (h : pq_Wb n m B c) (S : Nat) : ∀ d, m + d ≤ 4 → pq_mkn c S (m + d) = pq_mkn c S m := by
  intro d
  induction d with
  | zero => intro _; rfl
  | succ d ih =>
    intro hd
    have e := ih (by omega)
    show pq_mkn c S (m + d + 1) = _
    rw [pq_mkn_s, e]
    split
    · funext i
      by_cases z : i = m + d + 5
      · subst z
        rw [pq_upd_eq, (pq_mkn_keep hm h S m hm).2 _ (by omega)]
        exact (h.2.1.2.1 (m + d) (by omega) (by omega)).symm
      · rw [pq_upd_ne z]
    · rfl
/-- what is thrown with those buckets alone -/
def pq_sv (h : zw_Hp) (n S : Nat) : Int32 := pq_bts (h.1 7) (h.1 8) (h.1 6 7) (h.1 6 6) n (pq_mkn (pq_cg 9 h) S 4) 12 19 - pq_cg 9 h 19
theorem pq_sv_eq {h h' : zw_Hp} (e : pq_eq h h') (n S : Nat) : pq_sv h' n S = pq_sv h n S := by
  unfold pq_sv
  obtain ⟨e6, e7, e8⟩ := pq_row678 e
  rw [pq_eq_cg e, e6, e7, e8]
theorem pq_twith {n m B : Nat} {h : zw_Hp} (hI : pq_I n m B h) (S : Nat) (c' : pq_Pg) : ∃ c'', M_X1_thrownWith (nI S) (pq_cp 14 c' h) = some (pq_sv h n S, pq_cp 14 c'' h) := by
  unfold M_X1_thrownWith
  have eb : M_X1_begin (pq_cp 14 c' h) = some (pq_cp 14 (pq_cg 9 h) h) := by rw [pq_begin, pq_cp_cp, pq_eq_cg (pq_eq_cp h c')]
  rw [eb]
  simp only [Option.bind_some]
  unfold L_X1_thrownWith_6
  have hm := hI.1.2.2.1
  have key : ∀ (d N k : Nat), k + d = 4 → d < N → ∃ c'', zw_it (fun (k6 : (Int32 × Int32 × zw_Hp) → Option (Int32 × zw_Hp)) (w : Int32 × Int32 × zw_Hp) => B_X1_thrownWith_6 k6 (w.1) (w.2.1) (w.2.2)) N (nI S, nI k, pq_cp 14 (pq_mkn (pq_cg 9 h) S k) h) = some (pq_sv h n S, pq_cp 14 c'' h) := by
    intro d
    induction d with
    | zero =>
      intro N k hk hN
      obtain ⟨N', rfl⟩ : ∃ N', N = N' + 1 := ⟨N - 1, by omega⟩
      have hk4 : k = 4 := by omega
      subst hk4
      rw [pq_it_s]
      simp only []
      rw [B_X1_thrownWith_6, if_pos (by decide)]
      have e := pq_passBeats (T := 12) (Or.inr rfl) h hI.1 (by omega) (pq_mkn_keep hm hI.now.1 S 4 (by omega)).1
      rw [pq_mkn_hi S (by omega) 19 (by omega)] at e
      have e' : M_X3_passBeats 14 12 (pq_cp 14 (pq_mkn (pq_cg 9 h) S 4) h) = _ := e
      rw [e']
      exact ⟨_, rfl⟩
    | succ d ih =>
      intro N k hk hN
      obtain ⟨N', rfl⟩ : ∃ N', N = N' + 1 := ⟨N - 1, by omega⟩
      have ih' := ih N' (k + 1) (by omega) (by omega)
      rw [pq_it_s]
      simp only []
      rw [B_X1_thrownWith_6, if_neg (show ¬ (4 : Int32) ≤ nI k from nI_ge (a := k) (b := 4) (by omega) (by decide)), if_pos (pq_ok_nI (by omega) (by decide)), nI_clamp (by omega)]
      simp only [zw_nm, B_X1_thrownWith_37, nI_1]
      have eu := pq_cp_up (t := 14) (pq_mkn (pq_cg 9 h) S k) h 10 (show k < 4 by omega)
      have eu' : zw_up (pq_cp 14 (pq_mkn (pq_cg 9 h) S k) h) 16 k 10 = _ := eu
      rw [eu']
      unfold pq_mkn at ih'
      by_cases q : pq_off S k
      · have q' : ((nI S >>> (nI k &&& 31)) &&& 1) = 0 := q
        rw [if_pos q] at ih'
        rw [if_pos q']
        exact ih'
      · have q' : ¬ ((nI S >>> (nI k &&& 31)) &&& 1) = 0 := q
        rw [if_neg q] at ih'
        rw [if_neg q']
        exact ih'
  exact key 4 600 0 (by omega) (by omega)
def pq_ts (y : Nat → Int32) (m b S : Nat) (s : Int32) : Int32 := if pq_off S b then s + (nI (pq_fac (pq_pop S)) * nI (pq_fac (m - 1 - pq_pop S))) * (y (S ||| 2 ^ b) - y S) else s
def pq_su (y : Nat → Int32) (m b : Nat) : Nat → Nat → Int32 → Int32
  | 0, _, s => s
  | d + 1, S, s => pq_su y m b d (S + 1) (pq_ts y m b S s)
theorem pq_pop0 : ∀ m : Fin 5, ∀ S : Fin 16, ∀ b : Fin 4, S.val < 2 ^ m.val → b.val < m.val → pq_off S.val b.val → pq_pop S.val ≤ m.val - 1 := by decide +kernel
theorem pq_or0 : ∀ S : Fin 16, ∀ b : Fin 4, nI S.val ||| ((1 : Int32) <<< (nI b.val &&& 31)) = nI (S.val ||| 2 ^ b.val) := by decide +kernel
theorem pq_shm0 : ∀ m : Fin 5, (1 : Int32) <<< (nI m.val &&& 31) = nI (2 ^ m.val) := by decide +kernel
theorem pq_shm {m : Nat} (hm : m ≤ 4) : (1 : Int32) <<< (nI m &&& 31) = nI (2 ^ m) := pq_shm0 ⟨m, by omega⟩
theorem pq_p16 {m : Nat} (hm : m ≤ 4) : 2 ^ m ≤ 16 := Nat.pow_le_pow_right (n := 2) (by omega) hm
theorem pq_popl (S : Nat) : pq_pop S ≤ 4 := by unfold pq_pop; omega
theorem pq_gain {n m B : Nat} {h : zw_Hp} (hI : pq_I n m B h) {b : Nat} (hb : b < m) : ∀ (d N S : Nat) (s : Int32) (c' : pq_Pg), S + d = 2 ^ m → d < N →
    ∃ c'', zw_it (fun (k4 : (Int32 × Int32 × Int32 × zw_Hp) → Option (Int32 × zw_Hp)) (w : Int32 × Int32 × Int32 × zw_Hp) => B_X1_gainOverOrders_4 k4 (w.1) (w.2.1) (w.2.2.1) (w.2.2.2)) N (nI b, s, nI S, pq_cp 14 c' h) = some (pq_su (pq_sv h n) m b d S s, pq_cp 14 c'' h) := by
  have hm := hI.1.2.2.1
  have h16 := pq_p16 hm
  intro d
  induction d with
  | zero =>
    intro N S s c' hS hN
    obtain ⟨N', rfl⟩ : ∃ N', N = N' + 1 := ⟨N - 1, by omega⟩
    refine ⟨c', ?_⟩
    rw [pq_it_s]
    simp only []
    rw [B_X1_gainOverOrders_4, pq_cp_off c' h (by omega), hI.2.1, pq_shm hm, show S = 2 ^ m by omega, if_pos (Int32.le_refl _)]
    rfl
  | succ d ih =>
    intro N S s c' hS hN
    obtain ⟨N', rfl⟩ : ∃ N', N = N' + 1 := ⟨N - 1, by omega⟩
    rw [pq_it_s]
    simp only []
    rw [B_X1_gainOverOrders_4, pq_cp_off c' h (by omega), hI.2.1, pq_shm hm, if_neg (nI_ge (by omega) (by omega)), if_neg (show ¬ (16 : Int32) ≤ nI S from nI_ge (a := S) (b := 16) (by omega) (by decide))]
    simp only [pq_su]
    by_cases q : pq_off S b
    · have q' : ((nI S >>> (nI b &&& 31)) &&& 1) = 0 := q
      have hp := pq_pop0 ⟨m, by omega⟩ ⟨S, by omega⟩ ⟨b, by omega⟩ (by show S < 2 ^ m; omega) hb q
      have hp' : pq_pop S ≤ m - 1 := hp
      have eo : nI S ||| ((1 : Int32) <<< (nI b &&& 31)) = nI (S ||| 2 ^ b) := pq_or0 ⟨S, by omega⟩ ⟨b, by omega⟩
      rw [if_pos q', pq_bc (by omega)]
      simp only [Option.bind_some]
      rw [pq_fact (pq_popl S), show (1 : Int32) = nI 1 from rfl, pk_sub (show 1 ≤ m by omega), pk_sub hp']
      simp only [Option.bind_some]
      rw [pq_fact (show m - 1 - pq_pop S ≤ 4 by omega), ← show (1 : Int32) = nI 1 from rfl, eo]
      simp only [Option.bind_some, zw_nm]
      obtain ⟨c1, e1⟩ := pq_twith hI (S ||| 2 ^ b) c'
      rw [e1]
      simp only [Option.bind_some]
      obtain ⟨c2, e2⟩ := pq_twith hI S c1
      rw [e2]
      simp only [Option.bind_some, B_X1_gainOverOrders_81, zw_nm, nI_1]
      have et : pq_ts (pq_sv h n) m b S s = s + (nI (pq_fac (pq_pop S)) * nI (pq_fac (m - 1 - pq_pop S))) * (pq_sv h n (S ||| 2 ^ b) - pq_sv h n S) := if_pos q
      rw [et]
      exact ih N' (S + 1) _ c2 (by omega) (by omega)
    · have q' : ¬ ((nI S >>> (nI b &&& 31)) &&& 1) = 0 := q
      rw [if_neg q']
      simp only [B_X1_gainOverOrders_81, zw_nm, nI_1]
      have et : pq_ts (pq_sv h n) m b S s = s := if_neg q
      rw [et]
      exact ih N' (S + 1) _ c' (by omega) (by omega)
/-! the model's -/
theorem pq_R_no {n m : Nat} (hn : n ≤ 5) (hm : m ≤ 4) {w : Int32} {c g : pq_Pg} (hR : pq_R 4 w n m c g) {b : Nat} (hb : b < m) : pq_R 4 w n m (upd c (b + 5) 10) (upd g (b + 5) 7) := by
  obtain ⟨h1, h2, h3⟩ := hR
  refine ⟨fun s hs => by rw [pq_upd_ne (by omega), pq_upd_ne (by omega)]; exact h1 s hs, fun a ha => ⟨fun q => by omega, fun q => ?_⟩, fun k k1 k2 => by rw [pq_upd_ne (by omega), pq_upd_ne (by omega)]; exact h3 k k1 k2⟩
  obtain ⟨d1, d2, d3⟩ := (h2 a ha).2 q
  rw [pq_upd_ne (show a + 9 ≠ b + 5 by omega), pq_upd_ne (show a + 13 ≠ b + 5 by omega), pq_upd_ne (show a + 9 ≠ b + 5 by omega), pq_upd_ne (show a + 13 ≠ b + 5 by omega)]
  refine ⟨?_, d2, d3⟩
  by_cases z : a = b
  · subst z; rw [pq_upd_eq, pq_upd_eq]; exact Or.inr ⟨rfl, rfl⟩
  · rw [pq_upd_ne (by omega), pq_upd_ne (by omega)]; exact d1
theorem pq_upd_id (g : pq_Pg) (k : Nat) : upd g k (g k) = g := by
  funext i
  by_cases z : i = k
  · subst z; rw [pq_upd_eq]
  · rw [pq_upd_ne z]
def pq_vn (y : Nat → Int32) (h : zw_Hp) : Nat → zw_Hp
  | 0 => h
  | S + 1 => zw_up (pq_vn y h S) 46 S (y S)
theorem pq_eq_vn (y : Nat → Int32) (h : zw_Hp) : ∀ k, pq_eq h (pq_vn y h k) := by
  intro k
  induction k with
  | zero => exact pq_eq_rf h
  | succ k ih => exact pq_eq_tr ih (pq_eq_up _ _ (pq_rl_45 _ (by omega)))
theorem pq_vn_at (y : Nat → Int32) (h : zw_Hp) : ∀ N j, j < N → (pq_vn y h N).1 46 j = y j := by
  intro N
  induction N with
  | zero => intro j hj; omega
  | succ N ih =>
    intro j hj
    unfold pq_vn
    rw [pq_up_at]
    by_cases z : j = N
    · subst z; rw [if_pos ⟨rfl, rfl⟩]
    · rw [if_neg (fun q => z q.2)]; exact ih j (by omega)
theorem pq_shIn {n m B : Nat} (hB : B < 2 ^ 29) {h : zw_Hp} (hI : pq_I n m B h) {S : Nat} (hS : S < 16) (x1 x2 : Int32) (k17 : (Int32 × Int32 × Int32 × zw_Hp) → Option (Int32 × zw_Hp)) {H : zw_Hp} (eH : pq_eq h H) : ∀ (d N k : Nat) (g : pq_Pg), k + d = m → d < N → pq_R 4 (h.1 6 7) n m (pq_mkn (pq_cg 9 h) S k) g →
    ∃ g', zw_it (fun (k34 : (Int32 × Int32 × Int32 × Int32 × zw_Hp) → Option (Int32 × zw_Hp)) (w : Int32 × Int32 × Int32 × Int32 × zw_Hp) => B_X9_share_34 k17 k34 (w.1) (w.2.1) (w.2.2.1) (w.2.2.2.1) (w.2.2.2.2)) N (x1, x2, nI S, nI k, zw_upR H 38 g) = k17 (x1, x2, nI (S + 1), zw_upR (zw_up H 46 S (pq_sv h n S)) 38 g') := by
  obtain ⟨p1, hn, hm, hZ, hg, p6⟩ := hI.1
  obtain ⟨n1, n2, n3, n4⟩ := hI.now
  have hC := pq_C_of eH hI.2.2.1
  have e37 : H.1 37 = h.1 37 := pq_eq_row eH (fun k => pq_rl_t k (by omega) (by omega) (by omega) (by omega))
  intro d
  induction d with
  | zero =>
    intro N k g hk hN hR
    obtain ⟨N', rfl⟩ : ∃ N', N = N' + 1 := ⟨N - 1, by omega⟩
    have hkm : k = m := by omega
    subst hkm
    have em := pq_mkn_m hm n1 S (4 - k) (by omega)
    rw [show k + (4 - k) = 4 by omega] at em
    have hW := (pq_mkn_keep hm n1 S k hm).1
    obtain ⟨g1, e1, R1⟩ := pq_goBeats hn hm hZ hg H hC (T := 12) (by omega) hB hW hR (sm := 31) (by rw [pq_mkn_hi S (by omega) 21 (by omega), n4]; exact pq_msk0 n hn)
    refine ⟨g1, ?_⟩
    have e1' : M_X9_goBeats 12 31 (zw_upR H 38 g) = _ := e1
    rw [pq_it_s]
    simp only []
    rw [B_X9_share_34, pq_mo (Or.inr rfl) H g (by decide), hC.2.1, if_pos (Int32.le_refl _), e1']
    simp only [Option.bind_some, zw_nm, nI_1]
    rw [if_pos (show zw_ok (19 : Int32) 21 = true by decide), if_pos (show zw_ok (19 : Int32) 21 = true by decide), if_pos (pq_ok_nI hS (by decide)), nI_clamp (by omega), show (19 : Int32).toNatClampNeg = 19 from rfl, pq_mp, pq_upR_off H g1 (show (37 : Nat) ≠ 38 by decide), e37, R1.2.2 19 (by omega) (by omega), n3.2.2 19 (by omega) (by omega), pq_up_upR _ (by decide)]
    unfold pq_sv
    rw [em]
  | succ d ih =>
    intro N k g hk hN hR
    obtain ⟨N', rfl⟩ : ∃ N', N = N' + 1 := ⟨N - 1, by omega⟩
    rw [pq_it_s]
    simp only []
    rw [B_X9_share_34, pq_mo (Or.inr rfl) H g (by decide), hC.2.1, if_neg (nI_ge (by omega) (by omega)), pq_has]
    simp only [Option.bind_some, B_X9_share_74, zw_nm, nI_1]
    rw [if_pos (pq_a5 (show k < 4 by omega)).2, if_pos (pq_a5 (show k < 4 by omega)).2, (pq_a5 (show k < 4 by omega)).1, pq_mp, pq_mu, pq_mu, pq_upd_id]
    by_cases q : pq_off S k
    · have q1 : ¬ ((nI S >>> (nI k &&& 31)) &&& 1) = 1 := fun z => (pq_off1 S k).mpr z q
      rw [if_neg q1, if_pos rfl]
      refine ih N' (k + 1) _ (by omega) (by omega) ?_
      unfold pq_mkn
      rw [if_pos q]
      exact pq_R_no hn hm hR (by omega)
    · have q1 : ((nI S >>> (nI k &&& 31)) &&& 1) = 1 := (pq_off1 S k).mp q
      rw [if_pos q1, if_neg pq_10, if_pos (pq_a5 (show k < 4 by omega)).2]
      refine ih N' (k + 1) _ (by omega) (by omega) ?_
      unfold pq_mkn
      rw [if_neg q]
      exact hR
theorem pq_shO {n m B : Nat} (hB : B < 2 ^ 29) {h : zw_Hp} (hI : pq_I n m B h) (x1 x2 : Int32) : ∀ (d N S : Nat) (g : pq_Pg), S + d = 2 ^ m → d < N →
    ∃ g', zw_it (fun (k17 : (Int32 × Int32 × Int32 × zw_Hp) → Option (Int32 × zw_Hp)) (w : Int32 × Int32 × Int32 × zw_Hp) => B_X9_share_17 k17 (w.1) (w.2.1) (w.2.2.1) (w.2.2.2)) N (x1, x2, nI S, zw_upR (pq_vn (pq_sv h n) h S) 38 g) = L_X9_share_121 (x1, x2, 0, 0, zw_upR (pq_vn (pq_sv h n) h (2 ^ m)) 38 g') := by
  have hm := hI.1.2.2.1
  have h16 := pq_p16 hm
  obtain ⟨n1, n2, n3, n4⟩ := hI.now
  intro d
  induction d with
  | zero =>
    intro N S g hS hN
    obtain ⟨N', rfl⟩ : ∃ N', N = N' + 1 := ⟨N - 1, by omega⟩
    refine ⟨g, ?_⟩
    have hC := pq_C_of (pq_eq_vn (pq_sv h n) h S) hI.2.2.1
    rw [pq_it_s]
    simp only []
    rw [B_X9_share_17, pq_mo (Or.inr rfl) _ g (by decide), hC.2.1, pq_shm hm, show S = 2 ^ m by omega, if_pos (Int32.le_refl _)]
  | succ d ih =>
    intro N S g hS hN
    obtain ⟨N', rfl⟩ : ∃ N', N = N' + 1 := ⟨N - 1, by omega⟩
    have eH := pq_eq_vn (pq_sv h n) h S
    have hC := pq_C_of eH hI.2.2.1
    have e37 : (pq_vn (pq_sv h n) h S).1 37 = h.1 37 := pq_eq_row eH (fun k => pq_rl_t k (by omega) (by omega) (by omega) (by omega))
    rw [pq_it_s]
    simp only []
    rw [B_X9_share_17, pq_mo (Or.inr rfl) _ g (by decide), hC.2.1, pq_shm hm, if_neg (nI_ge (by omega) (by omega)), pq_mbegin2, e37]
    simp only [Option.bind_some]
    unfold L_X9_share_34
    obtain ⟨g1, e1⟩ := pq_shIn hB hI (show S < 16 by omega) x1 x2 (zw_it (fun (k17 : (Int32 × Int32 × Int32 × zw_Hp) → Option (Int32 × zw_Hp)) (w : Int32 × Int32 × Int32 × zw_Hp) => B_X9_share_17 k17 (w.1) (w.2.1) (w.2.2.1) (w.2.2.2)) N') eH m 600 0 (pq_b21 (h.1 37) g 21) (by omega) (by omega) (pq_R_b21 hI.1.2.1 hm n3)
    have e1' : zw_it (fun (k34 : (Int32 × Int32 × Int32 × Int32 × zw_Hp) → Option (Int32 × zw_Hp)) (w : Int32 × Int32 × Int32 × Int32 × zw_Hp) => B_X9_share_34 (zw_it (fun (k17 : (Int32 × Int32 × Int32 × zw_Hp) → Option (Int32 × zw_Hp)) (w : Int32 × Int32 × Int32 × zw_Hp) => B_X9_share_17 k17 (w.1) (w.2.1) (w.2.2.1) (w.2.2.2)) N') k34 (w.1) (w.2.1) (w.2.2.1) (w.2.2.2.1) (w.2.2.2.2)) 600 (x1, x2, nI S, 0, zw_upR (pq_vn (pq_sv h n) h S) 38 (pq_b21 (h.1 37) g 21)) = _ := e1
    rw [e1']
    exact ih N' (S + 1) g1 (by omega) (by omega)
theorem pq_shS {n m : Nat} (hn : n ≤ 5) (hm : m ≤ 4) {K Z : Nat → Int32} {w gr : Int32} {y : Nat → Int32} {H : zw_Hp} (hC : pq_C n m K Z w gr H) (hy : ∀ j, j < 2 ^ m → H.1 46 j = y j) {b : Nat} (hb : b < m) (x2 : Int32) : ∀ (d N S : Nat) (s : Int32), S + d = 2 ^ m → d < N →
    zw_it (fun (k121 : (Int32 × Int32 × Int32 × Int32 × zw_Hp) → Option (Int32 × zw_Hp)) (w : Int32 × Int32 × Int32 × Int32 × zw_Hp) => B_X9_share_121 k121 (w.1) (w.2.1) (w.2.2.1) (w.2.2.2.1) (w.2.2.2.2)) N (nI b, x2, s, nI S, H) = (M_X9_fraction (pq_su y m b d S s) (nI (pq_fac m)) x2 H).bind (fun z31 => some (z31, H)) := by
  have h16 := pq_p16 hm
  intro d
  induction d with
  | zero =>
    intro N S s hS hN
    obtain ⟨N', rfl⟩ : ∃ N', N = N' + 1 := ⟨N - 1, by omega⟩
    rw [pq_it_s]
    simp only []
    rw [B_X9_share_121, hC.2.1, pq_shm hm, show S = 2 ^ m by omega, if_pos (Int32.le_refl _), pq_ways hm]
    rfl
  | succ d ih =>
    intro N S s hS hN
    obtain ⟨N', rfl⟩ : ∃ N', N = N' + 1 := ⟨N - 1, by omega⟩
    have ih' := fun s => ih N' (S + 1) s (by omega) (by omega)
    rw [pq_it_s]
    simp only []
    rw [B_X9_share_121, hC.2.1, pq_shm hm, if_neg (nI_ge (by omega) (by omega)), pq_has]
    simp only [Option.bind_some, pq_su]
    by_cases q : pq_off S b
    · have q1 : ¬ ((nI S >>> (nI b &&& 31)) &&& 1) = 1 := fun z => (pq_off1 S b).mpr z q
      have hp : pq_pop S ≤ m - 1 := pq_pop0 ⟨m, by omega⟩ ⟨S, by omega⟩ ⟨b, by omega⟩ (by show S < 2 ^ m; omega) hb q
      have eo : nI S ||| ((1 : Int32) <<< (nI b &&& 31)) = nI (S ||| 2 ^ b) := pq_or0 ⟨S, by omega⟩ ⟨b, by omega⟩
      have hor : S ||| 2 ^ b < 2 ^ m := Nat.or_lt_two_pow (by omega) (Nat.pow_lt_pow_right (by omega) hb)
      rw [if_neg q1, if_pos rfl, pq_many (by omega)]
      simp only [Option.bind_some]
      rw [pq_ways (pq_popl S), show (1 : Int32) = nI 1 from rfl, pk_sub (show 1 ≤ m by omega), pk_sub hp]
      simp only [Option.bind_some]
      rw [pq_ways (show m - 1 - pq_pop S ≤ 4 by omega), ← show (1 : Int32) = nI 1 from rfl, eo]
      simp only [Option.bind_some, zw_nm, B_X9_share_189, nI_1]
      rw [if_pos (pq_ok_nI (by omega) (by decide)), if_pos (pq_ok_nI (by omega) (by decide)), nI_clamp (by omega), nI_clamp (by omega), hy _ hor, hy S (by omega), ih']
      have et : pq_ts y m b S s = s + (nI (pq_fac (pq_pop S)) * nI (pq_fac (m - 1 - pq_pop S))) * (y (S ||| 2 ^ b) - y S) := if_pos q
      rw [et]
    · have q1 : ((nI S >>> (nI b &&& 31)) &&& 1) = 1 := (pq_off1 S b).mp q
      rw [if_pos q1, if_neg pq_10]
      simp only [zw_nm, B_X9_share_189, nI_1]
      have et : pq_ts y m b S s = s := if_neg q
      rw [ih', et]
theorem pq_share {n m B : Nat} (hB : B < 2 ^ 29) {h : zw_Hp} (hI : pq_I n m B h) (x1 x2 : Int32) : pq_op B (M_X8_share x1 x2) (M_X9_share x1 x2) h := by
  have hn := hI.1.2.1
  have hm := hI.1.2.2.1
  rcases pq_num x1 (n := m) (by omega) with ⟨a1, a2⟩ | ⟨b, b1, b3, b4⟩
  · refine pq_opId (r := -1) hI ?_ ?_
    · unfold M_X8_share
      rw [pq_hasBucket hm _ hI.2.1]
      simp only [Option.bind_some]
      rw [if_neg a1, if_pos rfl]
    · unfold M_X9_share
      simp only [zw_nm]
      rw [pq_noBucket hm _ (pq_I_m0 hI).2.2.1.2.1]
      simp only [Option.bind_some]
      rw [if_neg a1, if_neg pq_10]
  · subst b3
    obtain ⟨c', e⟩ := pq_gain hI b1 (2 ^ m) 600 0 0 (pq_cg 14 h) (by omega) (by have := pq_p16 hm; omega)
    rw [pq_cp_cg] at e
    have e' : zw_it (fun (k4 : (Int32 × Int32 × Int32 × zw_Hp) → Option (Int32 × zw_Hp)) (w : Int32 × Int32 × Int32 × zw_Hp) => B_X1_gainOverOrders_4 k4 (w.1) (w.2.1) (w.2.2.1) (w.2.2.2)) 600 (nI b, 0, 0, h) = _ := e
    have e1 : pq_eq h (pq_cp 14 c' h) := pq_eq_cp h c'
    have hI1 := pq_I_eq hI e1
    have hI2 := pq_I_m0 hI1
    have e2 : pq_eq h (zw_up (pq_cp 14 c' h) 31 0 0) := pq_eq_tr e1 (pq_eq_up _ 0 (by decide))
    generalize eH : zw_up (pq_cp 14 c' h) 31 0 0 = H at hI2 e2
    obtain ⟨g', e3⟩ := pq_shO hB hI2 (nI b) x2 (2 ^ m) 600 0 (H.1 38) (by omega) (by have := pq_p16 hm; omega)
    have hH : zw_upR (pq_vn (pq_sv H n) H 0) 38 (H.1 38) = H := by
      refine pq_hext (fun i k => ?_) rfl
      rw [pq_upR_at]
      by_cases z : i = 38
      · subst z; rw [if_pos rfl]
      · rw [if_neg z]; rfl
    rw [hH] at e3
    have esv : pq_sv H n = pq_sv h n := funext fun S => pq_sv_eq e2 n S
    have hC := pq_C_of (pq_eq_vn (pq_sv H n) H (2 ^ m)) hI2.2.2.1
    have hC' : pq_C n m (H.1 7) (H.1 8) (H.1 6 7) (H.1 6 6) (zw_upR (pq_vn (pq_sv H n) H (2 ^ m)) 38 g') := hC
    have e4 := pq_shS hn hm (y := pq_sv h n) hC' (fun j hj => by rw [pq_upR_off _ g' (show (46 : Nat) ≠ 38 by decide), pq_vn_at _ _ _ j hj, esv]) b1 x2 (2 ^ m) 600 0 0 (by omega) (by have := pq_p16 hm; omega)
    obtain ⟨v, v1, v2⟩ := pq_frac (pq_su (pq_sv h n) m b (2 ^ m) 0 0) (nI (pq_fac m)) x2 (pq_cp 14 c' h) (zw_upR (pq_vn (pq_sv H n) H (2 ^ m)) 38 g') pq_fac_ne.1 pq_fac_ne.2
    rw [v2] at e4
    refine ⟨v, pq_cp 14 c' h, zw_upR (pq_vn (pq_sv H n) H (2 ^ m)) 38 g', n, m, ?_, ?_, pq_I_le (by omega) (pq_I_eq hI2 (pq_eq_tr (pq_eq_vn _ H _) (pq_eq_upR _ g' pq_rl_38)))⟩
    · unfold M_X8_share
      rw [pq_hasBucket hm _ hI.2.1]
      simp only [Option.bind_some]
      rw [if_pos b4, if_neg pq_10]
      unfold M_X1_gainOverOrders L_X1_gainOverOrders_4
      rw [e']
      simp only [Option.bind_some]
      rw [pq_cp_off c' h (by omega), hI.2.1, pq_fact hm]
      simp only [Option.bind_some]
      rw [v1]
      rfl
    · unfold M_X9_share
      simp only [zw_nm]
      rw [eH, pq_noBucket hm _ hI2.2.2.1.2.1]
      simp only [Option.bind_some]
      rw [if_pos b4, if_pos rfl]
      unfold L_X9_share_17
      have e3' : zw_it (fun (k17 : (Int32 × Int32 × Int32 × zw_Hp) → Option (Int32 × zw_Hp)) (w : Int32 × Int32 × Int32 × zw_Hp) => B_X9_share_17 k17 (w.1) (w.2.1) (w.2.2.1) (w.2.2.2)) 600 (nI b, x2, 0, H) = _ := e3
      rw [e3']
      unfold L_X9_share_121
      exact e4
