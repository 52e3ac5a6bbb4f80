/-! a told doing, on a page -/
def pq_fo (K Z : Nat → Int32) (w gr : Int32) (n m d a b : Nat) (c : pq_Pg) : Int32 × pq_Pg :=
  if d = 0 then (if a = 0 ∧ b = 0 then (1, pq_bt K Z w gr n c) else (0, c))
  else if d = 1 then (if a < n ∧ b < n ∧ a ≠ b then (1, pq_xc c (nI a) (nI b)) else (0, c))
  else if d = 2 then (if a = 0 ∧ b < m ∧ ((c 17 >>> (nI b &&& 31)) &&& 1) = 1 then (1, pq_mnd c b) else (0, c))
  else if d = 3 then (if a = 0 ∧ b < m ∧ ¬ 5 ≤ c (b + 5) then (1, pq_fall w c b) else (0, c))
  else if d = 4 then (if a < n ∧ b < m ∧ c (b + 5) = nI a then (1, c) else (0, c))
  else if d = 5 then (if a < m ∧ ¬ 5 ≤ c (a + 5) ∧ ¬ c (a + 9) < nI b then (1, c) else (0, c))
  else if d = 6 then (if nI (10 * a + b) < c 18 then (0, c) else (1, c)) else (0, c)
theorem pq_fo_0 (K Z : Nat → Int32) (w gr : Int32) (n m a b : Nat) (c : pq_Pg) : pq_fo K Z w gr n m 0 a b c = (if a = 0 ∧ b = 0 then (1, pq_bt K Z w gr n c) else (0, c)) := rfl
theorem pq_fo_1 (K Z : Nat → Int32) (w gr : Int32) (n m a b : Nat) (c : pq_Pg) : pq_fo K Z w gr n m 1 a b c = (if a < n ∧ b < n ∧ a ≠ b then (1, pq_xc c (nI a) (nI b)) else (0, c)) := rfl
theorem pq_fo_2 (K Z : Nat → Int32) (w gr : Int32) (n m a b : Nat) (c : pq_Pg) : pq_fo K Z w gr n m 2 a b c = (if a = 0 ∧ b < m ∧ ((c 17 >>> (nI b &&& 31)) &&& 1) = 1 then (1, pq_mnd c b) else (0, c)) := rfl
theorem pq_fo_3 (K Z : Nat → Int32) (w gr : Int32) (n m a b : Nat) (c : pq_Pg) : pq_fo K Z w gr n m 3 a b c = (if a = 0 ∧ b < m ∧ ¬ 5 ≤ c (b + 5) then (1, pq_fall w c b) else (0, c)) := rfl
theorem pq_fo_4 (K Z : Nat → Int32) (w gr : Int32) (n m a b : Nat) (c : pq_Pg) : pq_fo K Z w gr n m 4 a b c = (if a < n ∧ b < m ∧ c (b + 5) = nI a then (1, c) else (0, c)) := rfl
theorem pq_fo_5 (K Z : Nat → Int32) (w gr : Int32) (n m a b : Nat) (c : pq_Pg) : pq_fo K Z w gr n m 5 a b c = (if a < m ∧ ¬ 5 ≤ c (a + 5) ∧ ¬ c (a + 9) < nI b then (1, c) else (0, c)) := rfl
theorem pq_fo_6 (K Z : Nat → Int32) (w gr : Int32) (n m a b : Nat) (c : pq_Pg) : pq_fo K Z w gr n m 6 a b c = (if nI (10 * a + b) < c 18 then (0, c) else (1, c)) := rfl
theorem pq_inN {a n : Nat} (ha : a < 2 ^ 30) (hn : n < 2 ^ 30) : (0 ≤ nI a ∧ nI a ≤ nI n - 1) ↔ a < n := by
  cases n with
  | zero =>
    refine ⟨fun q => ?_, fun q => by omega⟩
    have := Int32.le_trans q.1 q.2
    exact absurd this (by decide)
  | succ k =>
    rw [nI_pred, nI_leI (by omega) (by omega)]
    exact ⟨fun q => by omega, fun q => ⟨nI_pos' (by omega), by omega⟩⟩
theorem pq_hasPersonN {n a : Nat} (hn : n ≤ 5) (ha : a < 2 ^ 30) {h : zw_Hp} (h2 : h.1 6 2 = nI n) : M_X2_hasPerson 6 (nI a) h = some (if a < n then 1 else 0) := by
  rw [pq_hasPerson hn _ h2]
  by_cases q : a < n
  · rw [if_pos q, if_pos ((pq_inN ha (by omega)).mpr q)]
  · rw [if_neg q, if_neg (fun z => q ((pq_inN ha (by omega)).mp z))]
theorem pq_hasBucketN {m a : Nat} (hm : m ≤ 4) (ha : a < 2 ^ 30) {h : zw_Hp} (h2 : h.1 6 3 = nI m) : M_X2_hasBucket 6 (nI a) h = some (if a < m then 1 else 0) := by
  rw [pq_hasBucket hm _ h2]
  by_cases q : a < m
  · rw [if_pos q, if_pos ((pq_inN ha (by omega)).mpr q)]
  · rw [if_neg q, if_neg (fun z => q ((pq_inN ha (by omega)).mp z))]
theorem pq_noOneN {n a : Nat} (hn : n ≤ 5) (ha : a < 2 ^ 30) {h : zw_Hp} (h6 : h.1 31 6 = nI n) : M_X9_noOne (nI a) h = some (if a < n then 0 else 1) := by
  rw [pq_noOne hn _ h6]
  by_cases q : a < n
  · rw [if_pos q, if_pos ((pq_inN ha (by omega)).mpr q)]
  · rw [if_neg q, if_neg (fun z => q ((pq_inN ha (by omega)).mp z))]
theorem pq_noBucketN {m a : Nat} (hm : m ≤ 4) (ha : a < 2 ^ 30) {h : zw_Hp} (h8 : h.1 31 8 = nI m) : M_X9_noBucket (nI a) h = some (if a < m then 0 else 1) := by
  rw [pq_noBucket hm _ h8]
  by_cases q : a < m
  · rw [if_pos q, if_pos ((pq_inN ha (by omega)).mpr q)]
  · rw [if_neg q, if_neg (fun z => q ((pq_inN ha (by omega)).mp z))]
/-- is held: the number may be any -/
theorem pq_isHeldN {t n m b : Nat} (hn : n ≤ 5) (hm : m ≤ 4) (hb : b < 2 ^ 30) {c : pq_Pg} (hP : pq_WP n m c) (h : zw_Hp) : M_X3_isHeld t (nI b) (pq_cp t c h) = some (if b < m ∧ ¬ 5 ≤ c (b + 5) then 1 else 0) := by
  by_cases b4 : b < 4
  · rw [pq_isHeld t b b4]
    by_cases h5 : 5 ≤ c (b + 5)
    · rw [if_pos h5, if_neg (fun q => q.2 h5)]
    · rw [if_neg h5, if_pos ⟨pq_lt_m hn hP b4 (fun e => h5 (by rw [e]; decide)), h5⟩]
  · rw [pq_isHeld_no t (nI b) (Or.inr (nI_le (a := 4) (by omega) (by omega))), if_neg (fun q => by omega)]
theorem pq_hasHoleN {t m b : Nat} (hm : m ≤ 4) (hb : b < 2 ^ 30) {c : pq_Pg} (hF : pq_WF m c) (h : zw_Hp) : M_X3_hasHole t (nI b) (pq_cp t c h) = some (if b < m ∧ ((c 17 >>> (nI b &&& 31)) &&& 1) = 1 then 1 else 0) := by
  by_cases b4 : b < 4
  · rw [pq_hasHole t b b4]
    by_cases h5 : ((c 17 >>> (nI b &&& 31)) &&& 1) = 1
    · rw [if_pos h5]
      rcases Nat.lt_or_ge b m with q | q
      · rw [if_pos ⟨q, h5⟩]
      · rw [pq_bit0 hF.1 hm b4 q] at h5
        exact absurd h5 (by decide)
    · rw [if_neg h5, if_neg (fun q => h5 q.2)]
  · rw [pq_hasHole_no t (nI b) (Or.inr (nI_le (a := 4) (by omega) (by omega))), if_neg (fun q => by omega)]
theorem pq_bt_ge {K Z : Nat → Int32} {w gr : Int32} {n m B : Nat} (hB : B < 2 ^ 27) {c : pq_Pg} (hW : pq_Wb n m B c) : ¬ pq_bt K Z w gr n c 19 - c 19 < 0 := by
  obtain ⟨q, q1, q2⟩ := pq_thr_19 (K := K) (w := w) hW.2.1
  obtain ⟨⟨t, t1, t2⟩, -⟩ := hW.2.2.2
  rw [pq_bt_19, q2, t2, nI_add, pk_sub (by omega)]
  exact nI_pos (by omega)
theorem pq_follow {n m B : Nat} (hB : B < 2 ^ 27) {h : zw_Hp} (hPl : pq_Pl n m h) {c : pq_Pg} (hW : pq_Wb n m B c) {d a b : Nat} (hd : d ≤ 9) (ha : a ≤ 9) (hb : b ≤ 9) :
    M_X3_follow 14 (nI d) (nI a) (nI b) (pq_cp 14 c h) = some ((pq_fo (h.1 7) (h.1 8) (h.1 6 7) (h.1 6 6) n m d a b c).1, pq_cp 14 (pq_fo (h.1 7) (h.1 8) (h.1 6 7) (h.1 6 6) n m d a b c).2 h) := by
  obtain ⟨hp, hn, hm, hZ, hg, -⟩ := hPl
  have hp' : (pq_cp 14 c h).1 6 2 = nI n := by rw [pq_cp_off c h (by omega)]; exact hp
  have z : ∀ x : Nat, x ≤ 9 → (nI x = 0 ↔ x = 0) := fun x hx => nI_eq (a := x) (b := 0) (by omega) (by decide)
  unfold M_X3_follow
  have hd' : d = 0 ∨ d = 1 ∨ d = 2 ∨ d = 3 ∨ d = 4 ∨ d = 5 ∨ d = 6 ∨ d = 7 ∨ d = 8 ∨ d = 9 := by omega
  rcases hd' with rfl | rfl | rfl | rfl | rfl | rfl | rfl | rfl | rfl | rfl
  · rw [if_pos (show nI 0 = 0 from rfl), pq_fo_0]
    by_cases a0 : a = 0
    · rw [if_pos ((z a ha).mpr a0)]
      by_cases b0 : b = 0
      · rw [if_pos ((z b hb).mpr b0), if_pos ⟨a0, b0⟩, pq_passBeat (Or.inr rfl) hn c h hp hW.1.who (hW.2.1.plc hn)]
        simp only [Option.bind_some]
        rw [if_neg (pq_bt_ge hB hW)]
      · rw [if_neg (fun q => b0 ((z b hb).mp q)), if_neg (fun q => b0 q.2)]
    · rw [if_neg (fun q => a0 ((z a ha).mp q)), if_neg (fun q => a0 q.1)]
  · rw [if_neg (show ¬ nI 1 = 0 by decide), if_pos (show nI 1 = 1 from rfl), pq_fo_1]
    unfold M_X3_followChange
    rw [pq_hasPersonN hn (by omega) hp', pq_hasPersonN hn (by omega) hp']
    simp only [Option.bind_some]
    by_cases a1 : a < n
    · rw [if_pos a1, if_neg pq_10]
      by_cases b1 : b < n
      · rw [if_pos b1, if_neg pq_10]
        by_cases ab : a = b
        · rw [if_pos (by rw [ab]), if_neg (fun q => q.2.2 ab)]
          rfl
        · rw [if_neg (fun q => ab ((nI_eq (by omega) (by omega)).mp q)), if_pos ⟨a1, b1, ab⟩, pq_exchange hn hW.1 a1 b1]
          rfl
      · rw [if_neg b1, if_pos rfl, if_neg (fun q => b1 q.2.1)]
        rfl
    · rw [if_neg a1, if_pos rfl, if_neg (fun q => a1 q.1)]
      rfl
  · rw [if_neg (show ¬ nI 2 = 0 by decide), if_neg (show ¬ nI 2 = 1 by decide), if_pos (show nI 2 = 2 from rfl), pq_fo_2]
    by_cases a0 : a = 0
    · rw [if_pos ((z a ha).mpr a0)]
      unfold M_X3_followMend
      rw [pq_hasHoleN hm (by omega) hW.2.2.1]
      simp only [Option.bind_some]
      by_cases q : b < m ∧ ((c 17 >>> (nI b &&& 31)) &&& 1) = 1
      · rw [if_pos q, if_neg pq_10, if_pos ⟨a0, q⟩]
        unfold M_X3_closeHole
        simp only [zw_nm, Option.bind_some]
        rw [pq_cp_0 c h (by decide), pq_cp_u0 c h _ (by decide), if_neg pq_10]
        rfl
      · rw [if_neg q, if_pos rfl, if_neg (fun z => q z.2)]
        rfl
    · rw [if_neg (fun q => a0 ((z a ha).mp q)), if_neg (fun q => a0 q.1)]
  · rw [if_neg (show ¬ nI 3 = 0 by decide), if_neg (show ¬ nI 3 = 1 by decide), if_neg (show ¬ nI 3 = 2 by decide), if_pos (show nI 3 = 3 from rfl), pq_fo_3]
    by_cases a0 : a = 0
    · rw [if_pos ((z a ha).mpr a0)]
      unfold M_X3_followDrop
      rw [pq_isHeldN hn hm (by omega) hW.2.1]
      simp only [Option.bind_some]
      by_cases q : b < m ∧ ¬ 5 ≤ c (b + 5)
      · rw [if_pos q, if_neg pq_10, if_pos ⟨a0, q⟩, pq_letFall (Or.inr rfl) b (by omega)]
        rfl
      · rw [if_neg q, if_pos rfl, if_neg (fun z => q z.2)]
        rfl
    · rw [if_neg (fun q => a0 ((z a ha).mp q)), if_neg (fun q => a0 q.1)]
  · rw [if_neg (show ¬ nI 4 = 0 by decide), if_neg (show ¬ nI 4 = 1 by decide), if_neg (show ¬ nI 4 = 2 by decide), if_neg (show ¬ nI 4 = 3 by decide), if_pos (show nI 4 = 4 from rfl), pq_fo_4]
    rw [pq_isHeldN hn hm (by omega) hW.2.1]
    simp only [Option.bind_some]
    by_cases q : b < m ∧ ¬ 5 ≤ c (b + 5)
    · rw [if_pos q, if_neg pq_10, if_pos (pq_ok_nI (by omega) (by decide)), nI_clamp (by omega), pq_cp_p c h (by omega)]
      by_cases e : c (b + 5) = nI a
      · have an : a < n := by
          rcases pq_pok_hi hn (hW.2.1.1 b (by omega)) with ⟨p, p1, p2, p3⟩ | ⟨p1, p2⟩
          · rw [e] at p2
            have := (nI_eq (by omega) (by omega)).mp p2
            omega
          · exact absurd p1 q.2
        rw [if_pos e, if_pos ⟨an, q.1, e⟩]
      · rw [if_neg e, if_neg (fun z => e z.2.2)]
    · rw [if_neg q, if_pos rfl, if_neg]
      rintro ⟨z1, z2, z3⟩
      refine q ⟨z2, ?_⟩
      rw [z3, pq_le5 (by omega)]
      omega
  · rw [if_neg (show ¬ nI 5 = 0 by decide), if_neg (show ¬ nI 5 = 1 by decide), if_neg (show ¬ nI 5 = 2 by decide), if_neg (show ¬ nI 5 = 3 by decide), if_neg (show ¬ nI 5 = 4 by decide), if_pos (show nI 5 = 5 from rfl), pq_fo_5]
    rw [pq_isHeldN hn hm (by omega) hW.2.1]
    simp only [Option.bind_some]
    by_cases q : a < m ∧ ¬ 5 ≤ c (a + 5)
    · rw [if_pos q, if_neg pq_10, if_pos (pq_ok_nI (by omega) (by decide)), nI_clamp (by omega), pq_cp_3 c h (by omega)]
      by_cases e : c (a + 9) < nI b
      · rw [if_pos e, if_neg (fun z => z.2.2 e)]
      · rw [if_neg e, if_pos ⟨q.1, q.2, e⟩]
    · rw [if_neg q, if_pos rfl, if_neg (fun z => q ⟨z.1, z.2.1⟩)]
  · rw [if_neg (show ¬ nI 6 = 0 by decide), if_neg (show ¬ nI 6 = 1 by decide), if_neg (show ¬ nI 6 = 2 by decide), if_neg (show ¬ nI 6 = 3 by decide), if_neg (show ¬ nI 6 = 4 by decide), if_neg (show ¬ nI 6 = 5 by decide), if_pos (show nI 6 = 6 from rfl), pq_fo_6]
    rw [pq_cp_0 c h (by decide), show (10 : Int32) = nI 10 from rfl, pk_mul, nI_add]
    by_cases e : nI (10 * a + b) < c 18
    · rw [if_pos e, if_pos e]
    · rw [if_neg e, if_neg e]
  · rfl
  · rfl
  · rfl

/-! the same, on the model's page -/
theorem pq_R_mnd {n m : Nat} (hn : n ≤ 5) (hm : m ≤ 4) {w : Int32} {c g : pq_Pg} (hR : pq_R 4 w n m c g) (b : Nat) : pq_R 4 w n m (pq_mnd c b) (upd g 17 (g 17 &&& ((1 <<< (nI b &&& 31)) ^^^ -1))) := by
  unfold pq_mnd
  rw [hR.2.2 17 (by omega) (by omega)]
  exact pq_R_hi hR hn hm (by omega) _
theorem pq_pl5 {n m : Nat} {w : Int32} {c g : pq_Pg} (hm : m ≤ 4) (hR : pq_R 4 w n m c g) {b : Nat} (hb : b < m) : (5 ≤ g (b + 5) ↔ 5 ≤ c (b + 5)) ∧ (∀ x : Nat, x < 5 → (g (b + 5) = nI x ↔ c (b + 5) = nI x)) ∧ g (b + 9) = c (b + 9) := by
  obtain ⟨p, p9, -⟩ := (hR.2.1 b hb).2 (by omega)
  refine ⟨?_, fun x hx => ?_, p9⟩
  · rcases p with e | ⟨e1, e2⟩
    · rw [e]
    · rw [e1, e2]; decide
  · rcases p with e | ⟨e1, e2⟩
    · rw [e]
    · rw [e1, e2]
      refine ⟨fun z => ?_, fun z => ?_⟩
      · have := (nI_eq (a := 7) (b := x) (by decide) (by omega)).mp z
        omega
      · have := (nI_eq (a := 10) (b := x) (by decide) (by omega)).mp z
        omega
theorem pq_mends {n m : Nat} {K Z : Nat → Int32} {w gr : Int32} (hn : n ≤ 5) (hm : m ≤ 4) {h : zw_Hp} (hC : pq_C n m K Z w gr h) {c g : pq_Pg} (hR : pq_R 4 w n m c g) {b : Nat} (hb : b < 2 ^ 30) :
    ∃ g', M_X9_mends (nI b) (zw_upR h 38 g) = some (if b < m ∧ ((c 17 >>> (nI b &&& 31)) &&& 1) = 1 then 1 else 0, zw_upR h 38 g') ∧ pq_R 4 w n m (if b < m ∧ ((c 17 >>> (nI b &&& 31)) &&& 1) = 1 then pq_mnd c b else c) g' := by
  unfold M_X9_mends
  rw [pq_noBucketN hm hb (by rw [pq_mo (Or.inr rfl) h g (by decide)]; exact hC.2.1)]
  simp only [Option.bind_some, show zw_ok (17 : Int32) 21 = true from by decide, if_true, show (17 : Int32).toNatClampNeg = 17 from rfl, pq_mp]
  rw [hR.2.2 17 (by omega) (by omega), pq_has]
  simp only [Option.bind_some]
  by_cases h1 : b < m
  · rw [if_pos h1, if_pos rfl]
    by_cases h2 : ((c 17 >>> (nI b &&& 31)) &&& 1) = 1
    · rw [if_pos h2, if_neg pq_10, if_pos ⟨h1, h2⟩, if_pos ⟨h1, h2⟩]
      refine ⟨_, ?_, pq_R_mnd hn hm hR b⟩
      unfold B_X9_mends_27
      rw [if_neg pq_10]
      simp only [show zw_ok (17 : Int32) 21 = true from by decide, if_true, show (17 : Int32).toNatClampNeg = 17 from rfl, pq_mp, zw_nm, pq_mu]
      exact if_pos (Or.inr trivial)
    · rw [if_neg h2, if_pos rfl, if_neg (fun q => h2 q.2), if_neg (fun q => h2 q.2)]
      exact ⟨g, rfl, hR⟩
  · rw [if_neg h1, if_neg pq_10, if_neg (fun q => h1 q.1), if_neg (fun q => h1 q.1)]
    exact ⟨g, rfl, hR⟩
theorem pq_drops {n m : Nat} {K Z : Nat → Int32} {w gr : Int32} (hn : n ≤ 5) (hm : m ≤ 4) {h : zw_Hp} (hC : pq_C n m K Z w gr h) {c g : pq_Pg} (hR : pq_R 4 w n m c g) {b : Nat} (hb : b < 2 ^ 30) :
    ∃ g', M_X9_drops (nI b) (zw_upR h 38 g) = some (if b < m ∧ ¬ 5 ≤ c (b + 5) then 1 else 0, zw_upR h 38 g') ∧ pq_R 4 w n m (if b < m ∧ ¬ 5 ≤ c (b + 5) then pq_fall w c b else c) g' := by
  unfold M_X9_drops
  rw [pq_noBucketN hm hb (by rw [pq_mo (Or.inr rfl) h g (by decide)]; exact hC.2.1)]
  simp only [Option.bind_some]
  by_cases h1 : b < m
  · obtain ⟨p5, px, p9⟩ := pq_pl5 hm hR h1
    rw [if_pos h1, if_pos rfl, (pq_a5 (show b < 4 by omega)).1, if_pos (pq_a5 (show b < 4 by omega)).2, pq_mp]
    by_cases h2 : 5 ≤ c (b + 5)
    · rw [if_pos (p5.mpr h2), if_neg (fun q => q.2 h2), if_neg (fun q => q.2 h2)]
      exact ⟨g, rfl, hR⟩
    · rw [if_neg (fun q => h2 (p5.mp q)), if_pos ⟨h1, h2⟩, if_pos ⟨h1, h2⟩]
      refine ⟨_, ?_, pq_R_fall hn hm hR h1 h2⟩
      unfold B_X9_drops_25
      rw [if_neg pq_10, pq_msend (Or.inr rfl) hC (by omega)]
      simp only [Option.bind_some]
      exact if_pos (Or.inr trivial)
  · rw [if_neg h1, if_neg pq_10, if_neg (fun q => h1 q.1), if_neg (fun q => h1 q.1)]
    exact ⟨g, rfl, hR⟩
theorem pq_changes {n m : Nat} {K Z : Nat → Int32} {w gr : Int32} (hn : n ≤ 5) (hm : m ≤ 4) {h : zw_Hp} (hC : pq_C n m K Z w gr h) {c g : pq_Pg} (hW : pq_WW n c) (hR : pq_R 4 w n m c g) {a b : Nat} (ha : a < 2 ^ 30) (hb : b < 2 ^ 30) :
    ∃ g', M_X9_changes (nI a) (nI b) (zw_upR h 38 g) = some (if a < n ∧ b < n ∧ a ≠ b then 1 else 0, zw_upR h 38 g') ∧ pq_R 4 w n m (if a < n ∧ b < n ∧ a ≠ b then pq_xc c (nI a) (nI b) else c) g' := by
  unfold M_X9_changes
  have h6 : (zw_upR h 38 g).1 31 6 = nI n := by rw [pq_mo (Or.inr rfl) h g (by decide)]; exact hC.1
  rw [pq_noOneN hn ha h6, pq_noOneN hn hb h6]
  simp only [Option.bind_some]
  by_cases h1 : a < n
  · rw [if_pos h1, if_pos rfl]
    by_cases h2 : b < n
    · rw [if_pos h2, if_pos rfl]
      by_cases h3 : a = b
      · rw [if_pos (by rw [h3]), if_neg (fun q => q.2.2 h3), if_neg (fun q => q.2.2 h3)]
        exact ⟨g, rfl, hR⟩
      · rw [if_neg (fun q => h3 ((nI_eq (by omega) (by omega)).mp q)), if_pos ⟨h1, h2, h3⟩, if_pos ⟨h1, h2, h3⟩]
        obtain ⟨g', e, R⟩ := pq_goChange (Or.inr rfl) hn hC hW hR h1 h2
        refine ⟨g', ?_, R⟩
        unfold B_X9_changes_26
        rw [if_neg pq_10, e]
        simp only [Option.bind_some]
        exact if_pos (Or.inr trivial)
    · rw [if_neg h2, if_neg pq_10, if_neg (fun q => h2 q.2.1), if_neg (fun q => h2 q.2.1)]
      exact ⟨g, rfl, hR⟩
  · rw [if_neg h1, if_neg pq_10, if_neg (fun q => h1 q.1), if_neg (fun q => h1 q.1)]
    exact ⟨g, rfl, hR⟩
theorem pq_if1 {P : Prop} [Decidable P] {x y : pq_Pg} : (if P then ((1 : Int32), x) else (0, y)).1 = (if P then 1 else 0) := by split <;> rfl
theorem pq_if2 {P : Prop} [Decidable P] {x y : pq_Pg} : (if P then ((1 : Int32), x) else (0, y)).2 = (if P then x else y) := by split <;> rfl
theorem pq_ifa {a : Nat} {P : Prop} [Decidable P] [Decidable (a = 0 ∧ P)] (h : a = 0) {α : Type} {x y : α} : (if a = 0 ∧ P then x else y) = if P then x else y := by
  by_cases q : P
  · rw [if_pos q, if_pos ⟨h, q⟩]
  · rw [if_neg q, if_neg (fun z => q z.2)]
theorem pq_does {n m B : Nat} {K Z : Nat → Int32} {w gr : Int32} (hB : B < 2 ^ 29) (hn : n ≤ 5) (hm : m ≤ 4) {h : zw_Hp} (hC : pq_C n m K Z w gr h) (hZ : ∀ b, b < m → pq_s9 (Z b)) {c g : pq_Pg} (hW : pq_Wb n m B c) (hR : pq_R 4 w n m c g) (h21 : c 21 = 0) {d a b : Nat} (hd : d ≤ 9) (ha : a ≤ 9) (hb : b ≤ 9) :
    ∃ g', M_X9_does (nI (100 * d + 10 * a + b)) (zw_upR h 38 g) = some ((pq_fo K Z w gr n m d a b c).1, zw_upR h 38 g') ∧ pq_R 4 w n m (pq_fo K Z w gr n m d a b c).2 g' := by
  unfold M_X9_does
  have e1 : nI (100 * d + 10 * a + b) / 100 = nI d := by
    have := pk_div (a := 100 * d + 10 * a + b) (d := 100) (by omega) (by decide) (by decide)
    rw [show (100 * d + 10 * a + b) / 100 = d by omega] at this
    exact this
  have e2 : nI (100 * d + 10 * a + b) / 10 = nI (10 * d + a) := by
    have := pk_div (a := 100 * d + 10 * a + b) (d := 10) (by omega) (by decide) (by decide)
    rw [show (100 * d + 10 * a + b) / 10 = 10 * d + a by omega] at this
    exact this
  have e3 : nI (10 * d + a) - nI (10 * d + a) / 10 * 10 = nI a := by
    have := pk_rem (a := 10 * d + a) (d := 10) (by omega) (by decide) (by decide)
    rw [show (10 * d + a) % 10 = a by omega] at this
    exact this
  have e4 : nI (100 * d + 10 * a + b) - nI (10 * d + a) * 10 = nI b := by
    have := pk_rem (a := 100 * d + 10 * a + b) (d := 10) (by omega) (by decide) (by decide)
    rw [show (100 * d + 10 * a + b) % 10 = b by omega] at this
    rw [← e2]
    exact this
  simp only [zw_nm]
  rw [e1, e2, e3, e4]
  have z : ∀ x : Nat, x ≤ 999 → (nI x = 0 ↔ x = 0) := fun x hx => nI_eq (a := x) (b := 0) (by omega) (by decide)
  have h6 : (zw_upR h 38 g).1 31 6 = nI n := by rw [pq_mo (Or.inr rfl) h g (by decide)]; exact hC.1
  have h8 : (zw_upR h 38 g).1 31 8 = nI m := by rw [pq_mo (Or.inr rfl) h g (by decide)]; exact hC.2.1
  have hd' : d = 0 ∨ d = 1 ∨ d = 2 ∨ d = 3 ∨ d = 4 ∨ d = 5 ∨ d = 6 ∨ 7 ≤ d := by omega
  rcases hd' with rfl | rfl | rfl | rfl | rfl | rfl | rfl | hd7
  · rw [pq_fo_0]
    by_cases h0 : a = 0 ∧ b = 0
    · obtain ⟨g', e, R⟩ := pq_goBeat (pp := 38) (Or.inr rfl) hn hm hC hZ hW.1 hW.2.1 hW.2.2.1 (pq_Wb_B (by omega) hW) hR (sm := 31) (by rw [h21]; exact pq_msk0 n hn)
      rw [if_pos h0, if_pos ((z _ (by omega)).mpr (by omega)), e]
      exact ⟨g', rfl, R⟩
    · rw [if_neg h0, if_neg (fun q => h0 (by have := (z _ (by omega)).mp q; omega))]
      exact ⟨g, rfl, hR⟩
  · rw [if_neg (fun q => by have := (z _ (by omega)).mp q; omega), if_pos (show nI 1 = 1 from rfl), pq_fo_1, pq_if1, pq_if2]
    obtain ⟨g', e, R⟩ := pq_changes hn hm hC hW.1 hR (a := a) (b := b) (by omega) (by omega)
    refine ⟨g', ?_, R⟩
    rw [e]
    simp only [Option.bind_some]
    rw [if_pos (by split <;> simp)]
  · rw [if_neg (fun q => by have := (z _ (by omega)).mp q; omega), if_neg (show ¬ nI 2 = 1 by decide), if_pos (show nI 2 = 2 from rfl), pq_fo_2, pq_if1, pq_if2]
    by_cases a0 : a = 0
    · rw [if_pos ((z a (by omega)).mpr a0), pq_ifa a0, pq_ifa a0]
      obtain ⟨g', e, R⟩ := pq_mends hn hm hC hR (b := b) (by omega)
      refine ⟨g', ?_, R⟩
      rw [e]
      simp only [Option.bind_some]
      split <;> rfl
    · rw [if_neg (fun q => a0 ((z a (by omega)).mp q)), if_neg (fun q => a0 q.1), if_neg (fun q => a0 q.1)]
      exact ⟨g, rfl, hR⟩
  · rw [if_neg (fun q => by have := (z _ (by omega)).mp q; omega), if_neg (show ¬ nI 3 = 1 by decide), if_neg (show ¬ nI 3 = 2 by decide), if_pos (show nI 3 = 3 from rfl), pq_fo_3, pq_if1, pq_if2]
    by_cases a0 : a = 0
    · rw [if_pos ((z a (by omega)).mpr a0), pq_ifa a0, pq_ifa a0]
      obtain ⟨g', e, R⟩ := pq_drops hn hm hC hR (b := b) (by omega)
      refine ⟨g', ?_, R⟩
      rw [e]
      simp only [Option.bind_some]
      split <;> rfl
    · rw [if_neg (fun q => a0 ((z a (by omega)).mp q)), if_neg (fun q => a0 q.1), if_neg (fun q => a0 q.1)]
      exact ⟨g, rfl, hR⟩
  · rw [if_neg (fun q => by have := (z _ (by omega)).mp q; omega), if_neg (show ¬ nI 4 = 1 by decide), if_neg (show ¬ nI 4 = 2 by decide), if_neg (show ¬ nI 4 = 3 by decide), if_pos (show nI 4 = 4 from rfl), pq_fo_4, pq_if1, pq_if2, pq_noOneN hn (by omega) h6, pq_noBucketN hm (by omega) h8]
    simp only [Option.bind_some]
    refine ⟨g, ?_, by split <;> exact hR⟩
    by_cases h1 : a < n
    · rw [if_pos h1, if_pos rfl]
      by_cases h2 : b < m
      · obtain ⟨p5, px, p9⟩ := pq_pl5 hm hR h2
        rw [if_pos h2, if_pos rfl, (pq_a5 (show b < 4 by omega)).1, if_pos (pq_a5 (show b < 4 by omega)).2, pq_mp]
        by_cases h3 : c (b + 5) = nI a
        · rw [if_pos ((px a (by omega)).mpr h3), if_pos ⟨h1, h2, h3⟩]
        · rw [if_neg (fun q => h3 ((px a (by omega)).mp q)), if_neg (fun q => h3 q.2.2)]
      · rw [if_neg h2, if_neg pq_10, if_neg (fun q => h2 q.2.1)]
    · rw [if_neg h1, if_neg pq_10, if_neg (fun q => h1 q.1)]
  · rw [if_neg (fun q => by have := (z _ (by omega)).mp q; omega), if_neg (show ¬ nI 5 = 1 by decide), if_neg (show ¬ nI 5 = 2 by decide), if_neg (show ¬ nI 5 = 3 by decide), if_neg (show ¬ nI 5 = 4 by decide), if_pos (show nI 5 = 5 from rfl), pq_fo_5, pq_if1, pq_if2, pq_noBucketN hm (by omega) h8]
    simp only [Option.bind_some]
    refine ⟨g, ?_, by split <;> exact hR⟩
    by_cases h2 : a < m
    · obtain ⟨p5, px, p9⟩ := pq_pl5 hm hR h2
      rw [if_pos h2, if_pos rfl, (pq_a5 (show a < 4 by omega)).1, if_pos (pq_a5 (show a < 4 by omega)).2, pq_mp]
      by_cases h3 : 5 ≤ c (a + 5)
      · rw [if_pos (p5.mpr h3), if_neg (fun q => q.2.1 h3)]
      · rw [if_neg (fun q => h3 (p5.mp q)), (pq_a9 (show a < 4 by omega)).1, if_pos (pq_a9 (show a < 4 by omega)).2, p9]
        by_cases h4 : c (a + 9) < nI b
        · rw [if_pos h4, if_neg (fun q => q.2.2 h4)]
        · rw [if_neg h4, if_pos ⟨h2, h3, h4⟩]
    · rw [if_neg h2, if_neg pq_10, if_neg (fun q => h2 q.1)]
  · rw [if_neg (fun q => by have := (z _ (by omega)).mp q; omega), if_neg (show ¬ nI 6 = 1 by decide), if_neg (show ¬ nI 6 = 2 by decide), if_neg (show ¬ nI 6 = 3 by decide), if_neg (show ¬ nI 6 = 4 by decide), if_neg (show ¬ nI 6 = 5 by decide), if_pos (show nI 6 = 6 from rfl), pq_fo_6, if_pos (show zw_ok (18 : Int32) 21 = true by decide), show (18 : Int32).toNatClampNeg = 18 from rfl, pq_mp, hR.2.2 18 (by omega) (by omega)]
    rw [show (10 : Int32) = nI 10 from rfl, pk_mul, nI_add]
    refine ⟨g, ?_, by split <;> exact hR⟩
    split <;> rfl
  · have hd9 : d = 7 ∨ d = 8 ∨ d = 9 := by omega
    rw [if_neg (fun q => by have := (z _ (by omega)).mp q; omega)]
    refine ⟨g, ?_, ?_⟩
    · rcases hd9 with rfl | rfl | rfl <;> rfl
    · rcases hd9 with rfl | rfl | rfl <;> exact hR
/-! what a doing keeps -/
theorem pq_fo_keep {K Z : Nat → Int32} {w gr : Int32} {n m B : Nat} (hn : n ≤ 5) (hm : m ≤ 4) (hZ : ∀ b, b < m → pq_s9 (Z b)) (hg : pq_s9 gr) {c : pq_Pg} (hW : pq_Wb n m B c) (d a b : Nat) : pq_Wb n m (B + 1) (pq_fo K Z w gr n m d a b c).2 ∧ (pq_fo K Z w gr n m d a b c).2 21 = c 21 := by
  have h0 := pq_Wb_le (show B ≤ B + 1 by omega) hW
  have hd' : d = 0 ∨ d = 1 ∨ d = 2 ∨ d = 3 ∨ d = 4 ∨ d = 5 ∨ d = 6 ∨ 7 ≤ d := by omega
  rcases hd' with rfl | rfl | rfl | rfl | rfl | rfl | rfl | hd7
  · rw [pq_fo_0, pq_if2]
    split
    · exact ⟨pq_Wb_bt hn hZ hg hW, pq_bt_17 (by omega)⟩
    · exact ⟨h0, rfl⟩
  · rw [pq_fo_1, pq_if2]
    split
    · rename_i q
      obtain ⟨a1, -, -⟩ := hW.1.stand hn q.1
      obtain ⟨b1, -, -⟩ := hW.1.stand hn q.2.1
      exact ⟨pq_Wb_xc hn h0 q.1 q.2.1 q.2.2, pq_xc_hi (by omega) (by omega) (by omega)⟩
    · exact ⟨h0, rfl⟩
  · rw [pq_fo_2, pq_if2]
    split
    · rename_i q
      exact ⟨pq_Wb_mnd hm (by omega) h0, pq_upd_ne (by omega)⟩
    · exact ⟨h0, rfl⟩
  · rw [pq_fo_3, pq_if2]
    split
    · rename_i q
      exact ⟨pq_Wb_fall hn (by omega) h0, pq_fall_off (by omega) (by omega)⟩
    · exact ⟨h0, rfl⟩
  · rw [pq_fo_4, pq_if2]
    split <;> exact ⟨h0, rfl⟩
  · rw [pq_fo_5, pq_if2]
    split <;> exact ⟨h0, rfl⟩
  · rw [pq_fo_6]
    split <;> exact ⟨h0, rfl⟩
  · have e : pq_fo K Z w gr n m d a b c = (0, c) := by
      unfold pq_fo
      rw [if_neg (show ¬ d = 0 by omega), if_neg (show ¬ d = 1 by omega), if_neg (show ¬ d = 2 by omega), if_neg (show ¬ d = 3 by omega), if_neg (show ¬ d = 4 by omega), if_neg (show ¬ d = 5 by omega), if_neg (show ¬ d = 6 by omega)]
    rw [e]
    exact ⟨h0, rfl⟩
