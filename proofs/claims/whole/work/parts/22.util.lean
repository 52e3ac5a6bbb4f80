/-! cells that count: all but the scratch of both -/
def pq_rl (i k : Nat) : Bool := !(decide (3 ≤ i) && decide (i ≤ 5)) && !(decide (14 ≤ i) && decide (i ≤ 18)) && !(decide (28 ≤ i) && decide (i ≤ 30)) && !(i == 35) && !(i == 36) && !(i == 38) && !(decide (45 ≤ i)) && !(i == 31 && (k == 0 || k == 3 || (decide (10 ≤ k) && decide (k ≤ 13)) || k == 15 || k == 17 || decide (29 ≤ k)))
def pq_eq (h h' : zw_Hp) : Prop := (∀ i k, pq_rl i k = true → h'.1 i k = h.1 i k) ∧ h'.2 = h.2
theorem pq_eq_rf (h : zw_Hp) : pq_eq h h := ⟨fun _ _ _ => rfl, rfl⟩
theorem pq_eq_tr {h h' h'' : zw_Hp} (a : pq_eq h h') (b : pq_eq h' h'') : pq_eq h h'' := ⟨fun i k q => (b.1 i k q).trans (a.1 i k q), b.2.trans a.2⟩
theorem pq_eq_up (h : zw_Hp) {i k : Nat} (v : Int32) (hk : pq_rl i k = false) : pq_eq h (zw_up h i k v) := by
  refine ⟨fun a b q => ?_, rfl⟩
  rw [pq_up_at, if_neg]
  rintro ⟨rfl, rfl⟩
  rw [hk] at q
  cases q
theorem pq_eq_upR (h : zw_Hp) {i : Nat} (g : pq_Pg) (hi : ∀ k, pq_rl i k = false) : pq_eq h (zw_upR h i g) := by
  refine ⟨fun a b q => ?_, rfl⟩
  rw [pq_upR_at, if_neg]
  rintro rfl
  rw [hi b] at q
  cases q
theorem pq_rl_14 {i k : Nat} (hi : 14 ≤ i) (h2 : i ≤ 18) : pq_rl i k = false := by
  unfold pq_rl
  simp [hi, h2]
theorem pq_rl_38 (k : Nat) : pq_rl 38 k = false := by simp [pq_rl]
theorem pq_rl_45 {i : Nat} (k : Nat) (hi : 45 ≤ i) : pq_rl i k = false := by simp [pq_rl, hi]
theorem pq_eq_cp (h : zw_Hp) (c : pq_Pg) : pq_eq h (pq_cp 14 c h) := by
  refine ⟨fun a b q => ?_, rfl⟩
  by_cases z : a < 14 ∨ 14 + 4 < a
  · rw [pq_cp_off c h z]
  · rw [pq_rl_14 (by omega) (by omega)] at q
    cases q
theorem pq_eq_sym {h h' : zw_Hp} (a : pq_eq h h') : pq_eq h' h := ⟨fun i k q => (a.1 i k q).symm, a.2.symm⟩
/-- whole rows that count -/
theorem pq_eq_row {h h' : zw_Hp} (a : pq_eq h h') {i : Nat} (hi : ∀ k, pq_rl i k = true) : h'.1 i = h.1 i := funext fun k => a.1 i k (hi k)
theorem pq_rl_t {i : Nat} (k : Nat) (h1 : i < 3 ∨ 6 ≤ i) (h2 : i < 14 ∨ 19 ≤ i) (h3 : i < 28 ∨ 32 ≤ i) (h4 : i ≠ 35 ∧ i ≠ 36 ∧ i ≠ 38 ∧ i < 45) : pq_rl i k = true := by
  unfold pq_rl
  have a1 : ¬ (3 ≤ i ∧ i ≤ 5) := by omega
  have a2 : ¬ (14 ≤ i ∧ i ≤ 18) := by omega
  have a3 : ¬ (28 ≤ i ∧ i ≤ 30) := by omega
  have a4 : ¬ (45 ≤ i) := by omega
  have a5 : i ≠ 31 := by omega
  simp only [Bool.and_eq_true, Bool.not_eq_true', Bool.and_eq_false_iff, decide_eq_false_iff_not, beq_eq_false_iff_ne]
  refine ⟨⟨⟨⟨⟨⟨⟨?_, ?_⟩, ?_⟩, h4.1⟩, h4.2.1⟩, h4.2.2.1⟩, a4⟩, Or.inl a5⟩
  all_goals omega
theorem pq_eq_cg {h h' : zw_Hp} (a : pq_eq h h') : pq_cg 9 h' = pq_cg 9 h := by
  have r : ∀ i, 9 ≤ i → i ≤ 13 → h'.1 i = h.1 i := fun i h1 h2 => pq_eq_row a (fun k => pq_rl_t k (by omega) (by omega) (by omega) (by omega))
  unfold pq_cg
  rw [r 9 (by omega) (by omega), r 10 (by omega) (by omega), r 11 (by omega) (by omega), r 12 (by omega) (by omega), r 13 (by omega) (by omega)]
/-! tests of arguments -/
theorem pq_lg_lt (x y : Int64) : lg_cmp x y < 0 ↔ x < y := by
  unfold lg_cmp
  by_cases h1 : x > y
  · rw [if_pos h1]
    exact ⟨fun q => absurd q (by decide), fun q => absurd h1 (Int64.not_lt.mpr (Int64.le_of_lt q))⟩
  · rw [if_neg h1]
    by_cases h2 : x = y
    · rw [if_pos h2]
      exact ⟨fun q => absurd q (by decide), fun q => by subst h2; exact (Int64.lt_irrefl q).elim⟩
    · rw [if_neg h2]
      refine ⟨fun _ => ?_, fun _ => by decide⟩
      exact Int64.lt_of_le_of_ne (Int64.not_lt.mp h1) h2
theorem pq_lg_gt (x y : Int64) : 0 < lg_cmp x y ↔ y < x := by
  unfold lg_cmp
  by_cases h1 : x > y
  · rw [if_pos h1]
    exact ⟨fun _ => h1, fun _ => by decide⟩
  · rw [if_neg h1]
    by_cases h2 : x = y
    · rw [if_pos h2]
      exact ⟨fun q => absurd q (by decide), fun q => absurd q h1⟩
    · rw [if_neg h2]
      exact ⟨fun q => absurd q (by decide), fun q => absurd q h1⟩
theorem pq_in64 (x a b : Int64) (h : zw_Hp) : M_X9_in x a b h = some (if a ≤ x ∧ x ≤ b then 1 else 0) := by
  unfold M_X9_in
  by_cases h1 : x < a
  · rw [if_pos ((pq_lg_lt x a).mpr h1), if_neg (fun q => absurd q.1 (Int64.not_le.mpr h1))]
  · rw [if_neg (fun q => h1 ((pq_lg_lt x a).mp q))]
    by_cases h2 : b < x
    · rw [if_pos ((pq_lg_gt x b).mpr h2), if_neg (fun q => absurd q.2 (Int64.not_le.mpr h2))]
    · rw [if_neg (fun q => h2 ((pq_lg_gt x b).mp q)), if_pos ⟨Int64.not_lt.mp h1, Int64.not_lt.mp h2⟩]
theorem pq_wle (a b : Int32) : a.toInt64 ≤ b.toInt64 ↔ a ≤ b := by
  rw [Int64.le_iff_toInt_le, Int32.le_iff_toInt_le, Int32.toInt_toInt64, Int32.toInt_toInt64]
theorem pq_in (x a b : Int32) (h : zw_Hp) : M_X9_in x.toInt64 a.toInt64 b.toInt64 h = some (if a ≤ x ∧ x ≤ b then 1 else 0) := by
  simp only [pq_in64, pq_wle]
theorem pq_has (a b : Int32) (h : zw_Hp) : M_X9_has a b h = some (if ((a >>> (b &&& 31)) &&& 1) = 1 then 1 else 0) := by
  unfold M_X9_has
  split <;> rfl
/-- a number that may be one of n: by cases -/
theorem pq_num (x : Int32) {n : Nat} (hn : n < 2 ^ 31) : (¬ (0 ≤ x ∧ x ≤ nI n - 1) ∧ (x < 0 ∨ nI n ≤ x)) ∨ ∃ j, j < n ∧ x = nI j ∧ (0 ≤ x ∧ x ≤ nI n - 1) := by
  rcases pk_ix x hn with h1 | h1 | ⟨j, h1, h2⟩
  · exact Or.inl ⟨fun q => absurd q.1 (Int32.not_le.mpr h1), Or.inl h1⟩
  · refine Or.inl ⟨fun q => ?_, Or.inr h1⟩
    cases n with
    | zero =>
      have h0 := q.1
      have h2 := Int32.le_trans h0 q.2
      exact absurd h2 (by decide)
    | succ n =>
      have h2 : nI (n + 1) ≤ nI n := by
        have := Int32.le_trans h1 q.2
        rw [nI_pred] at this
        exact this
      exact absurd h2 (nI_ge (by omega) hn)
  · refine Or.inr ⟨j, h1, h2, ?_, ?_⟩
    · rw [h2]; exact nI_pos' (by omega)
    · obtain ⟨k, rfl⟩ : ∃ k, n = k + 1 := ⟨n - 1, by omega⟩
      rw [h2, nI_pred]
      exact nI_le (by omega) (by omega)
theorem pq_noOne {n : Nat} (hn : n ≤ 5) (x : Int32) {h : zw_Hp} (h6 : h.1 31 6 = nI n) : M_X9_noOne x h = some (if 0 ≤ x ∧ x ≤ nI n - 1 then 0 else 1) := by
  unfold M_X9_noOne
  rw [h6, show (0 : Int64) = (0 : Int32).toInt64 from rfl, pq_in]
  split <;> rfl
theorem pq_noBucket {m : Nat} (hm : m ≤ 4) (x : Int32) {h : zw_Hp} (h8 : h.1 31 8 = nI m) : M_X9_noBucket x h = some (if 0 ≤ x ∧ x ≤ nI m - 1 then 0 else 1) := by
  unfold M_X9_noBucket
  rw [h8, show (0 : Int64) = (0 : Int32).toInt64 from rfl, pq_in]
  split <;> rfl
theorem pq_hasPerson {n : Nat} (hn : n ≤ 5) (x : Int32) {h : zw_Hp} (h2 : h.1 6 2 = nI n) : M_X2_hasPerson 6 x h = some (if 0 ≤ x ∧ x ≤ nI n - 1 then 1 else 0) := by
  unfold M_X2_hasPerson
  rw [h2]
  rcases pq_num x (n := n) (by omega) with ⟨h1, h3⟩ | ⟨j, h1, h3, h4⟩
  · rw [if_neg h1]
    by_cases q : x < 0
    · rw [if_pos q]
    · rw [if_neg q, if_pos (h3.resolve_left q)]
  · rw [if_pos h4, h3, if_neg (nI_pos (by omega)), if_neg (nI_ge h1 (by omega)), if_neg]
    exact nI_ge (a := j) (b := 5) (by omega) (by decide)
theorem pq_hasBucket {m : Nat} (hm : m ≤ 4) (x : Int32) {h : zw_Hp} (h2 : h.1 6 3 = nI m) : M_X2_hasBucket 6 x h = some (if 0 ≤ x ∧ x ≤ nI m - 1 then 1 else 0) := by
  unfold M_X2_hasBucket
  rw [h2]
  rcases pq_num x (n := m) (by omega) with ⟨h1, h3⟩ | ⟨j, h1, h3, h4⟩
  · rw [if_neg h1]
    by_cases q : x < 0
    · rw [if_pos q]
    · rw [if_neg q, if_pos (h3.resolve_left q)]
  · rw [if_pos h4, h3, if_neg (nI_pos (by omega)), if_neg (nI_ge h1 (by omega)), if_neg]
    exact nI_ge (a := j) (b := 4) (by omega) (by decide)
theorem pq_01 (x : Int32) (h : zw_Hp) : M_X8_isZeroOrOne x h = some (if 0 ≤ x ∧ x ≤ 1 then 1 else 0) := by
  unfold M_X8_isZeroOrOne
  rcases pq_num x (n := 2) (by decide) with ⟨h1, h3⟩ | ⟨j, h1, h3, h4⟩
  · have h1' : ¬ (0 ≤ x ∧ x ≤ 1) := h1
    rw [if_neg h1', if_neg, if_neg]
    · rintro rfl; exact h1' (by decide)
    · rintro rfl; exact h1' (by decide)
  · have h4' : 0 ≤ x ∧ x ≤ 1 := h4
    rw [if_pos h4']
    rcases (show j = 0 ∨ j = 1 by omega) with rfl | rfl
    · rw [h3, if_pos (by rfl)]
    · rw [h3, if_neg (by decide), if_pos (by rfl)]
/-! the trial begins as now is -/
theorem pq_cpyrow {h : zw_Hp} {i j n k : Nat} : va_cpy (h.1 i) (h.1 j) 0 0 n k = if k < n then h.1 i k else h.1 j k := by
  unfold va_cpy
  simp
theorem pq_copyFrom (h : zw_Hp) : M_X3_copyFrom 14 9 h = some (pq_cp 14 (pq_cg 9 h) h) := by
  unfold M_X3_copyFrom
  simp only [zw_nm]
  rw [if_pos (by decide), if_pos (by decide), if_pos (by decide), if_pos (by decide)]
  congr 1
  refine pq_hext (fun a b => ?_) rfl
  rw [pq_cp_at]
  simp only [pq_up_at, pq_upR_at]
  by_cases h1 : 14 ≤ a ∧ pq_ix (a - 14) b < 22
  · rw [if_pos h1, pq_cg_ix h h1.2]
    obtain ⟨o, rfl⟩ : ∃ o, a = 14 + o := ⟨a - 14, by omega⟩
    rw [Nat.add_sub_cancel_left] at h1 ⊢
    rcases pq_ix_cases h1.2 with ⟨rfl, h2, h3, e⟩ | ⟨rfl, h2, e⟩ | ⟨rfl, h2, e⟩ | ⟨rfl, h2, e⟩ | ⟨rfl, h2, e⟩
    · rcases (show b = 5 ∨ b = 6 ∨ b = 7 ∨ b = 8 ∨ b = 9 by omega) with rfl | rfl | rfl | rfl | rfl <;> simp
    · simp [pq_cpyrow, va_cpy, show (0 : Int32).toNatClampNeg = 0 from rfl, show (5 : Int32).toNatClampNeg = 5 from rfl, h2]
    · simp [pq_cpyrow, va_cpy, show (0 : Int32).toNatClampNeg = 0 from rfl, show (4 : Int32).toNatClampNeg = 4 from rfl, h2]
    · simp [pq_cpyrow, va_cpy, show (0 : Int32).toNatClampNeg = 0 from rfl, show (4 : Int32).toNatClampNeg = 4 from rfl, h2]
    · simp [pq_cpyrow, va_cpy, show (0 : Int32).toNatClampNeg = 0 from rfl, show (4 : Int32).toNatClampNeg = 4 from rfl, h2]
  · rw [if_neg h1]
    have n5 : (5 : Int32).toNatClampNeg = 5 := rfl
    have n4 : (4 : Int32).toNatClampNeg = 4 := rfl
    have n0 : (0 : Int32).toNatClampNeg = 0 := rfl
    by_cases a14 : a = 14
    · subst a14
      have : ¬ (5 ≤ b ∧ b ≤ 9) := fun q => h1 ⟨by omega, by simp [pq_ix, q]; omega⟩
      have b5 : b ≠ 5 := by omega
      have b6 : b ≠ 6 := by omega
      have b7 : b ≠ 7 := by omega
      have b8 : b ≠ 8 := by omega
      have b9 : b ≠ 9 := by omega
      simp [b5, b6, b7, b8, b9]
    · by_cases a15 : a = 15
      · subst a15
        have : ¬ b < 5 := fun q => h1 ⟨by omega, by simp [pq_ix, q]; omega⟩
        simp [va_cpy, n0, n5, this]
      · by_cases a16 : a = 16
        · subst a16
          have : ¬ b < 4 := fun q => h1 ⟨by omega, by simp [pq_ix, q]; omega⟩
          simp [va_cpy, n0, n4, this]
        · by_cases a17 : a = 17
          · subst a17
            have : ¬ b < 4 := fun q => h1 ⟨by omega, by simp [pq_ix, q]; omega⟩
            simp [va_cpy, n0, n4, this]
          · by_cases a18 : a = 18
            · subst a18
              have : ¬ b < 4 := fun q => h1 ⟨by omega, by simp [pq_ix, q]; omega⟩
              simp [va_cpy, n0, n4, this]
            · simp [a14, a15, a16, a17, a18]
theorem pq_begin (h : zw_Hp) : M_X1_begin h = some (pq_cp 14 (pq_cg 9 h) h) := by
  unfold M_X1_begin
  rw [pq_copyFrom]
  rfl
theorem pq_upR_off (h : zw_Hp) {i j : Nat} (g : pq_Pg) (hij : j ≠ i) : (zw_upR h i g).1 j = h.1 j := if_neg hij
/-- the model's begin: 21 numbers -/
def pq_b21 (f g : pq_Pg) (j : Nat) : pq_Pg := fun k => if k < j then f k else g k
theorem pq_b21_s (f g : pq_Pg) (j : Nat) : upd (pq_b21 f g j) j (f j) = pq_b21 f g (j + 1) := by
  funext k
  unfold pq_b21 upd
  by_cases h1 : k = j
  · subst h1; simp
  · rw [if_neg h1]
    show (if k < j then f k else g k) = _
    by_cases h2 : k < j
    · rw [if_pos h2, if_pos (by omega)]
    · rw [if_neg h2, if_neg (by omega)]
theorem pq_mbegin (h : zw_Hp) : M_X9_begin h = some (zw_upR h 38 (pq_b21 (h.1 37) (h.1 38) 21)) := by
  unfold M_X9_begin L_X9_begin_2
  have key : ∀ (d N j : Nat), j + d = 21 → d < N → zw_it (fun (k2 : (Int32 × zw_Hp) → Option (zw_Hp)) (w : Int32 × zw_Hp) => B_X9_begin_2 k2 (w.1) (w.2)) N (nI j, zw_upR h 38 (pq_b21 (h.1 37) (h.1 38) j)) = some (zw_upR h 38 (pq_b21 (h.1 37) (h.1 38) 21)) := by
    intro d
    induction d with
    | zero =>
      intro N j hj hN
      obtain ⟨N', rfl⟩ : ∃ N', N = N' + 1 := ⟨N - 1, by omega⟩
      rw [pq_it_s]
      simp only []
      rw [B_X9_begin_2, show j = 21 by omega, if_pos (by decide)]
    | succ d ih =>
      intro N j hj hN
      obtain ⟨N', rfl⟩ : ∃ N', N = N' + 1 := ⟨N - 1, by omega⟩
      have hlt : ¬ ((21 : Int32) ≤ nI j) := nI_ge (a := j) (b := 21) (by omega) (by decide)
      rw [pq_it_s]
      simp only []
      rw [B_X9_begin_2, if_neg hlt, if_pos (pq_ok_nI (by omega) (by decide)), if_pos (pq_ok_nI (by omega) (by decide)), nI_clamp (by omega)]
      simp only [zw_nm, nI_1]
      rw [pq_mu, pq_upR_off h _ (show (37 : Nat) ≠ 38 by decide), pq_b21_s]
      exact ih N' (j + 1) (by omega) (by omega)
  have h0 : h = zw_upR h 38 (pq_b21 (h.1 37) (h.1 38) 0) := by
    refine pq_hext (fun a b => ?_) rfl
    rw [pq_upR_at]
    by_cases q : a = 38
    · subst q; rw [if_pos rfl]; rfl
    · rw [if_neg q]
  have := key 21 600 0 (by omega) (by omega)
  rw [← h0] at this
  exact this
theorem pq_R_b21 {w : Int32} {n m : Nat} (hn : n ≤ 5) (hm : m ≤ 4) {c f g : pq_Pg} (h : pq_R 4 w n m c f) : pq_R 4 w n m c (pq_b21 f g 21) := by
  have e : ∀ k, k < 21 → pq_b21 f g 21 k = f k := fun k hk => if_pos hk
  obtain ⟨h1, h2, h3⟩ := h
  exact ⟨fun s hs => by rw [e s (by omega)]; exact h1 s hs, fun b hb => ⟨fun q => by omega, fun q => by rw [e _ (by omega), e _ (by omega), e _ (by omega)]; exact (h2 b hb).2 q⟩, fun k hk hk2 => by rw [e k (by omega)]; exact h3 k hk hk2⟩
