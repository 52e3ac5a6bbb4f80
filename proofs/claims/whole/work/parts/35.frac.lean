/-! least terms -/
theorem pq_tm (p q : Int32) (hq : q ≠ 0) : (p - p / q * q).toInt = p.toInt.tmod q.toInt := by
  have q0 : q.toInt ≠ 0 := fun e => hq (Int32.toInt_inj.mp (by rw [e]; rfl))
  have hb := Int.natAbs_tmod p.toInt q.toInt
  have hlt : (p.toInt.tmod q.toInt).natAbs < q.toInt.natAbs := by
    rw [hb]
    exact Nat.mod_lt _ (by omega)
  have b1 := q.le_toInt
  have b2 := q.toInt_lt
  rw [Int32.toInt_sub, Int32.toInt_mul, Int32.toInt_div]
  rw [Int.sub_bmod_bmod, Int.sub_bmod, Int.bmod_mul_bmod, ← Int.sub_bmod]
  have e : p.toInt - p.toInt.tdiv q.toInt * q.toInt = p.toInt.tmod q.toInt := by
    rw [Int.tmod_def, Int.mul_comm]
  rw [e]
  apply Int.bmod_eq_of_le <;> omega
theorem pq_euc (h h' : zw_Hp) : ∀ (k : Nat) (p q : Int32) (t N N' : Nat), q.toInt.natAbs < 2 ^ k → t + 2 * k < 64 → 2 * k < N → 2 * k < N' → (p ≠ 0 ∨ q ≠ 0) →
    ∃ v : Int32, v ≠ 0 ∧ zw_it (fun (k7 : (Int32 × Int32 × Int32) → Option (Int32)) (w : Int32 × Int32 × Int32) => B_X8_commonDivisor_7 h k7 (w.1) (w.2.1) (w.2.2)) N (p, q, nI t) = some v ∧ zw_it (fun (k13 : (Int32 × Int32) → Option (Int32)) (w : Int32 × Int32) => B_X9_divisor_13 h' k13 (w.1) (w.2)) N' (p, q) = some v := by
  have base : ∀ (p : Int32) (t N N' : Nat), t < 64 → 0 < N → 0 < N' → p ≠ 0 → ∃ v : Int32, v ≠ 0 ∧ zw_it (fun (k7 : (Int32 × Int32 × Int32) → Option (Int32)) (w : Int32 × Int32 × Int32) => B_X8_commonDivisor_7 h k7 (w.1) (w.2.1) (w.2.2)) N (p, 0, nI t) = some v ∧ zw_it (fun (k13 : (Int32 × Int32) → Option (Int32)) (w : Int32 × Int32) => B_X9_divisor_13 h' k13 (w.1) (w.2)) N' (p, 0) = some v := by
    intro p t N N' ht hN hN' hp
    obtain ⟨N1, rfl⟩ : ∃ N1, N = N1 + 1 := ⟨N - 1, by omega⟩
    obtain ⟨N2, rfl⟩ : ∃ N2, N' = N2 + 1 := ⟨N' - 1, by omega⟩
    refine ⟨p, hp, ?_, ?_⟩
    · rw [pq_it_s]
      simp only []
      rw [B_X8_commonDivisor_7, if_neg (show ¬ (64 : Int32) ≤ nI t from nI_ge (a := t) (b := 64) ht (by decide)), if_pos rfl]
    · rw [pq_it_s]
      simp only []
      rw [B_X9_divisor_13, if_pos rfl]
  intro k
  induction k with
  | zero =>
    intro p q t N N' hq ht hN hN' hpq
    have q0 : q = 0 := Int32.toInt_inj.mp (by rw [show (0 : Int32).toInt = 0 from rfl]; omega)
    subst q0
    exact base p t N N' (by omega) (by omega) (by omega) (by rcases hpq with z | z; exact z; exact absurd rfl z)
  | succ k ih =>
    intro p q t N N' hq ht hN hN' hpq
    by_cases q0 : q = 0
    · subst q0
      exact base p t N N' (by omega) (by omega) (by omega) (by rcases hpq with z | z; exact z; exact absurd rfl z)
    · have st : ∀ (p q : Int32) (t N N' : Nat), q ≠ 0 → t < 64 → (zw_it (fun (k7 : (Int32 × Int32 × Int32) → Option (Int32)) (w : Int32 × Int32 × Int32) => B_X8_commonDivisor_7 h k7 (w.1) (w.2.1) (w.2.2)) (N + 1) (p, q, nI t) = zw_it (fun (k7 : (Int32 × Int32 × Int32) → Option (Int32)) (w : Int32 × Int32 × Int32) => B_X8_commonDivisor_7 h k7 (w.1) (w.2.1) (w.2.2)) N (q, p - p / q * q, nI (t + 1))) ∧ (zw_it (fun (k13 : (Int32 × Int32) → Option (Int32)) (w : Int32 × Int32) => B_X9_divisor_13 h' k13 (w.1) (w.2)) (N' + 1) (p, q) = zw_it (fun (k13 : (Int32 × Int32) → Option (Int32)) (w : Int32 × Int32) => B_X9_divisor_13 h' k13 (w.1) (w.2)) N' (q, p - p / q * q)) := by
        intro p q t N N' hq ht
        constructor
        · rw [pq_it_s]
          simp only []
          rw [B_X8_commonDivisor_7, if_neg (show ¬ (64 : Int32) ≤ nI t from nI_ge (a := t) (b := 64) ht (by decide)), if_neg hq, if_pos hq]
          simp only [zw_nm, nI_1]
        · rw [pq_it_s]
          simp only []
          rw [B_X9_divisor_13, if_neg hq, if_pos hq]
          simp only [zw_nm]
      obtain ⟨N1, rfl⟩ : ∃ N1, N = N1 + 1 + 1 := ⟨N - 2, by omega⟩
      obtain ⟨N2, rfl⟩ : ∃ N2, N' = N2 + 1 + 1 := ⟨N' - 2, by omega⟩
      rw [(st p q t (N1 + 1) (N2 + 1) q0 (by omega)).1, (st p q t (N1 + 1) (N2 + 1) q0 (by omega)).2]
      by_cases r0 : p - p / q * q = 0
      · rw [r0]
        exact base q (t + 1) (N1 + 1) (N2 + 1) (by omega) (by omega) (by omega) q0
      · have hr := congrArg Int.natAbs (pq_tm p q q0)
        rw [Int.natAbs_tmod] at hr
        generalize p - p / q * q = r at r0 hr ⊢
        rw [(st q r (t + 1) N1 N2 r0 (by omega)).1, (st q r (t + 1) N1 N2 r0 (by omega)).2]
        have hs := congrArg Int.natAbs (pq_tm q r r0)
        rw [Int.natAbs_tmod] at hs
        have q1 : 0 < q.toInt.natAbs := by
          rcases Nat.eq_zero_or_pos q.toInt.natAbs with z | z
          · exact absurd (Int32.toInt_inj.mp (by rw [show (0 : Int32).toInt = 0 from rfl]; omega)) q0
          · exact z
        have r1 : 0 < r.toInt.natAbs := by
          rcases Nat.eq_zero_or_pos r.toInt.natAbs with z | z
          · exact absurd (Int32.toInt_inj.mp (by rw [show (0 : Int32).toInt = 0 from rfl]; omega)) r0
          · exact z
        have r2 : r.toInt.natAbs < q.toInt.natAbs := by rw [hr]; exact Nat.mod_lt _ q1
        have s1 : q.toInt.natAbs % r.toInt.natAbs < r.toInt.natAbs := Nat.mod_lt _ r1
        have s2 : q.toInt.natAbs % r.toInt.natAbs ≤ q.toInt.natAbs - r.toInt.natAbs := by
          rw [Nat.mod_eq_sub_mod (by omega)]
          exact Nat.mod_le _ _
        refine ih r _ (t + 1 + 1) N1 N2 ?_ (by omega) (by omega) (by omega) (Or.inl r0)
        rw [hs]
        rw [Nat.pow_succ] at hq
        omega
theorem pq_frac (up low x2 : Int32) (h h' : zw_Hp) (hl : low ≠ 0) (hb : low.toInt.natAbs < 2 ^ 20) : ∃ v, M_X8_leastTerm up low x2 h = some v ∧ M_X9_fraction up low x2 h' = some v := by
  unfold M_X8_leastTerm M_X9_fraction M_X8_commonDivisor M_X9_divisor L_X8_commonDivisor_7 B_X9_divisor_10 L_X9_divisor_13
  have key : ∀ p : Int32, ∃ v, ((zw_it (fun (k7 : (Int32 × Int32 × Int32) → Option (Int32)) (w : Int32 × Int32 × Int32) => B_X8_commonDivisor_7 h k7 (w.1) (w.2.1) (w.2.2)) 600 (p, low, 0)).bind fun z1 => if z1 = 0 then some 0 else if x2 = 0 then (if ¬ z1 = 0 then some (low / z1) else none) else if ¬ z1 = 0 then some (up / z1) else none) = some v ∧ ((zw_it (fun (k13 : (Int32 × Int32) → Option (Int32)) (w : Int32 × Int32) => B_X9_divisor_13 h' k13 (w.1) (w.2)) 600 (p, low)).bind fun z1 => if x2 = 0 then (if ¬ z1 = 0 then some (low / z1) else none) else if ¬ z1 = 0 then some (up / z1) else none) = some v := by
    intro p
    obtain ⟨v, v0, e1, e2⟩ := pq_euc h h' 20 p low 0 600 600 hb (by omega) (by omega) (by omega) (Or.inr hl)
    have e1' : zw_it (fun (k7 : (Int32 × Int32 × Int32) → Option (Int32)) (w : Int32 × Int32 × Int32) => B_X8_commonDivisor_7 h k7 (w.1) (w.2.1) (w.2.2)) 600 (p, low, 0) = some v := e1
    rw [e1', e2]
    simp only [Option.bind_some]
    rw [if_neg v0, if_pos v0, if_pos v0]
    by_cases x0 : x2 = 0
    · rw [if_pos x0]
      exact ⟨_, rfl, rfl⟩
    · rw [if_neg x0]
      exact ⟨_, rfl, rfl⟩
  by_cases u0 : 0 ≤ up
  · rw [if_pos u0, if_pos u0]
    exact key up
  · rw [if_neg u0, if_neg u0, show (0 : Int32) - up = -up from Int32.zero_sub up]
    exact key (-up)
/-! factorials, powers -/
def pq_fac (k : Nat) : Nat := if k ≤ 1 then 1 else if k = 2 then 2 else if k = 3 then 6 else 24
theorem pq_fact {k : Nat} (hk : k ≤ 4) (h : zw_Hp) : M_X8_factorial (nI k) h = some (nI (pq_fac k)) := by
  unfold M_X8_factorial L_X8_factorial_4
  obtain ⟨K, hK⟩ := pq_u6 (fun (k4 : (Int32 × Int32 × Int32) → Option (Int32)) (w : Int32 × Int32 × Int32) => B_X8_factorial_4 h k4 (w.1) (w.2.1) (w.2.2)) (nI k, (1 : Int32), (2 : Int32))
  rw [hK]
  simp only [B_X8_factorial_4, zw_nm]
  rcases (show k = 0 ∨ k = 1 ∨ k = 2 ∨ k = 3 ∨ k = 4 by omega) with rfl | rfl | rfl | rfl | rfl <;> rfl
theorem pq_ways {k : Nat} (hk : k ≤ 4) (h : zw_Hp) : M_X9_ways (nI k) h = some (nI (pq_fac k)) := by
  unfold M_X9_ways L_X9_ways_4
  obtain ⟨K, hK⟩ := pq_u6 (fun (k4 : (Int32 × Int32 × Int32) → Option (Int32)) (w : Int32 × Int32 × Int32) => B_X9_ways_4 h k4 (w.1) (w.2.1) (w.2.2)) (nI k, (1 : Int32), (2 : Int32))
  rw [hK]
  simp only [B_X9_ways_4, zw_nm]
  rcases (show k = 0 ∨ k = 1 ∨ k = 2 ∨ k = 3 ∨ k = 4 by omega) with rfl | rfl | rfl | rfl | rfl <;> rfl
def pq_pwr (x : Int32) : Nat → Int32
  | 0 => 1
  | k + 1 => pq_pwr x k * x
theorem pq_power {k : Nat} (hk : k ≤ 4) (x : Int32) (h : zw_Hp) : M_X9_power x (nI k) h = some (pq_pwr x k) := by
  unfold M_X9_power L_X9_power_4
  obtain ⟨K, hK⟩ := pq_u6 (fun (k4 : (Int32 × Int32 × Int32 × Int32) → Option (Int32)) (w : Int32 × Int32 × Int32 × Int32) => B_X9_power_4 h k4 (w.1) (w.2.1) (w.2.2.1) (w.2.2.2)) (x, nI k, (1 : Int32), (0 : Int32))
  rw [hK]
  simp only [B_X9_power_4, zw_nm]
  rcases (show k = 0 ∨ k = 1 ∨ k = 2 ∨ k = 3 ∨ k = 4 by omega) with rfl | rfl | rfl | rfl | rfl
  · rw [if_pos (by decide)]; rfl
  · rw [if_neg (by decide), if_pos (by decide)]; rfl
  · rw [if_neg (by decide), if_neg (by decide), if_pos (by decide)]; rfl
  · rw [if_neg (by decide), if_neg (by decide), if_neg (by decide), if_pos (by decide)]; rfl
  · rw [if_neg (by decide), if_neg (by decide), if_neg (by decide), if_neg (by decide), if_pos (by decide)]; rfl
theorem pq_fac_ne {k : Nat} : nI (pq_fac k) ≠ 0 ∧ (nI (pq_fac k)).toInt.natAbs < 2 ^ 20 := by
  unfold pq_fac
  split
  · decide
  · split
    · decide
    · split
      · decide
      · decide
