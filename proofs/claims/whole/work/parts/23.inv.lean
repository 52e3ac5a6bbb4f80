/-! WHAT HOLDS BETWEEN TWO CALLS: n people, m buckets, at most B beats so far -/
def pq_W8 (m : Nat) (c : pq_Pg) : Prop := pq_W7 c ∧ ∀ b, b < m → c (b + 5) ≠ 10
def pq_xr (f : pq_Pg) : pq_Pg := fun k => if k = 21 then 0 else f k
def pq_Sn (n m B : Nat) (w : Int32) (f g : pq_Pg) : Prop := pq_Wb n m B (pq_xr f) ∧ pq_W8 m (pq_xr f) ∧ pq_R 4 w n m (pq_xr f) g
def pq_Ia (n m B : Nat) (h : zw_Hp) : Prop := ∃ a o, a ≤ 14 ∧ o < 14 ∧ h.1 19 2 = nI a ∧ h.1 31 21 = nI a ∧ h.1 19 1 = nI o ∧ ∀ j, j < a → pq_Sn n m B (h.1 6 7) (fun k => h.1 21 (((o + j) % 14) * 21 + k)) (fun k => h.1 39 (21 * j + k))
def pq_Ik (n m B : Nat) (h : zw_Hp) : Prop := ∃ k0 k1 : Bool, h.1 0 6 = nI (k0.toNat + 2 * k1.toNat) ∧ h.1 41 0 = nI k0.toNat ∧ h.1 41 1 = nI k1.toNat ∧ (k0 = true → pq_Sn n m B (h.1 6 7) (fun k => h.1 23 (0 * 21 + k)) (fun k => h.1 40 (21 * 0 + k))) ∧ (k1 = true → pq_Sn n m B (h.1 6 7) (fun k => h.1 23 (1 * 21 + k)) (fun k => h.1 40 (21 * 1 + k)))
def pq_It (h : zw_Hp) : Prop := ∃ x, x ≤ 36 ∧ h.1 1 1 = nI x ∧ h.1 31 2 = nI x ∧ ∀ k, k < x → h.1 32 k = h.1 2 k ∧ ∃ q, q ≤ 255 ∧ h.1 2 k = nI q
def pq_Is (h : zw_Hp) : Prop := ∃ y, y ≤ 6 ∧ h.1 24 3 = nI y ∧ h.1 31 24 = nI y ∧ ∀ k, k < y → h.1 42 k = h.1 25 k ∧ h.1 43 k = h.1 26 k ∧ h.1 44 k = h.1 27 k ∧ (∃ q, q ≤ 9 ∧ h.1 25 k = nI q) ∧ (∃ q, q ≤ 99 ∧ h.1 26 k = nI q) ∧ (h.1 27 k = 0 ∨ h.1 27 k = 1)
def pq_I (n m B : Nat) (h : zw_Hp) : Prop := pq_Pl n m h ∧ h.1 6 3 = nI m ∧ pq_Cf n m h ∧ h.1 9 9 = 0 ∧ pq_Sn n m B (h.1 6 7) (pq_cg 9 h) (h.1 37) ∧ pq_Ia n m B h ∧ pq_Ik n m B h ∧ pq_It h ∧ pq_Is h ∧ h.2 0 = h.2 31
theorem pq_I_eq {n m B : Nat} {h h' : zw_Hp} (hI : pq_I n m B h) (e : pq_eq h h') : pq_I n m B h' := by
  have r : ∀ i, (i < 3 ∨ 6 ≤ i) → (i < 14 ∨ 19 ≤ i) → (i < 28 ∨ 32 ≤ i) → (i ≠ 35 ∧ i ≠ 36 ∧ i ≠ 38 ∧ i < 45) → h'.1 i = h.1 i := fun i h1 h2 h3 h4 => pq_eq_row e (fun k => pq_rl_t k h1 h2 h3 h4)
  have c := pq_eq_cg e
  have e2 := e.2
  have m2 := e.1 31 2 (by decide)
  have m4 := e.1 31 4 (by decide)
  have m5 := e.1 31 5 (by decide)
  have m6 := e.1 31 6 (by decide)
  have m8 := e.1 31 8 (by decide)
  have m21 := e.1 31 21 (by decide)
  have m24 := e.1 31 24 (by decide)
  unfold pq_I pq_Pl pq_Cf pq_C pq_Ia pq_Ik pq_It pq_Is at hI ⊢
  rw [r 6 (by omega) (by omega) (by omega) (by omega), r 7 (by omega) (by omega) (by omega) (by omega), r 8 (by omega) (by omega) (by omega) (by omega), r 9 (by omega) (by omega) (by omega) (by omega), r 33 (by omega) (by omega) (by omega) (by omega), r 34 (by omega) (by omega) (by omega) (by omega), r 37 (by omega) (by omega) (by omega) (by omega), r 19 (by omega) (by omega) (by omega) (by omega), r 21 (by omega) (by omega) (by omega) (by omega), r 39 (by omega) (by omega) (by omega) (by omega), r 0 (by omega) (by omega) (by omega) (by omega), r 41 (by omega) (by omega) (by omega) (by omega), r 23 (by omega) (by omega) (by omega) (by omega), r 40 (by omega) (by omega) (by omega) (by omega), r 1 (by omega) (by omega) (by omega) (by omega), r 2 (by omega) (by omega) (by omega) (by omega), r 32 (by omega) (by omega) (by omega) (by omega), r 24 (by omega) (by omega) (by omega) (by omega), r 25 (by omega) (by omega) (by omega) (by omega), r 26 (by omega) (by omega) (by omega) (by omega), r 27 (by omega) (by omega) (by omega) (by omega), r 42 (by omega) (by omega) (by omega) (by omega), r 43 (by omega) (by omega) (by omega) (by omega), r 44 (by omega) (by omega) (by omega) (by omega), c, e2, m2, m4, m5, m6, m8, m21, m24]
  exact hI
theorem pq_Wb_le {n m B B' : Nat} (hB : B ≤ B') {c : pq_Pg} (h : pq_Wb n m B c) : pq_Wb n m B' c := ⟨h.1, h.2.1, h.2.2.1, pq_WN_le hB h.2.2.2⟩
theorem pq_Sn_le {n m B B' : Nat} (hB : B ≤ B') {w : Int32} {f g : pq_Pg} (h : pq_Sn n m B w f g) : pq_Sn n m B' w f g := ⟨pq_Wb_le hB h.1, h.2⟩
theorem pq_I_le {n m B B' : Nat} (hB : B ≤ B') {h : zw_Hp} (hI : pq_I n m B h) : pq_I n m B' h := by
  obtain ⟨h1, h2, h3, h4, h5, ⟨a, o, a1, a2, a3, a4, a5, a6⟩, ⟨k0, k1, b1, b2, b3, b4, b5⟩, h8, h9, h10⟩ := hI
  exact ⟨h1, h2, h3, h4, pq_Sn_le hB h5, ⟨a, o, a1, a2, a3, a4, a5, fun j hj => pq_Sn_le hB (a6 j hj)⟩, ⟨k0, k1, b1, b2, b3, fun q => pq_Sn_le hB (b4 q), fun q => pq_Sn_le hB (b5 q)⟩, h8, h9, h10⟩
/-- the page now: nobody rests -/
theorem pq_xr_now {h : zw_Hp} (h9 : h.1 9 9 = 0) : pq_xr (pq_cg 9 h) = pq_cg 9 h := by
  funext k
  unfold pq_xr
  by_cases q : k = 21
  · subst q; rw [if_pos rfl]; exact h9.symm
  · rw [if_neg q]
theorem pq_I.now {n m B : Nat} {h : zw_Hp} (hI : pq_I n m B h) : pq_Wb n m B (pq_cg 9 h) ∧ pq_W8 m (pq_cg 9 h) ∧ pq_R 4 (h.1 6 7) n m (pq_cg 9 h) (h.1 37) ∧ pq_cg 9 h 21 = 0 := by
  have h5 := hI.2.2.2.2.1
  unfold pq_Sn at h5
  rw [pq_xr_now hI.2.2.2.1] at h5
  exact ⟨h5.1, h5.2.1, h5.2.2, hI.2.2.2.1⟩
theorem pq_rng (x : Int32) {a b : Nat} (hb : b < 2 ^ 30) (ha : a ≤ b) : (¬ (nI a ≤ x ∧ x ≤ nI b) ∧ (x < nI a ∨ nI b < x)) ∨ ∃ j, a ≤ j ∧ j ≤ b ∧ x = nI j ∧ (nI a ≤ x ∧ x ≤ nI b) := by
  by_cases h1 : x < nI a
  · exact Or.inl ⟨fun q => absurd q.1 (Int32.not_le.mpr h1), Or.inl h1⟩
  · by_cases h2 : nI b < x
    · exact Or.inl ⟨fun q => absurd q.2 (Int32.not_le.mpr h2), Or.inr h2⟩
    · have h3 : ¬ x < 0 := fun q => h1 (Int32.lt_of_lt_of_le q (nI_pos' (by omega)))
      obtain ⟨j, hj1, rfl⟩ := nI_of h3
      have j1 : a ≤ j := by
        rcases Nat.lt_or_ge j a with q | q
        · exact absurd (nI_lt q (by omega)) h1
        · exact q
      have j2 : j ≤ b := by
        rcases Nat.lt_or_ge b j with q | q
        · exact absurd (nI_lt q (by omega)) h2
        · exact q
      exact Or.inr ⟨j, j1, j2, rfl, nI_le j1 (by omega), nI_le j2 (by omega)⟩
theorem pq_msk0 (n : Nat) (hn : n ≤ 5) : pq_msk n 0 31 := by
  intro w hw
  rcases (show w = 0 ∨ w = 1 ∨ w = 2 ∨ w = 3 ∨ w = 4 by omega) with rfl | rfl | rfl | rfl | rfl <;> decide
/-- the model's first word of every call -/
theorem pq_I_m0 {n m B : Nat} {h : zw_Hp} (hI : pq_I n m B h) : pq_I n m B (zw_up h 31 0 0) := pq_I_eq hI (pq_eq_up h 0 (by decide))
/-- n beats from now on, of both -/
theorem pq_cls_beats {n m B : Nat} {h : zw_Hp} (hI : pq_I n m B h) {T : Nat} (hT : T < 600) : ∃ h1, (M_X1_begin h).bind (fun z => M_X3_passBeats 14 (nI T) z) = some (pq_bts (h.1 7) (h.1 8) (h.1 6 7) (h.1 6 6) n (pq_cg 9 h) T 19 - pq_cg 9 h 19, pq_cp 14 (pq_bts (h.1 7) (h.1 8) (h.1 6 7) (h.1 6 6) n (pq_cg 9 h) T) h1) ∧ h1 = h := by
  refine ⟨h, ?_, rfl⟩
  rw [pq_begin]
  exact pq_passBeats (Or.inr rfl) h hI.1 hT hI.now.1
theorem pq_mod_beats {n m B : Nat} (hB : B < 2 ^ 29) {h : zw_Hp} (hI : pq_I n m B h) {T : Nat} (hT : T < 600) : ∃ g', (M_X9_begin h).bind (fun z => M_X9_goBeats (nI T) 31 z) = some (zw_upR h 38 g') ∧ pq_R 4 (h.1 6 7) n m (pq_bts (h.1 7) (h.1 8) (h.1 6 7) (h.1 6 6) n (pq_cg 9 h) T) g' := by
  rw [pq_mbegin]
  obtain ⟨h1, h2, h3, h4, h5, h6⟩ := hI.1
  obtain ⟨n1, n2, n3, n4⟩ := hI.now
  exact pq_goBeats h2 h3 h4 h5 h hI.2.2.1 hT hB n1 (pq_R_b21 h2 h3 n3) (by rw [n4]; exact pq_msk0 n h2)
/-- the page T beats from now on -/
def pq_v (h : zw_Hp) (n T : Nat) : pq_Pg := pq_bts (h.1 7) (h.1 8) (h.1 6 7) (h.1 6 6) n (pq_cg 9 h) T
theorem pq_v_eq {h h' : zw_Hp} (e : pq_eq h h') (n T : Nat) : pq_v h' n T = pq_v h n T := by
  unfold pq_v
  rw [pq_eq_cg e, pq_eq_row e (i := 6) (fun k => pq_rl_t k (by omega) (by omega) (by omega) (by omega)), pq_eq_row e (i := 7) (fun k => pq_rl_t k (by omega) (by omega) (by omega) (by omega)), pq_eq_row e (i := 8) (fun k => pq_rl_t k (by omega) (by omega) (by omega) (by omega))]
def pq_laterV (h : zw_Hp) (n : Nat) (x1 x2 : Int32) : Int32 := if 0 ≤ x1 ∧ x1 ≤ 40 then (if 0 ≤ x2 ∧ x2 ≤ 1 then (if x2 = 0 then pq_v h n x1.toNatClampNeg 18 else pq_v h n x1.toNatClampNeg 19) else -2) else -2
theorem pq_laterC {n m B : Nat} {h : zw_Hp} (hI : pq_I n m B h) (x1 x2 : Int32) : ∃ h1, M_X8_later x1 x2 h = some (pq_laterV h n x1 x2, h1) ∧ pq_eq h h1 := by
  unfold M_X8_later pq_laterV
  rcases pq_rng x1 (a := 0) (b := 40) (by decide) (by decide) with ⟨a1, a2⟩ | ⟨j, a1, a2, a3, a4⟩
  · have a1' : ¬ (0 ≤ x1 ∧ x1 ≤ 40) := a1
    have a2' : x1 < 0 ∨ 40 < x1 := a2
    refine ⟨h, ?_, pq_eq_rf h⟩
    rw [if_neg a1']
    by_cases q : x1 < 0
    · rw [if_pos q]
    · rw [if_neg q, if_pos (a2'.resolve_left q)]
  · have a4' : 0 ≤ x1 ∧ x1 ≤ 40 := a4
    have q1 : ¬ x1 < 0 := Int32.not_lt.mpr a4'.1
    have q2 : ¬ 40 < x1 := Int32.not_lt.mpr a4'.2
    rw [if_neg q1, if_neg q2, if_pos a4', pq_01]
    simp only [Option.bind_some]
    by_cases b1 : 0 ≤ x2 ∧ x2 ≤ 1
    · simp only [if_pos b1, if_neg pq_10]
      rw [a3, nI_clamp (by omega)]
      unfold M_X1_fireIn M_X1_thrownIn
      rw [pq_begin]
      simp only [Option.bind_some]
      rw [pq_passBeats (Or.inr rfl) h hI.1 (show j < 600 by omega) hI.now.1]
      simp only [Option.bind_some]
      rw [pq_cp_0 _ h (by decide), pq_cp_0 _ h (by decide)]
      refine ⟨pq_cp 14 (pq_v h n j) h, ?_, pq_eq_cp h _⟩
      by_cases x0 : x2 = 0
      · rw [if_pos x0, if_pos x0]; rfl
      · rw [if_neg x0, if_neg x0]; rfl
    · exact ⟨h, by simp [b1], pq_eq_rf h⟩
theorem pq_laterM {n m B : Nat} (hB : B < 2 ^ 29) {h : zw_Hp} (hI : pq_I n m B h) (x1 x2 : Int32) : ∃ h1, M_X9_later x1 x2 h = some (pq_laterV h n x1 x2, h1) ∧ pq_eq h h1 := by
  unfold M_X9_later pq_laterV
  simp only [zw_nm]
  rw [show (0 : Int64) = (0 : Int32).toInt64 from rfl, show (40 : Int64) = (40 : Int32).toInt64 from rfl, show (1 : Int64) = (1 : Int32).toInt64 from rfl]
  simp only [pq_in, Option.bind_some]
  have e0 : pq_eq h (zw_up h 31 0 0) := pq_eq_up h 0 (by decide)
  rcases pq_rng x1 (a := 0) (b := 40) (by decide) (by decide) with ⟨a1, a2⟩ | ⟨j, a1, a2, a3, a4⟩
  · have a1' : ¬ (0 ≤ x1 ∧ x1 ≤ 40) := a1
    exact ⟨_, by rw [if_neg a1', if_neg a1', if_pos rfl], e0⟩
  · have a4' : 0 ≤ x1 ∧ x1 ≤ 40 := a4
    rw [if_pos a4', if_pos a4', if_neg pq_10]
    by_cases b1 : 0 ≤ x2 ∧ x2 ≤ 1
    · rw [if_pos b1, if_pos b1, if_neg pq_10, a3, nI_clamp (by omega)]
      have hI2 := pq_I_eq hI e0
      obtain ⟨g', e2, R2⟩ := pq_mod_beats hB hI2 (T := j) (by omega)
      have ev : pq_v (zw_up h 31 0 0) n j = pq_v h n j := pq_v_eq e0 n j
      have R3 : pq_R 4 ((zw_up h 31 0 0).1 6 7) n m (pq_v (zw_up h 31 0 0) n j) g' := R2
      rw [ev] at R3
      have e18 := R3.2.2 18 (by omega) (by omega)
      have e19 := R3.2.2 19 (by omega) (by omega)
      rw [pq_mbegin] at e2 ⊢
      simp only [Option.bind_some] at e2 ⊢
      rw [e2]
      simp only [Option.bind_some, B_X9_later_56]
      rw [show zw_ok (18 : Int32) 21 = true from rfl, show zw_ok (19 : Int32) 21 = true from rfl, show (18 : Int32).toNatClampNeg = 18 from rfl, show (19 : Int32).toNatClampNeg = 19 from rfl, pq_mp, e18, e19]
      refine ⟨zw_upR (zw_up h 31 0 0) 38 g', ?_, pq_eq_tr e0 (pq_eq_upR _ g' pq_rl_38)⟩
      by_cases x0 : x2 = 0
      · rw [if_pos x0, if_pos x0]; rfl
      · rw [if_neg x0, if_neg x0]; rfl
    · exact ⟨_, by rw [if_neg b1, if_neg b1, if_pos rfl], e0⟩
