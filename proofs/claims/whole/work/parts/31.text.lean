/-! what a call leaves: the parts of the invariant, each by its own cells -/
theorem pq_up_off (h : zw_Hp) {i j : Nat} (hij : j ≠ i) (k : Nat) (v : Int32) : (zw_up h i k v).1 j = h.1 j := by
  funext b
  rw [pq_up_at, if_neg (fun q => hij q.1)]
def pq_op (B : Nat) (C M : zw_Hp → Option (Int32 × zw_Hp)) (h : zw_Hp) : Prop := ∃ (r : Int32) (h1 h2 : zw_Hp) (n' m' : Nat), C h = some (r, h1) ∧ M h1 = some (r, h2) ∧ pq_I n' m' (B + 1) h2
theorem pq_opQ {n m B : Nat} {h : zw_Hp} (hI : pq_I n m B h) {C M : zw_Hp → Option (Int32 × zw_Hp)} {V : zw_Hp → Int32} (hC : ∃ h1, C h = some (V h, h1) ∧ pq_eq h h1) (hM : ∀ h', pq_I n m B h' → ∃ h1, M h' = some (V h', h1) ∧ pq_eq h' h1) (hV : ∀ h', pq_eq h h' → V h' = V h) : pq_op B C M h := by
  obtain ⟨h1, e1, q1⟩ := hC
  obtain ⟨h2, e2, q2⟩ := hM h1 (pq_I_eq hI q1)
  exact ⟨V h, h1, h2, n, m, e1, by rw [e2, hV h1 q1], pq_I_le (by omega) (pq_I_eq (pq_I_eq hI q1) q2)⟩
def pq_tT (i k : Nat) : Bool := i == 1 || i == 2 || i == 32 || (i == 31 && (k == 0 || k == 2))
def pq_tS (i k : Nat) : Bool := i == 24 || i == 25 || i == 26 || i == 27 || i == 42 || i == 43 || i == 44 || (i == 31 && (k == 0 || k == 24))
def pq_tA (i k : Nat) : Bool := i == 9 || i == 10 || i == 11 || i == 12 || i == 13 || i == 19 || i == 21 || i == 37 || i == 39 || (i == 31 && (k == 0 || k == 21))
def pq_tK (i k : Nat) : Bool := i == 23 || i == 40 || i == 41 || (i == 0 && k == 6) || (i == 31 && k == 0)
def pq_fr (T : Nat → Nat → Bool) (h h' : zw_Hp) : Prop := (∀ i k, T i k = false → h'.1 i k = h.1 i k) ∧ h'.2 = h.2
theorem pq_fr_row {T : Nat → Nat → Bool} {h h' : zw_Hp} (e : pq_fr T h h') (i : Nat) (hi : ∀ k, T i k = false) : h'.1 i = h.1 i := funext fun k => e.1 i k (hi k)
theorem pq_fr_up {T : Nat → Nat → Bool} {h h' : zw_Hp} (e : pq_fr T h h') {i k : Nat} (v : Int32) (hk : T i k = true) : pq_fr T h (zw_up h' i k v) := by
  refine ⟨fun a b q => ?_, e.2⟩
  rw [pq_up_at, if_neg]
  · exact e.1 a b q
  · rintro ⟨rfl, rfl⟩
    rw [hk] at q
    cases q
theorem pq_fr_upR {T : Nat → Nat → Bool} {h h' : zw_Hp} (e : pq_fr T h h') {i : Nat} (g : pq_Pg) (hk : ∀ k, T i k = true) : pq_fr T h (zw_upR h' i g) := by
  refine ⟨fun a b q => ?_, e.2⟩
  rw [pq_upR_at, if_neg]
  · exact e.1 a b q
  · rintro rfl
    rw [hk b] at q
    cases q
theorem pq_fr_rf (T : Nat → Nat → Bool) (h : zw_Hp) : pq_fr T h h := ⟨fun _ _ _ => rfl, rfl⟩
theorem pq_I_tT {n m B : Nat} {h h' : zw_Hp} (hI : pq_I n m B h) (e : pq_fr pq_tT h h') (hT : pq_It h') : pq_I n m B h' := by
  have r := pq_fr_row e
  have cg : pq_cg 9 h' = pq_cg 9 h := by
    unfold pq_cg
    rw [r 9 (fun k => rfl), r 10 (fun k => rfl), r 11 (fun k => rfl), r 12 (fun k => rfl), r 13 (fun k => rfl)]
  obtain ⟨h1, h2, h3, h4, h5, h6, h7, h8, h9, h10⟩ := hI
  unfold pq_I
  refine ⟨?_, ?_, ?_, ?_, ?_, ?_, ?_, hT, ?_, ?_⟩
  · unfold pq_Pl at h1 ⊢; rw [r 6 (fun k => rfl), r 8 (fun k => rfl)]; exact h1
  · rw [r 6 (fun k => rfl)]; exact h2
  · unfold pq_Cf pq_C at h3 ⊢
    rw [r 6 (fun k => rfl), r 7 (fun k => rfl), r 8 (fun k => rfl), r 33 (fun k => rfl), r 34 (fun k => rfl), e.1 31 4 rfl, e.1 31 5 rfl, e.1 31 6 rfl, e.1 31 8 rfl]; exact h3
  · rw [r 9 (fun k => rfl)]; exact h4
  · rw [cg, r 6 (fun k => rfl), r 37 (fun k => rfl)]; exact h5
  · unfold pq_Ia at h6 ⊢
    rw [r 6 (fun k => rfl), r 19 (fun k => rfl), r 21 (fun k => rfl), r 39 (fun k => rfl), e.1 31 21 rfl]; exact h6
  · unfold pq_Ik at h7 ⊢
    rw [r 6 (fun k => rfl), r 0 (fun k => rfl), r 41 (fun k => rfl), r 23 (fun k => rfl), r 40 (fun k => rfl)]; exact h7
  · unfold pq_Is at h9 ⊢
    rw [r 24 (fun k => rfl), r 25 (fun k => rfl), r 26 (fun k => rfl), r 27 (fun k => rfl), r 42 (fun k => rfl), r 43 (fun k => rfl), r 44 (fun k => rfl), e.1 31 24 rfl]; exact h9
  · rw [e.2]; exact h10
theorem pq_I_tS {n m B : Nat} {h h' : zw_Hp} (hI : pq_I n m B h) (e : pq_fr pq_tS h h') (hT : pq_Is h') : pq_I n m B h' := by
  have r := pq_fr_row e
  have cg : pq_cg 9 h' = pq_cg 9 h := by
    unfold pq_cg
    rw [r 9 (fun k => rfl), r 10 (fun k => rfl), r 11 (fun k => rfl), r 12 (fun k => rfl), r 13 (fun k => rfl)]
  obtain ⟨h1, h2, h3, h4, h5, h6, h7, h8, h9, h10⟩ := hI
  unfold pq_I
  refine ⟨?_, ?_, ?_, ?_, ?_, ?_, ?_, ?_, hT, ?_⟩
  · unfold pq_Pl at h1 ⊢; rw [r 6 (fun k => rfl), r 8 (fun k => rfl)]; exact h1
  · rw [r 6 (fun k => rfl)]; exact h2
  · unfold pq_Cf pq_C at h3 ⊢
    rw [r 6 (fun k => rfl), r 7 (fun k => rfl), r 8 (fun k => rfl), r 33 (fun k => rfl), r 34 (fun k => rfl), e.1 31 4 rfl, e.1 31 5 rfl, e.1 31 6 rfl, e.1 31 8 rfl]; exact h3
  · rw [r 9 (fun k => rfl)]; exact h4
  · rw [cg, r 6 (fun k => rfl), r 37 (fun k => rfl)]; exact h5
  · unfold pq_Ia at h6 ⊢
    rw [r 6 (fun k => rfl), r 19 (fun k => rfl), r 21 (fun k => rfl), r 39 (fun k => rfl), e.1 31 21 rfl]; exact h6
  · unfold pq_Ik at h7 ⊢
    rw [r 6 (fun k => rfl), r 0 (fun k => rfl), r 41 (fun k => rfl), r 23 (fun k => rfl), r 40 (fun k => rfl)]; exact h7
  · unfold pq_It at h8 ⊢
    rw [r 1 (fun k => rfl), r 2 (fun k => rfl), r 32 (fun k => rfl), e.1 31 2 rfl]; exact h8
  · rw [e.2]; exact h10
theorem pq_I_tA {n m B : Nat} {h h' : zw_Hp} (hI : pq_I n m B h) (e : pq_fr pq_tA h h') (h4' : h'.1 9 9 = 0) (h5' : pq_Sn n m B (h.1 6 7) (pq_cg 9 h') (h'.1 37)) (h6' : pq_Ia n m B h') : pq_I n m B h' := by
  have r := pq_fr_row e
  obtain ⟨h1, h2, h3, h4, h5, h6, h7, h8, h9, h10⟩ := hI
  unfold pq_I
  refine ⟨?_, ?_, ?_, h4', ?_, h6', ?_, ?_, ?_, ?_⟩
  · unfold pq_Pl at h1 ⊢; rw [r 6 (fun k => rfl), r 8 (fun k => rfl)]; exact h1
  · rw [r 6 (fun k => rfl)]; exact h2
  · unfold pq_Cf pq_C at h3 ⊢
    rw [r 6 (fun k => rfl), r 7 (fun k => rfl), r 8 (fun k => rfl), r 33 (fun k => rfl), r 34 (fun k => rfl), e.1 31 4 rfl, e.1 31 5 rfl, e.1 31 6 rfl, e.1 31 8 rfl]; exact h3
  · rw [r 6 (fun k => rfl)]; exact h5'
  · unfold pq_Ik at h7 ⊢
    rw [r 6 (fun k => rfl), r 0 (fun k => rfl), r 41 (fun k => rfl), r 23 (fun k => rfl), r 40 (fun k => rfl)]; exact h7
  · unfold pq_It at h8 ⊢
    rw [r 1 (fun k => rfl), r 2 (fun k => rfl), r 32 (fun k => rfl), e.1 31 2 rfl]; exact h8
  · unfold pq_Is at h9 ⊢
    rw [r 24 (fun k => rfl), r 25 (fun k => rfl), r 26 (fun k => rfl), r 27 (fun k => rfl), r 42 (fun k => rfl), r 43 (fun k => rfl), r 44 (fun k => rfl), e.1 31 24 rfl]; exact h9
  · rw [e.2]; exact h10
theorem pq_I_tK {n m B : Nat} {h h' : zw_Hp} (hI : pq_I n m B h) (e : pq_fr pq_tK h h') (h7' : pq_Ik n m B h') : pq_I n m B h' := by
  have r := pq_fr_row e
  have cg : pq_cg 9 h' = pq_cg 9 h := by
    unfold pq_cg
    rw [r 9 (fun k => rfl), r 10 (fun k => rfl), r 11 (fun k => rfl), r 12 (fun k => rfl), r 13 (fun k => rfl)]
  obtain ⟨h1, h2, h3, h4, h5, h6, h7, h8, h9, h10⟩ := hI
  unfold pq_I
  refine ⟨?_, ?_, ?_, ?_, ?_, ?_, h7', ?_, ?_, ?_⟩
  · unfold pq_Pl at h1 ⊢; rw [r 6 (fun k => rfl), r 8 (fun k => rfl)]; exact h1
  · rw [r 6 (fun k => rfl)]; exact h2
  · unfold pq_Cf pq_C at h3 ⊢
    rw [r 6 (fun k => rfl), r 7 (fun k => rfl), r 8 (fun k => rfl), r 33 (fun k => rfl), r 34 (fun k => rfl), e.1 31 4 rfl, e.1 31 5 rfl, e.1 31 6 rfl, e.1 31 8 rfl]; exact h3
  · rw [r 9 (fun k => rfl)]; exact h4
  · rw [cg, r 6 (fun k => rfl), r 37 (fun k => rfl)]; exact h5
  · unfold pq_Ia at h6 ⊢
    rw [r 6 (fun k => rfl), r 19 (fun k => rfl), r 21 (fun k => rfl), r 39 (fun k => rfl), e.1 31 21 rfl]; exact h6
  · unfold pq_It at h8 ⊢
    rw [r 1 (fun k => rfl), r 2 (fun k => rfl), r 32 (fun k => rfl), e.1 31 2 rfl]; exact h8
  · unfold pq_Is at h9 ⊢
    rw [r 24 (fun k => rfl), r 25 (fun k => rfl), r 26 (fun k => rfl), r 27 (fun k => rfl), r 42 (fun k => rfl), r 43 (fun k => rfl), r 44 (fun k => rfl), e.1 31 24 rfl]; exact h9
  · rw [e.2]; exact h10
theorem pq_opId {n m B : Nat} {h : zw_Hp} (hI : pq_I n m B h) {C M : zw_Hp → Option (Int32 × zw_Hp)} {r : Int32} (hC : C h = some (r, h)) (hM : M h = some (r, zw_up h 31 0 0)) : pq_op B C M h :=
  ⟨r, h, _, n, m, hC, hM, pq_I_le (by omega) (pq_I_m0 hI)⟩
/-! write, wipe -/
theorem pq_write {n m B : Nat} {h : zw_Hp} (hI : pq_I n m B h) (x1 : Int32) : pq_op B (M_X8_write x1) (M_X9_write x1) h := by
  obtain ⟨x, x36, t1, t2, t3⟩ := hI.2.2.2.2.2.2.2.1
  have ei : ∀ H, M_X9_in x1.toInt64 0 255 H = some (if 0 ≤ x1 ∧ x1 ≤ 255 then 1 else 0) := fun H => pq_in x1 0 255 H
  rcases pq_rng x1 (a := 0) (b := 255) (by decide) (by decide) with ⟨a1, a2⟩ | ⟨j, a1, a2, a3, a4⟩
  · have a1' : ¬ (0 ≤ x1 ∧ x1 ≤ 255) := a1
    have a2' : x1 < 0 ∨ 255 < x1 := a2
    refine pq_opId (r := -2) hI ?_ ?_
    · unfold M_X8_write
      by_cases q : x1 < 0
      · rw [if_pos q]
      · rw [if_neg q, if_neg (Int32.not_le.mpr (a2'.resolve_left q))]
    · unfold M_X9_write
      simp only [zw_nm, ei, Option.bind_some]
      rw [if_neg a1', if_pos rfl]
  · have a4' : 0 ≤ x1 ∧ x1 ≤ 255 := a4
    have q1 : ¬ x1 < 0 := Int32.not_lt.mpr a4'.1
    by_cases x6 : x = 36
    · subst x6
      refine pq_opId (r := -4) hI ?_ ?_
      · unfold M_X8_write M_X7_append
        rw [if_neg q1, if_pos a4'.2, t1, if_neg (show ¬ nI 36 < 0 by decide), if_neg (show ¬ nI 36 < 36 by decide)]
        rfl
      · unfold M_X9_write
        simp only [zw_nm, ei, Option.bind_some]
        rw [if_pos a4', if_neg pq_10, if_pos]
        rw [pq_up_at, if_neg (by decide), t2]
        rfl
    · have hC : M_X8_write x1 h = some (nI (x + 1), zw_up (zw_up h 2 x x1) 1 1 (nI (x + 1))) := by
        unfold M_X8_write M_X7_append
        rw [if_neg q1, if_pos a4'.2, t1, if_neg (nI_pos (by omega)), if_pos (show nI x < 36 from nI_lt (a := x) (b := 36) (by omega) (by decide)), if_pos (pq_ok_nI (by omega) (by decide)), nI_clamp (by omega)]
        simp only [zw_nm, Option.bind_some]
        rw [if_neg pq_10, pq_up_off h (show (1 : Nat) ≠ 2 by decide), t1, nI_1, pq_up_at, if_pos ⟨rfl, rfl⟩]
      have s1 : (zw_up (zw_up h 2 x x1) 1 1 (nI (x + 1))).1 31 2 = nI x := by
        rw [pq_up_off _ (by decide), pq_up_off _ (by decide)]; exact t2
      have hM : M_X9_write x1 (zw_up (zw_up h 2 x x1) 1 1 (nI (x + 1))) = some (nI (x + 1), zw_up (zw_up (zw_up (zw_up (zw_up h 2 x x1) 1 1 (nI (x + 1))) 31 0 0) 32 x x1) 31 2 (nI (x + 1))) := by
        unfold M_X9_write
        simp only [zw_nm, ei, Option.bind_some]
        generalize zw_up (zw_up h 2 x x1) 1 1 (nI (x + 1)) = H at s1 ⊢
        have s2 : (zw_up H 31 0 0).1 31 2 = nI x := by rw [pq_up_at, if_neg (by decide)]; exact s1
        rw [if_pos a4', if_neg pq_10, s2, if_neg (show ¬ nI x = 36 from fun q => x6 ((nI_eq (a := x) (b := 36) (by omega) (by decide)).mp q)), if_pos (pq_ok_nI (by omega) (by decide)), nI_clamp (by omega), pq_up_off _ (show (31 : Nat) ≠ 32 by decide), s2, nI_1, pq_up_at, if_pos ⟨rfl, rfl⟩]
      refine ⟨_, _, _, n, m, hC, hM, pq_I_le (by omega) (pq_I_tT hI ?_ ?_)⟩
      · exact pq_fr_up (pq_fr_up (pq_fr_up (pq_fr_up (pq_fr_up (pq_fr_rf _ h) _ rfl) _ rfl) _ rfl) _ rfl) _ rfl
      · refine ⟨x + 1, by omega, ?_, ?_, fun k hk => ?_⟩
        · rw [pq_up_off _ (by decide), pq_up_off _ (by decide), pq_up_off _ (by decide), pq_up_at, if_pos ⟨rfl, rfl⟩]
        · rw [pq_up_at, if_pos ⟨rfl, rfl⟩]
        · by_cases kx : k = x
          · subst kx
            simp only [pq_up_at]
            simp
            exact ⟨j, a2, a3⟩
          · simp only [pq_up_at]
            simp [kx]
            exact t3 k (by omega)
theorem pq_wipe {n m B : Nat} {h : zw_Hp} (hI : pq_I n m B h) : pq_op B M_X8_wipe M_X9_wipe h := by
  obtain ⟨x, x36, t1, t2, t3⟩ := hI.2.2.2.2.2.2.2.1
  have hM : M_X9_wipe (zw_up h 1 1 0) = some (nI x, zw_up (zw_up (zw_up h 1 1 0) 31 0 0) 31 2 0) := by
    unfold M_X9_wipe
    simp only [zw_nm]
    rw [pq_up_at, if_neg (by decide), pq_up_off _ (by decide), t2]
  refine ⟨nI x, _, _, n, m, ?_, hM, pq_I_le (by omega) (pq_I_tT hI ?_ ?_)⟩
  · unfold M_X8_wipe
    simp only [zw_nm]
    rw [t1]
  · exact pq_fr_up (pq_fr_up (pq_fr_up (pq_fr_rf _ h) _ rfl) _ rfl) _ rfl
  · refine ⟨0, by omega, ?_, ?_, fun k hk => by omega⟩
    · rw [pq_up_off _ (by decide), pq_up_off _ (by decide), pq_up_at, if_pos ⟨rfl, rfl⟩]; rfl
    · rw [pq_up_at, if_pos ⟨rfl, rfl⟩]; rfl
theorem pq_unsee {n m B : Nat} {h : zw_Hp} (hI : pq_I n m B h) : pq_op B M_X8_unsee M_X9_unsee h := by
  obtain ⟨x, x36, t1, t2, t3⟩ := hI.2.2.2.2.2.2.2.2.1
  have hM : M_X9_unsee (zw_up h 24 3 0) = some (nI x, zw_up (zw_up (zw_up h 24 3 0) 31 0 0) 31 24 0) := by
    unfold M_X9_unsee
    simp only [zw_nm]
    rw [pq_up_at, if_neg (by decide), pq_up_off _ (by decide), t2]
  refine ⟨nI x, _, _, n, m, ?_, hM, pq_I_le (by omega) (pq_I_tS hI ?_ ?_)⟩
  · unfold M_X8_unsee
    simp only [zw_nm]
    rw [t1]
  · exact pq_fr_up (pq_fr_up (pq_fr_up (pq_fr_rf _ h) _ rfl) _ rfl) _ rfl
  · refine ⟨0, by omega, ?_, ?_, fun k hk => by omega⟩
    · rw [pq_up_off _ (by decide), pq_up_off _ (by decide), pq_up_at, if_pos ⟨rfl, rfl⟩]; rfl
    · rw [pq_up_at, if_pos ⟨rfl, rfl⟩]; rfl
