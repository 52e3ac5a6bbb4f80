/-! see -/
theorem pq_see {n m B : Nat} {h : zw_Hp} (hI : pq_I n m B h) (x1 x2 x3 : Int32) : pq_op B (M_X8_see x1 x2 x3) (M_X9_see x1 x2 x3) h := by
  obtain ⟨y, y6, t1, t2, t3⟩ := hI.2.2.2.2.2.2.2.2.1
  have i1 : ∀ H, M_X9_in x1.toInt64 0 9 H = some (if 0 ≤ x1 ∧ x1 ≤ 9 then 1 else 0) := fun H => pq_in x1 0 9 H
  have i2 : ∀ H, M_X9_in x2.toInt64 0 99 H = some (if 0 ≤ x2 ∧ x2 ≤ 99 then 1 else 0) := fun H => pq_in x2 0 99 H
  have i3 : ∀ H, M_X9_in x3.toInt64 0 1 H = some (if 0 ≤ x3 ∧ x3 ≤ 1 then 1 else 0) := fun H => pq_in x3 0 1 H
  rcases pq_rng x1 (a := 0) (b := 9) (by decide) (by decide) with ⟨a1, a2⟩ | ⟨j, a1, a2, a3, a4⟩
  · have a1' : ¬ (0 ≤ x1 ∧ x1 ≤ 9) := a1
    have a2' : x1 < 0 ∨ 9 < x1 := a2
    refine pq_opId (r := -2) hI ?_ ?_
    · unfold M_X8_see
      by_cases q : x1 < 0
      · rw [if_pos q]
      · rw [if_neg q, if_pos (a2'.resolve_left q)]
    · unfold M_X9_see
      simp only [zw_nm, i1, Option.bind_some]
      rw [if_neg a1', if_pos rfl]
  · have a4' : 0 ≤ x1 ∧ x1 ≤ 9 := a4
    have p1 : ¬ x1 < 0 := Int32.not_lt.mpr a4'.1
    have p2 : ¬ 9 < x1 := Int32.not_lt.mpr a4'.2
    rcases pq_rng x2 (a := 0) (b := 99) (by decide) (by decide) with ⟨b1, b2⟩ | ⟨l, b1, b2, b3, b4⟩
    · have b1' : ¬ (0 ≤ x2 ∧ x2 ≤ 99) := b1
      have b2' : x2 < 0 ∨ 99 < x2 := b2
      refine pq_opId (r := -2) hI ?_ ?_
      · unfold M_X8_see
        rw [if_neg p1, if_neg p2]
        by_cases q : x2 < 0
        · rw [if_pos q]
        · rw [if_neg q, if_pos (b2'.resolve_left q)]
      · unfold M_X9_see
        simp only [zw_nm, i1, i2, Option.bind_some]
        rw [if_pos a4', if_neg pq_10, if_neg b1', if_pos rfl]
    · have b4' : 0 ≤ x2 ∧ x2 ≤ 99 := b4
      have p3 : ¬ x2 < 0 := Int32.not_lt.mpr b4'.1
      have p4 : ¬ 99 < x2 := Int32.not_lt.mpr b4'.2
      rcases pq_rng x3 (a := 0) (b := 1) (by decide) (by decide) with ⟨c1, c2⟩ | ⟨r, c1, c2, c3, c4⟩
      · have c1' : ¬ (0 ≤ x3 ∧ x3 ≤ 1) := c1
        refine pq_opId (r := -2) hI ?_ ?_
        · unfold M_X8_see
          rw [if_neg p1, if_neg p2, if_neg p3, if_neg p4, pq_01]
          simp only [Option.bind_some]
          rw [if_neg c1', if_pos rfl]
        · unfold M_X9_see
          simp only [zw_nm, i1, i2, i3, Option.bind_some]
          rw [if_pos a4', if_neg pq_10, if_pos b4', if_neg pq_10, if_neg c1', if_pos rfl]
      · have c4' : 0 ≤ x3 ∧ x3 ≤ 1 := c4
        by_cases y0 : y = 6
        · subst y0
          refine pq_opId (r := -4) hI ?_ ?_
          · unfold M_X8_see M_X6_add
            rw [if_neg p1, if_neg p2, if_neg p3, if_neg p4, pq_01]
            simp only [Option.bind_some]
            rw [if_pos c4', if_neg pq_10, t1, if_neg (show ¬ nI 6 < 0 by decide), if_neg (show ¬ nI 6 < 6 by decide)]
            rfl
          · unfold M_X9_see
            simp only [zw_nm, i1, i2, i3, Option.bind_some]
            rw [if_pos a4', if_neg pq_10, if_pos b4', if_neg pq_10, if_pos c4', if_neg pq_10, if_pos]
            rw [pq_up_at, if_neg (by decide), t2]
            rfl
        · have o : zw_ok (nI y) 6 = true := pq_ok_nI (by omega) (by decide)
          have hC : M_X8_see x1 x2 x3 h = some (nI (y + 1), zw_up (zw_up (zw_up (zw_up h 25 y x1) 26 y x2) 27 y x3) 24 3 (nI (y + 1))) := by
            unfold M_X8_see M_X6_add
            rw [if_neg p1, if_neg p2, if_neg p3, if_neg p4, pq_01]
            simp only [Option.bind_some, zw_nm]
            rw [if_pos c4', if_neg pq_10]
            have s1 : ∀ v, (zw_up h 25 (nI y).toNatClampNeg v).1 24 3 = nI y := fun v => by rw [pq_up_off _ (by decide), t1]
            rw [t1, if_neg (nI_pos (by omega)), if_pos (show nI y < 6 from nI_lt (a := y) (b := 6) (by omega) (by decide)), if_pos o, s1, if_pos o, nI_clamp (show y < 2 ^ 31 by omega)]
            have s2 : (zw_up (zw_up h 25 y x1) 26 y x2).1 24 3 = nI y := by rw [pq_up_off _ (by decide), pq_up_off _ (by decide), t1]
            have s3 : (zw_up (zw_up (zw_up h 25 y x1) 26 y x2) 27 y x3).1 24 3 = nI y := by rw [pq_up_off _ (by decide), s2]
            rw [s2, if_pos o, nI_clamp (show y < 2 ^ 31 by omega), s3, nI_1]
            simp only [Option.bind_some]
            rw [if_neg pq_10, pq_up_at, if_pos ⟨rfl, rfl⟩]
          have s1 : (zw_up (zw_up (zw_up (zw_up h 25 y x1) 26 y x2) 27 y x3) 24 3 (nI (y + 1))).1 31 24 = nI y := by
            rw [pq_up_off _ (by decide), pq_up_off _ (by decide), pq_up_off _ (by decide), pq_up_off _ (by decide)]; exact t2
          have hM : M_X9_see x1 x2 x3 (zw_up (zw_up (zw_up (zw_up h 25 y x1) 26 y x2) 27 y x3) 24 3 (nI (y + 1))) = some (nI (y + 1), zw_up (zw_up (zw_up (zw_up (zw_up (zw_up (zw_up (zw_up (zw_up h 25 y x1) 26 y x2) 27 y x3) 24 3 (nI (y + 1))) 31 0 0) 42 y x1) 43 y x2) 44 y x3) 31 24 (nI (y + 1))) := by
            unfold M_X9_see
            simp only [zw_nm, i1, i2, i3, Option.bind_some]
            generalize zw_up (zw_up (zw_up (zw_up h 25 y x1) 26 y x2) 27 y x3) 24 3 (nI (y + 1)) = H at s1 ⊢
            have s2 : (zw_up H 31 0 0).1 31 24 = nI y := by rw [pq_up_at, if_neg (by decide)]; exact s1
            generalize zw_up H 31 0 0 = H at s2 ⊢
            rw [if_pos a4', if_neg pq_10, if_pos b4', if_neg pq_10, if_pos c4', if_neg pq_10, s2, if_neg (show ¬ nI y = 6 from fun q => y0 ((nI_eq (a := y) (b := 6) (by omega) (by decide)).mp q)), if_pos o, nI_clamp (show y < 2 ^ 31 by omega)]
            have s3 : (zw_up H 42 y x1).1 31 24 = nI y := by rw [pq_up_off _ (by decide), s2]
            have s4 : (zw_up (zw_up H 42 y x1) 43 y x2).1 31 24 = nI y := by rw [pq_up_off _ (by decide), s3]
            have s5 : (zw_up (zw_up (zw_up H 42 y x1) 43 y x2) 44 y x3).1 31 24 = nI y := by rw [pq_up_off _ (by decide), s4]
            rw [s3, if_pos o, nI_clamp (show y < 2 ^ 31 by omega), s4, if_pos o, nI_clamp (show y < 2 ^ 31 by omega), s5, nI_1, pq_up_at, if_pos ⟨rfl, rfl⟩]
          refine ⟨_, _, _, n, m, hC, hM, pq_I_le (by omega) (pq_I_tS hI ?_ ?_)⟩
          · exact pq_fr_up (pq_fr_up (pq_fr_up (pq_fr_up (pq_fr_up (pq_fr_up (pq_fr_up (pq_fr_up (pq_fr_up (pq_fr_rf _ h) _ rfl) _ rfl) _ rfl) _ rfl) _ rfl) _ rfl) _ rfl) _ rfl) _ rfl
          · refine ⟨y + 1, by omega, ?_, ?_, fun k hk => ?_⟩
            · simp [pq_up_at]
            · simp [pq_up_at]
            · by_cases kx : k = y
              · subst kx
                simp only [pq_up_at]
                simp
                refine ⟨⟨j, a2, a3⟩, ⟨l, b2, b3⟩, ?_⟩
                rcases (show r = 0 ∨ r = 1 by omega) with rfl | rfl
                · exact Or.inl c3
                · exact Or.inr c3
              · simp only [pq_up_at]
                simp [kx]
                exact t3 k (by omega)
/-! fires -/
def pq_opP (B : Nat) (C : zw_Hp → Option Int32) (M : zw_Hp → Option (Int32 × zw_Hp)) (h : zw_Hp) : Prop := ∃ (r : Int32) (h2 : zw_Hp) (n' m' : Nat), C h = some r ∧ M h = some (r, h2) ∧ pq_I n' m' (B + 1) h2
def pq_fv (h : zw_Hp) (k i : Nat) : Int32 := if nI (k / 10) = 0 then 0 else if nI (k / 10) + nI (k % 10) * h.1 25 i < 99 then nI (k / 10) + nI (k % 10) * h.1 25 i else 99
def pq_f1 (h : zw_Hp) (k i : Nat) : Bool := (decide (¬ pq_fv h k i < h.1 26 i)) == decide (h.1 27 i = 1)
def pq_ft (h : zw_Hp) (k : Nat) : Nat → Nat → Bool
  | 0, _ => true
  | d + 1, i => pq_f1 h k i && pq_ft h k d (i + 1)
theorem pq_ft_s (h : zw_Hp) (k d i : Nat) : pq_ft h k (d + 1) i = (pq_f1 h k i && pq_ft h k d (i + 1)) := rfl
theorem pq_fitL {h : zw_Hp} {y : Nat} (hy : y ≤ 6) (t1 : h.1 24 3 = nI y) (k : Nat) : ∀ (d N i : Nat), i + d = y → d < N →
    zw_it (fun (k2 : (Int32 × Int32 × Int32) → Option (Int32)) (w : Int32 × Int32 × Int32) => B_X6_fits_2 h k2 (w.1) (w.2.1) (w.2.2)) N (nI (k / 10), nI (k % 10), nI i) = some (if pq_ft h k d i = true then 1 else 0) := by
  intro d
  induction d with
  | zero =>
    intro N i hi hN
    obtain ⟨N', rfl⟩ : ∃ N', N = N' + 1 := ⟨N - 1, by omega⟩
    rw [pq_it_s]
    simp only []
    rw [B_X6_fits_2, t1, show i = y by omega, if_pos (Int32.le_refl _)]
    rfl
  | succ d ih =>
    intro N i hi hN
    obtain ⟨N', rfl⟩ : ∃ N', N = N' + 1 := ⟨N - 1, by omega⟩
    have ih' := ih N' (i + 1) (by omega) (by omega)
    have o : zw_ok (nI i) 6 = true := pq_ok_nI (by omega) (by decide)
    rw [pq_it_s]
    simp only []
    rw [B_X6_fits_2, t1, if_neg (nI_ge (by omega) (by omega)), if_neg (show ¬ (6 : Int32) ≤ nI i from nI_ge (a := i) (b := 6) (by omega) (by decide)), if_pos o, nI_clamp (show i < 2 ^ 31 by omega)]
    generalize (zw_it (fun (k2 : (Int32 × Int32 × Int32) → Option (Int32)) (w : Int32 × Int32 × Int32) => B_X6_fits_2 h k2 (w.1) (w.2.1) (w.2.2)) N') = Q at ih' ⊢
    have key : B_X6_fits_39 h Q (nI (k / 10)) (nI (k % 10)) (nI i) (pq_fv h k i) = some (if pq_ft h k (d + 1) i = true then 1 else 0) := by
      unfold B_X6_fits_39 B_X6_fits_57 B_X6_fits_72
      simp only [o, if_true, zw_nm, nI_clamp (show i < 2 ^ 31 by omega), nI_1]
      rw [ih', pq_ft_s]
      unfold pq_f1
      by_cases q1 : pq_fv h k i < h.1 26 i
      · by_cases q2 : h.1 27 i = 1
        · simp [q1, q2]
        · simp [q1, q2]
      · by_cases q2 : h.1 27 i = 1
        · simp [q1, q2]
        · simp [q1, q2]
    unfold pq_fv at key
    by_cases q0 : nI (k / 10) = 0
    · rw [if_pos q0]
      rw [if_pos q0] at key
      exact key
    · rw [if_neg q0]
      rw [if_neg q0] at key
      exact key
theorem pq_fits {h : zw_Hp} {y : Nat} (hy : y ≤ 6) (t1 : h.1 24 3 = nI y) (k : Nat) : M_X6_fits (nI (k / 10)) (nI (k % 10)) h = some (if pq_ft h k y 0 = true then 1 else 0) := by
  unfold M_X6_fits L_X6_fits_2
  exact pq_fitL hy t1 k y 600 0 (by omega) (by omega)
def pq_cn (P : Nat → Bool) : Nat → Nat → Int32 → Int32
  | 0, _, s => s
  | d + 1, k, s => pq_cn P d (k + 1) (s + if P k = true then 1 else 0)
def pq_fi (P : Nat → Bool) : Nat → Nat → Int32
  | 0, _ => -9
  | d + 1, k => if P k = true then nI k else pq_fi P d (k + 1)
theorem pq_d10 (k : Nat) (hk : k < 100) : nI k / 10 = nI (k / 10) ∧ nI k - nI k / 10 * 10 = nI (k % 10) := ⟨pk_div (a := k) (d := 10) (by omega) (by decide) (by decide), pk_rem (a := k) (d := 10) (by omega) (by decide) (by decide)⟩
theorem pq_cntL {h : zw_Hp} {y : Nat} (hy : y ≤ 6) (t1 : h.1 24 3 = nI y) : ∀ (d N k : Nat) (s : Int32), k + d = 100 → d < N →
    zw_it (fun (k4 : (Int32 × Int32) → Option (Int32)) (w : Int32 × Int32) => B_X6_countFires_4 h k4 (w.1) (w.2)) N (s, nI k) = some (pq_cn (fun k => pq_ft h k y 0) d k s) := by
  intro d
  induction d with
  | zero =>
    intro N k s hi hN
    obtain ⟨N', rfl⟩ : ∃ N', N = N' + 1 := ⟨N - 1, by omega⟩
    rw [pq_it_s]
    simp only []
    rw [B_X6_countFires_4, show k = 100 by omega, if_pos (by decide)]
    rfl
  | succ d ih =>
    intro N k s hi hN
    obtain ⟨N', rfl⟩ : ∃ N', N = N' + 1 := ⟨N - 1, by omega⟩
    have ih' := fun s => ih N' (k + 1) s (by omega) (by omega)
    rw [pq_it_s]
    simp only []
    rw [B_X6_countFires_4, if_neg (show ¬ (100 : Int32) ≤ nI k from nI_ge (a := k) (b := 100) (by omega) (by decide)), (pq_d10 k (by omega)).2, (pq_d10 k (by omega)).1, pq_fits hy t1]
    simp only [Option.bind_some, B_X6_countFires_31, zw_nm, nI_1]
    rw [ih', ih']
    simp only [pq_cn]
    by_cases q : pq_ft h k y 0 = true
    · rw [if_pos q, if_neg pq_10]
    · rw [if_neg q, if_pos rfl]
theorem pq_fstL {h : zw_Hp} {y : Nat} (hy : y ≤ 6) (t1 : h.1 24 3 = nI y) : ∀ (d N k : Nat), k + d = 100 → d < N →
    zw_it (fun (k2 : Int32 → Option (Int32)) (w : Int32) => B_X6_firstFire_2 h k2 (w)) N (nI k) = some (pq_fi (fun k => pq_ft h k y 0) d k) := by
  intro d
  induction d with
  | zero =>
    intro N k hi hN
    obtain ⟨N', rfl⟩ : ∃ N', N = N' + 1 := ⟨N - 1, by omega⟩
    rw [pq_it_s, B_X6_firstFire_2, show k = 100 by omega, if_pos (by decide)]
    rfl
  | succ d ih =>
    intro N k hi hN
    obtain ⟨N', rfl⟩ : ∃ N', N = N' + 1 := ⟨N - 1, by omega⟩
    have ih' := ih N' (k + 1) (by omega) (by omega)
    rw [pq_it_s, B_X6_firstFire_2, if_neg (show ¬ (100 : Int32) ≤ nI k from nI_ge (a := k) (b := 100) (by omega) (by decide)), (pq_d10 k (by omega)).2, (pq_d10 k (by omega)).1, pq_fits hy t1]
    simp only [Option.bind_some, zw_nm, nI_1]
    rw [ih']
    simp only [pq_fi]
    by_cases q : pq_ft h k y 0 = true
    · rw [if_pos q, if_neg pq_10, if_pos q]
    · rw [if_neg q, if_pos rfl, if_neg q]
/-! the model's -/
def pq_mf (P : Nat → Bool) : Nat → Nat → Int32 → Int32 → Int32 × Int32
  | 0, _, s, f => (s, f)
  | d + 1, k, s, f => pq_mf P d (k + 1) (s + if P k = true then 1 else 0) (if P k = true ∧ s = 0 then nI k else f)
theorem pq_mf_1 (P : Nat → Bool) : ∀ (d k : Nat) (s f : Int32), (pq_mf P d k s f).1 = pq_cn P d k s := by
  intro d
  induction d with
  | zero => intro k s f; rfl
  | succ d ih => intro k s f; exact ih _ _ _
theorem pq_mf_2 (P : Nat → Bool) : ∀ (d k c : Nat) (f : Int32), c + d < 2 ^ 30 → (c ≠ 0 → (pq_mf P d k (nI c) f).2 = f) ∧ (c = 0 → f = -9 → (pq_mf P d k (nI c) f).2 = pq_fi P d k) := by
  intro d
  induction d with
  | zero => intro k c f hc; exact ⟨fun _ => rfl, fun _ e => e⟩
  | succ d ih =>
    intro k c f hc
    simp only [pq_mf, pq_fi]
    by_cases q : P k = true
    · rw [if_pos q, if_pos q, nI_1]
      refine ⟨fun c0 => ?_, fun c0 e => ?_⟩
      · rw [if_neg (fun z => nI_ne0 (by omega) (by omega) z.2)]
        exact (ih (k + 1) (c + 1) f (by omega)).1 (by omega)
      · subst c0
        rw [if_pos ⟨q, rfl⟩]
        exact (ih (k + 1) 1 (nI k) (by omega)).1 (by omega)
    · rw [if_neg q, if_neg q, if_neg (fun z => q z.1)]
      have e0 : nI c + 0 = nI c := nI_add c 0
      rw [e0]
      exact ih (k + 1) c f (by omega)
def pq_fs (st : Int32 × Int32) (h : zw_Hp) : zw_Hp := zw_up (zw_up h 31 32 st.2) 31 31 st.1
theorem pq_fs_off (st : Int32 × Int32) (h : zw_Hp) {i k : Nat} (hi : ¬ (i = 31 ∧ (k = 31 ∨ k = 32))) : (pq_fs st h).1 i k = h.1 i k := by
  unfold pq_fs
  rw [pq_up_at, if_neg (fun q => hi ⟨q.1, Or.inl q.2⟩), pq_up_at, if_neg (fun q => hi ⟨q.1, Or.inr q.2⟩)]
theorem pq_fs_at (st : Int32 × Int32) (h : zw_Hp) : (pq_fs st h).1 31 31 = st.1 ∧ (pq_fs st h).1 31 32 = st.2 := by
  unfold pq_fs
  simp [pq_up_at]
theorem pq_fs_fs (st st' : Int32 × Int32) (h : zw_Hp) : zw_up (zw_up (pq_fs st h) 31 32 st'.2) 31 31 st'.1 = pq_fs st' h := by
  refine pq_hext (fun a b => ?_) rfl
  unfold pq_fs
  simp only [pq_up_at]
  by_cases h1 : a = 31 ∧ b = 31
  · simp [h1]
  · by_cases h2 : a = 31 ∧ b = 32
    · simp [h2]
    · simp [h1, h2]
theorem pq_eq_fs (st : Int32 × Int32) (h : zw_Hp) : pq_eq h (pq_fs st h) := pq_eq_tr (pq_eq_up h _ (by decide)) (pq_eq_up _ _ (by decide))
theorem pq_mfire {h : zw_Hp} {y k i : Nat} (hy : y ≤ 6) (e : ∀ k, k < y → h.1 42 k = h.1 25 k) (hi : i < y) : M_X9_fireBy (nI (k / 10)) (nI (k % 10)) (h.1 42 i) h = some (pq_fv h k i) := by
  unfold M_X9_fireBy B_X9_fireBy_13 pq_fv
  rw [e i hi]
  by_cases q0 : nI (k / 10) = 0
  · rw [if_pos q0, if_pos q0]; rfl
  · rw [if_neg q0, if_neg q0, pq_min99]
    split <;> rfl
theorem pq_mfL {h : zw_Hp} {y : Nat} (hy : y ≤ 6) (t2 : h.1 31 24 = nI y) (t3 : ∀ k, k < y → h.1 42 k = h.1 25 k ∧ h.1 43 k = h.1 26 k ∧ h.1 44 k = h.1 27 k) (k31 : (Int32 × Int32 × zw_Hp) → Option (Int32 × zw_Hp)) (x1 : Int32) {k : Nat} (hk : k < 100) : ∀ (d N i : Nat) (b : Bool), i + d = y → d < N →
    zw_it (fun (k42 : (Int32 × Int32 × Int32 × Int32 × zw_Hp) → Option (Int32 × zw_Hp)) (w : Int32 × Int32 × Int32 × Int32 × zw_Hp) => B_X9_fires_42 k31 k42 (w.1) (w.2.1) (w.2.2.1) (w.2.2.2.1) (w.2.2.2.2)) N (x1, nI k, (if b = true then 1 else 0), nI i, h) = k31 (x1, nI (k + 1), zw_up (zw_up h 31 32 (if (b && pq_ft h k d i) = true ∧ h.1 31 31 = 0 then nI k else h.1 31 32)) 31 31 (h.1 31 31 + if (b && pq_ft h k d i) = true then 1 else 0)) := by
  intro d
  induction d with
  | zero =>
    intro N i b hi hN
    obtain ⟨N', rfl⟩ : ∃ N', N = N' + 1 := ⟨N - 1, by omega⟩
    rw [pq_it_s]
    simp only []
    have u31 : ∀ v, (zw_up h 31 32 v).1 31 31 = h.1 31 31 := fun v => by rw [pq_up_at, if_neg (by decide)]
    rw [B_X9_fires_42, t2, show i = y by omega, if_pos (Int32.le_refl _)]
    simp only [B_X9_fires_135, B_X9_fires_139, B_X9_fires_156, zw_nm, nI_1, u31, show pq_ft h k 0 y = true from rfl, Bool.and_true]
    cases b with
    | false => simp
    | true =>
      by_cases q : h.1 31 31 = 0
      · simp [q]
      · simp [q]
  | succ d ih =>
    intro N i b hi hN
    obtain ⟨N', rfl⟩ : ∃ N', N = N' + 1 := ⟨N - 1, by omega⟩
    have ih' := fun b => ih N' (i + 1) b (by omega) (by omega)
    obtain ⟨e1, e2, e3⟩ := t3 i (by omega)
    have o : zw_ok (nI i) 6 = true := pq_ok_nI (by omega) (by decide)
    rw [pq_it_s]
    simp only []
    generalize (zw_it (fun (k42 : (Int32 × Int32 × Int32 × Int32 × zw_Hp) → Option (Int32 × zw_Hp)) (w : Int32 × Int32 × Int32 × Int32 × zw_Hp) => B_X9_fires_42 k31 k42 (w.1) (w.2.1) (w.2.2.1) (w.2.2.2.1) (w.2.2.2.2)) N') = Q at ih' ⊢
    have iT := ih' true
    have iF := ih' false
    rw [if_pos rfl] at iT
    rw [if_neg (by decide)] at iF
    rw [B_X9_fires_42, t2, if_neg (nI_ge (by omega) (by omega)), pq_ft_s]
    cases b with
    | false =>
      rw [if_pos (show (if false = true then (1 : Int32) else 0) = 0 from rfl)]
      simp only [B_X9_fires_111, B_X9_fires_112, zw_nm, nI_1, Bool.false_and] at iF ⊢
      exact iF
    | true =>
      rw [if_neg (show ¬ (if true = true then (1 : Int32) else 0) = 0 from pq_10), if_pos o, nI_clamp (show i < 2 ^ 31 by omega), (pq_d10 k (by omega)).2, (pq_d10 k (by omega)).1, pq_mfire hy (fun k hk => (t3 k hk).1) (by omega)]
      simp only [Option.bind_some, B_X9_fires_88, B_X9_fires_104, B_X9_fires_111, B_X9_fires_112, zw_nm, nI_1, o, if_true, nI_clamp (show i < 2 ^ 31 by omega)]
      rw [e2, e3]
      simp only [Bool.true_and, Bool.false_and] at iT iF ⊢
      have ef : pq_f1 h k i = ((decide (¬ pq_fv h k i < h.1 26 i)) == decide (h.1 27 i = 1)) := rfl
      by_cases q1 : pq_fv h k i < h.1 26 i
      · by_cases q2 : h.1 27 i = 1
        · have e0 : pq_f1 h k i = false := by rw [ef]; simp [q1, q2]
          rw [if_pos q1, if_pos q2, if_neg (by decide), iF, e0, Bool.false_and]
        · have e0 : pq_f1 h k i = true := by rw [ef]; simp [q1, q2]
          rw [if_pos q1, if_neg q2, iT, e0, Bool.true_and]
      · by_cases q2 : h.1 27 i = 1
        · have e0 : pq_f1 h k i = true := by rw [ef]; simp [q1, q2]
          rw [if_neg q1, if_pos q2, iT, e0, Bool.true_and]
        · have e0 : pq_f1 h k i = false := by rw [ef]; simp [q1, q2]
          rw [if_neg q1, if_neg q2, if_neg (by decide), iF, e0, Bool.false_and]
theorem pq_mfO {h : zw_Hp} {y : Nat} (hy : y ≤ 6) (t2 : h.1 31 24 = nI y) (t3 : ∀ k, k < y → h.1 42 k = h.1 25 k ∧ h.1 43 k = h.1 26 k ∧ h.1 44 k = h.1 27 k) (x1 : Int32) : ∀ (d N k : Nat) (s f : Int32), k + d = 100 → d < N →
    zw_it (fun (k31 : (Int32 × Int32 × zw_Hp) → Option (Int32 × zw_Hp)) (w : Int32 × Int32 × zw_Hp) => B_X9_fires_31 k31 (w.1) (w.2.1) (w.2.2)) N (x1, nI k, pq_fs (s, f) h) = some (if x1 = 0 then (pq_mf (fun k => pq_ft h k y 0) d k s f).1 else (pq_mf (fun k => pq_ft h k y 0) d k s f).2, pq_fs (pq_mf (fun k => pq_ft h k y 0) d k s f) h) := by
  intro d
  induction d with
  | zero =>
    intro N k s f hi hN
    obtain ⟨N', rfl⟩ : ∃ N', N = N' + 1 := ⟨N - 1, by omega⟩
    rw [pq_it_s]
    simp only []
    rw [B_X9_fires_31, show k = 100 by omega, if_pos (by decide), (pq_fs_at (s, f) h).1, (pq_fs_at (s, f) h).2]
    by_cases q : x1 = 0
    · rw [if_pos q, if_pos q]; rfl
    · rw [if_neg q, if_neg q]; rfl
  | succ d ih =>
    intro N k s f hi hN
    obtain ⟨N', rfl⟩ : ∃ N', N = N' + 1 := ⟨N - 1, by omega⟩
    have ih' := fun s f => ih N' (k + 1) s f (by omega) (by omega)
    rw [pq_it_s]
    simp only []
    rw [B_X9_fires_31, if_neg (show ¬ (100 : Int32) ≤ nI k from nI_ge (a := k) (b := 100) (by omega) (by decide))]
    unfold L_X9_fires_42
    have r : ∀ i, i ≠ 31 → (pq_fs (s, f) h).1 i = h.1 i := fun i hi => funext fun k => pq_fs_off _ h (fun q => hi q.1)
    have t2' : (pq_fs (s, f) h).1 31 24 = nI y := by rw [pq_fs_off _ h (by decide)]; exact t2
    have t3' : ∀ k, k < y → (pq_fs (s, f) h).1 42 k = (pq_fs (s, f) h).1 25 k ∧ (pq_fs (s, f) h).1 43 k = (pq_fs (s, f) h).1 26 k ∧ (pq_fs (s, f) h).1 44 k = (pq_fs (s, f) h).1 27 k := fun k hk => by
      rw [r 42 (by decide), r 25 (by decide), r 43 (by decide), r 26 (by decide), r 44 (by decide), r 27 (by decide)]; exact t3 k hk
    have ft : ∀ d i, pq_ft (pq_fs (s, f) h) k d i = pq_ft h k d i := by
      intro d
      induction d with
      | zero => intro i; rfl
      | succ d ihd =>
        intro i
        rw [pq_ft_s, pq_ft_s, ihd]
        unfold pq_f1 pq_fv
        rw [r 25 (by decide), r 26 (by decide), r 27 (by decide)]
    have e := pq_mfL hy t2' t3' (zw_it (fun (k31 : (Int32 × Int32 × zw_Hp) → Option (Int32 × zw_Hp)) (w : Int32 × Int32 × zw_Hp) => B_X9_fires_31 k31 (w.1) (w.2.1) (w.2.2)) N') x1 (show k < 100 by omega) y 600 0 true (by omega) (by omega)
    rw [if_pos rfl] at e
    have e' : zw_it (fun (k42 : (Int32 × Int32 × Int32 × Int32 × zw_Hp) → Option (Int32 × zw_Hp)) (w : Int32 × Int32 × Int32 × Int32 × zw_Hp) => B_X9_fires_42 (zw_it (fun (k31 : (Int32 × Int32 × zw_Hp) → Option (Int32 × zw_Hp)) (w : Int32 × Int32 × zw_Hp) => B_X9_fires_31 k31 (w.1) (w.2.1) (w.2.2)) N') k42 (w.1) (w.2.1) (w.2.2.1) (w.2.2.2.1) (w.2.2.2.2)) 600 (x1, nI k, 1, 0, pq_fs (s, f) h) = _ := e
    rw [e', (pq_fs_at (s, f) h).1, (pq_fs_at (s, f) h).2, ft, Bool.true_and]
    have em := pq_fs_fs (s, f) (s + (if pq_ft h k y 0 = true then 1 else 0), if pq_ft h k y 0 = true ∧ s = 0 then nI k else f) h
    simp only at em
    rw [em]
    exact ih' _ _
def pq_firesV (h : zw_Hp) (y : Nat) (x1 : Int32) : Int32 := if 0 ≤ x1 ∧ x1 ≤ 1 then (if x1 = 0 then pq_cn (fun k => pq_ft h k y 0) 100 0 0 else pq_fi (fun k => pq_ft h k y 0) 100 0) else -2
theorem pq_fires {n m B : Nat} {h : zw_Hp} (hI : pq_I n m B h) (x1 : Int32) : pq_opP B (M_X8_fires x1) (M_X9_fires x1) h := by
  obtain ⟨y, y6, t1, t2, t3⟩ := hI.2.2.2.2.2.2.2.2.1
  refine ⟨pq_firesV h y x1, ?_⟩
  have hC : M_X8_fires x1 h = some (pq_firesV h y x1) := by
    unfold M_X8_fires pq_firesV
    rw [pq_01]
    simp only [Option.bind_some]
    by_cases q : 0 ≤ x1 ∧ x1 ≤ 1
    · rw [if_pos q, if_neg pq_10, if_pos q]
      unfold M_X6_countFires L_X6_countFires_4 M_X6_firstFire L_X6_firstFire_2
      have e1 : zw_it (fun (k4 : (Int32 × Int32) → Option (Int32)) (w : Int32 × Int32) => B_X6_countFires_4 h k4 (w.1) (w.2)) 600 (0, 0) = _ := pq_cntL y6 t1 100 600 0 0 (by omega) (by omega)
      have e2 : zw_it (fun (k2 : Int32 → Option (Int32)) (w : Int32) => B_X6_firstFire_2 h k2 (w)) 600 0 = _ := pq_fstL y6 t1 100 600 0 (by omega) (by omega)
      rw [e1, e2]
      by_cases x0 : x1 = 0
      · rw [if_pos x0, if_pos x0]; rfl
      · rw [if_neg x0, if_neg x0]; rfl
    · rw [if_neg q, if_pos rfl, if_neg q]
  have i1 : ∀ H, M_X9_in x1.toInt64 0 1 H = some (if 0 ≤ x1 ∧ x1 ≤ 1 then 1 else 0) := fun H => pq_in x1 0 1 H
  have e0 : pq_eq h (zw_up h 31 0 0) := pq_eq_up h 0 (by decide)
  have hI2 := pq_I_m0 hI
  have hM : ∃ h2, M_X9_fires x1 h = some (pq_firesV h y x1, h2) ∧ pq_eq h h2 := by
    unfold M_X9_fires pq_firesV
    simp only [zw_nm, i1, Option.bind_some]
    by_cases q : 0 ≤ x1 ∧ x1 ≤ 1
    · rw [if_pos q, if_neg pq_10, if_pos q]
      have t2' : (zw_up h 31 0 0).1 31 24 = nI y := by rw [pq_up_at, if_neg (by decide)]; exact t2
      have r : ∀ i, i ≠ 31 → (zw_up h 31 0 0).1 i = h.1 i := fun i hi => pq_up_off h hi 0 0
      have t3' : ∀ k, k < y → (zw_up h 31 0 0).1 42 k = (zw_up h 31 0 0).1 25 k ∧ (zw_up h 31 0 0).1 43 k = (zw_up h 31 0 0).1 26 k ∧ (zw_up h 31 0 0).1 44 k = (zw_up h 31 0 0).1 27 k := fun k hk => by
        rw [r 42 (by decide), r 25 (by decide), r 43 (by decide), r 26 (by decide), r 44 (by decide), r 27 (by decide)]; exact ⟨(t3 k hk).1, (t3 k hk).2.1, (t3 k hk).2.2.1⟩
      have ft : ∀ k d i, pq_ft (zw_up h 31 0 0) k d i = pq_ft h k d i := by
        intro k d
        induction d with
        | zero => intro i; rfl
        | succ d ihd =>
          intro i
          rw [pq_ft_s, pq_ft_s, ihd]
          unfold pq_f1 pq_fv
          rw [r 25 (by decide), r 26 (by decide), r 27 (by decide)]
      have fte : (fun k => pq_ft (zw_up h 31 0 0) k y 0) = fun k => pq_ft h k y 0 := funext fun k => ft k y 0
      have e := pq_mfO y6 t2' t3' x1 100 600 0 0 (-9) (by omega) (by omega)
      have em2 : (pq_mf (fun k => pq_ft h k y 0) 100 0 0 (-9)).2 = pq_fi (fun k => pq_ft h k y 0) 100 0 := (pq_mf_2 (fun k => pq_ft h k y 0) 100 0 0 (-9) (by omega)).2 rfl rfl
      rw [fte, pq_mf_1, em2] at e
      unfold L_X9_fires_31
      have es : zw_up (zw_up (zw_up h 31 0 0) 31 31 0) 31 32 (-9) = pq_fs (0, -9) (zw_up h 31 0 0) := by
        refine pq_hext (fun a b => ?_) rfl
        unfold pq_fs
        simp only [pq_up_at]
        by_cases h1 : a = 31 ∧ b = 31
        · simp [h1]
        · by_cases h2 : a = 31 ∧ b = 32
          · simp [h2]
          · simp [h1, h2]
      rw [es]
      have e' : zw_it (fun (k31 : (Int32 × Int32 × zw_Hp) → Option (Int32 × zw_Hp)) (w : Int32 × Int32 × zw_Hp) => B_X9_fires_31 k31 (w.1) (w.2.1) (w.2.2)) 600 (x1, 0, pq_fs (0, -9) (zw_up h 31 0 0)) = _ := e
      rw [e']
      exact ⟨_, rfl, pq_eq_tr e0 (pq_eq_fs _ _)⟩
    · rw [if_neg q, if_pos rfl, if_neg q]
      exact ⟨_, rfl, e0⟩
  obtain ⟨h2, e2, q2⟩ := hM
  exact ⟨h2, n, m, hC, e2, pq_I_le (by omega) (pq_I_eq hI q2)⟩
