/-! the head of a night, of both -/
abbrev pz_fg (x p : Nat) (X : pq_Pg) : Prop := p < x ∧ 0 ≤ X p - 48 ∧ X p - 48 ≤ 9
theorem pz_fg_n {x p : Nat} {X : pq_Pg} (h : pz_fg x p X) : ∃ j, j ≤ 9 ∧ X p - 48 = nI j := by
  obtain ⟨i, i0, i1, ei, -⟩ := (pq_rng (X p - 48) (a := 0) (b := 9) (by decide) (by decide)).resolve_left (fun z => z.1 h.2)
  exact ⟨i, i1, ei⟩
def pz_hM (h h' : zw_Hp) : Prop := pq_eq h h' ∧ h'.1 31 13 = h.1 31 13 ∧ h'.1 31 15 = h.1 31 15 ∧ h'.1 31 17 = h.1 31 17 ∧ h'.1 35 = h.1 35 ∧ h'.1 36 = h.1 36
theorem pz_hM_rf (h : zw_Hp) : pz_hM h h := ⟨pq_eq_rf h, rfl, rfl, rfl, rfl, rfl⟩
theorem pz_hM_up {h h' : zw_Hp} (a : pz_hM h h') {k : Nat} (v : Int32) (hr : pq_rl 31 k = false) (hk : k ≠ 13 ∧ k ≠ 15 ∧ k ≠ 17) : pz_hM h (zw_up h' 31 k v) := by
  refine ⟨pq_eq_tr a.1 (pq_eq_up h' v hr), ?_, ?_, ?_, ?_, ?_⟩
  · rw [pq_up_at, if_neg (by omega)]; exact a.2.1
  · rw [pq_up_at, if_neg (by omega)]; exact a.2.2.1
  · rw [pq_up_at, if_neg (by omega)]; exact a.2.2.2.1
  · rw [pq_up_off _ (by decide)]; exact a.2.2.2.2.1
  · rw [pq_up_off _ (by decide)]; exact a.2.2.2.2.2
theorem pz_71 (a b s0 : Int32) (H : zw_Hp) : B_X9_readHead_71 a b s0 H = some (if s0 = -9 then 0 else 1, zw_up (zw_up H 31 12 s0) 31 10 (10 * a + b)) := by
  unfold B_X9_readHead_71
  simp only [zw_nm]
  rw [show (zw_up (zw_up H 31 12 s0) 31 10 (10 * a + b)).1 31 12 = s0 by rw [pq_up_at, if_neg (by decide), pq_up_at, if_pos ⟨rfl, rfl⟩]]
  by_cases q : s0 = -9
  · rw [if_pos q, if_pos q]
  · rw [if_neg q, if_neg q]
theorem pz_46n (a b : Int32) (H : zw_Hp) : B_X9_readHead_46 a b (-9) H = some (0, zw_up (zw_up (zw_up H 31 11 (-9)) 31 12 (-9)) 31 10 (10 * a + b)) := by
  unfold B_X9_readHead_46
  simp only [zw_nm]
  rw [show (zw_up H 31 11 (-9)).1 31 11 = -9 by rw [pq_up_at, if_pos ⟨rfl, rfl⟩], if_pos rfl, pz_71, if_pos rfl]
theorem pz_mh {x : Nat} {X : pq_Pg} (hx : x ≤ 36) (h1 : 1 ≤ x) {H : zw_Hp} (hT : pz_TM x X H) (h3 : H.1 31 3 = nI 1) : ∃ (e : Int32) (H' : zw_Hp), M_X9_readHead H = some (e, H') ∧ pz_hM H H' ∧ pz_TM x X H' ∧ (¬ pz_fg x 1 X → e = 0 ∧ H'.1 31 3 = nI 1) ∧ (pz_fg x 1 X → ¬ pz_fg x 2 X → e = 0 ∧ H'.1 31 3 = nI 2) ∧ (pz_fg x 1 X → pz_fg x 2 X → ¬ pz_fg x 3 X → e = 0 ∧ H'.1 31 3 = nI 3) ∧ (pz_fg x 1 X → pz_fg x 2 X → pz_fg x 3 X → ¬ pz_fg x 4 X → e = 0 ∧ H'.1 31 3 = nI 4) ∧ (pz_fg x 1 X → pz_fg x 2 X → pz_fg x 3 X → pz_fg x 4 X → e = 1 ∧ H'.1 31 3 = nI 5 ∧ H'.1 31 10 = 10 * (X 1 - 48) + (X 2 - 48) ∧ H'.1 31 11 = X 3 - 48 ∧ H'.1 31 12 = X 4 - 48) := by
  have u : ∀ {h h' : zw_Hp}, pz_hM h h' → ∀ v, pz_hM h (zw_up h' 31 3 v) := fun a v => pz_hM_up a v (by decide) (by decide)
  have u10 : ∀ {h h' : zw_Hp}, pz_hM h h' → ∀ v, pz_hM h (zw_up h' 31 10 v) := fun a v => pz_hM_up a v (by decide) (by decide)
  have u11 : ∀ {h h' : zw_Hp}, pz_hM h h' → ∀ v, pz_hM h (zw_up h' 31 11 v) := fun a v => pz_hM_up a v (by decide) (by decide)
  have u12 : ∀ {h h' : zw_Hp}, pz_hM h h' → ∀ v, pz_hM h (zw_up h' 31 12 v) := fun a v => pz_hM_up a v (by decide) (by decide)
  have t3 : ∀ {h : zw_Hp}, pz_TM x X h → ∀ v, pz_TM x X (zw_up h 31 3 v) := fun a v => pz_TM_up a v (by decide) (by decide)
  have t10 : ∀ {h : zw_Hp}, pz_TM x X h → ∀ v, pz_TM x X (zw_up h 31 10 v) := fun a v => pz_TM_up a v (by decide) (by decide)
  have t11 : ∀ {h : zw_Hp}, pz_TM x X h → ∀ v, pz_TM x X (zw_up h 31 11 v) := fun a v => pz_TM_up a v (by decide) (by decide)
  have t12 : ∀ {h : zw_Hp}, pz_TM x X h → ∀ v, pz_TM x X (zw_up h 31 12 v) := fun a v => pz_TM_up a v (by decide) (by decide)
  have pl : ∀ (h : zw_Hp) (v : Int32), (zw_up h 31 3 v).1 31 3 = v := fun h v => by rw [pq_up_at, if_pos ⟨rfl, rfl⟩]
  have po : ∀ (h : zw_Hp) (k : Nat) (v : Int32), k ≠ 3 → (zw_up h 31 k v).1 31 3 = h.1 31 3 := fun h k v hk => by rw [pq_up_at, if_neg (by omega)]
  unfold M_X9_readHead
  rw [pz_fig hT hx h1 h3]
  by_cases f1 : pz_fg x 1 X
  · rw [if_pos f1]
    simp only [Option.bind_some, zw_nm]
    have x2 : 2 ≤ x := f1.1
    rw [if_neg (pz_y9 f1.2.1), pz_fig (t3 hT _) hx x2 (pl _ _)]
    by_cases f2 : pz_fg x 2 X
    · rw [if_pos f2]
      simp only [Option.bind_some]
      unfold B_X9_readHead_26
      have x3 : 3 ≤ x := f2.1
      rw [if_neg (pz_y9 f2.2.1), pz_fig (t3 (t3 hT _) _) hx x3 (pl _ _)]
      by_cases f3 : pz_fg x 3 X
      · rw [if_pos f3]
        simp only [Option.bind_some]
        unfold B_X9_readHead_46
        simp only [zw_nm]
        have x4 : 4 ≤ x := f3.1
        generalize hh : zw_up (zw_up (zw_up H 31 3 (nI (1 + 1))) 31 3 (nI (2 + 1))) 31 3 (nI (3 + 1)) = H3
        have hH3 : pz_hM H H3 := by rw [← hh]; exact u (u (u (pz_hM_rf H) _) _) _
        have hT3 : pz_TM x X H3 := by rw [← hh]; exact t3 (t3 (t3 hT _) _) _
        have p3 : H3.1 31 3 = nI 4 := by rw [← hh]; exact pl _ _
        rw [show (zw_up H3 31 11 (X 3 - 48)).1 31 11 = X 3 - 48 by rw [pq_up_at, if_pos ⟨rfl, rfl⟩], if_neg (pz_y9 f3.2.1), pz_fig (t11 hT3 _) hx x4 (by rw [po _ _ _ (by decide)]; exact p3)]
        by_cases f4 : pz_fg x 4 X
        · rw [if_pos f4]
          simp only [Option.bind_some]
          rw [pz_71, if_neg (pz_y9 f4.2.1)]
          refine ⟨_, _, rfl, u10 (u12 (u (u11 hH3 _) _) _) _, t10 (t12 (t3 (t11 hT3 _) _) _) _, fun q => absurd f1 q, fun _ q => absurd f2 q, fun _ _ q => absurd f3 q, fun _ _ _ q => absurd f4 q, fun _ _ _ _ => ⟨rfl, ?_, ?_, ?_, ?_⟩⟩
          · rw [po _ _ _ (by decide), po _ _ _ (by decide), pl]
          · rw [pq_up_at, if_pos ⟨rfl, rfl⟩]
          · rw [pq_up_at, if_neg (by decide), pq_up_at, if_neg (by decide), pq_up_at, if_neg (by decide), pq_up_at, if_pos ⟨rfl, rfl⟩]
          · rw [pq_up_at, if_neg (by decide), pq_up_at, if_pos ⟨rfl, rfl⟩]
        · rw [if_neg f4]
          simp only [Option.bind_some]
          rw [pz_71, if_pos rfl]
          refine ⟨_, _, rfl, u10 (u12 (u11 hH3 _) _) _, t10 (t12 (t11 hT3 _) _) _, fun q => absurd f1 q, fun _ q => absurd f2 q, fun _ _ q => absurd f3 q, fun _ _ _ _ => ⟨rfl, ?_⟩, fun _ _ _ q => absurd q f4⟩
          rw [po _ _ _ (by decide), po _ _ _ (by decide), po _ _ _ (by decide)]; exact p3
      · rw [if_neg f3]
        simp only [Option.bind_some]
        rw [pz_46n]
        refine ⟨_, _, rfl, u10 (u12 (u11 (u (u (pz_hM_rf H) _) _) _) _) _, t10 (t12 (t11 (t3 (t3 hT _) _) _) _) _, fun q => absurd f1 q, fun _ q => absurd f2 q, fun _ _ _ => ⟨rfl, ?_⟩, fun _ _ q => absurd q f3, fun _ _ q => absurd q f3⟩
        rw [po _ _ _ (by decide), po _ _ _ (by decide), po _ _ _ (by decide)]; exact pl _ _
    · rw [if_neg f2]
      simp only [Option.bind_some]
      unfold B_X9_readHead_26
      rw [if_pos rfl, pz_46n]
      refine ⟨_, _, rfl, u10 (u12 (u11 (u (pz_hM_rf H) _) _) _) _, t10 (t12 (t11 (t3 hT _) _) _) _, fun q => absurd f1 q, fun _ _ => ⟨rfl, ?_⟩, fun _ q => absurd q f2, fun _ q => absurd q f2, fun _ q => absurd q f2⟩
      rw [po _ _ _ (by decide), po _ _ _ (by decide), po _ _ _ (by decide)]; exact pl _ _
  · rw [if_neg f1]
    simp only [Option.bind_some, zw_nm, if_true]
    unfold B_X9_readHead_26
    rw [if_pos rfl, pz_46n]
    refine ⟨_, _, rfl, u10 (u12 (u11 (pz_hM_rf H) _) _) _, t10 (t12 (t11 hT _) _) _, fun _ => ⟨rfl, ?_⟩, fun q => absurd q f1, fun q => absurd q f1, fun q => absurd q f1, fun q => absurd q f1⟩
    rw [po _ _ _ (by decide), po _ _ _ (by decide), po _ _ _ (by decide)]; exact h3
theorem pz_cs {t x p N : Nat} {X : pq_Pg} (hx : x ≤ 36) (hp : p ≤ x) {A A' : zw_Hp} {w : Int32} (hT : pz_T x X A) (e8 : A.1 t 8 = w) (hw : ¬ w = 5) (hl : M_X2_takeLetter t (X p) A = if 0 ≤ X p - 48 ∧ X p - 48 ≤ 9 then some (1, A') else some (0, A)) : (pz_fg x p X → pz_itC t (N + 1) (nI p, A) = pz_itC t N (nI (p + 1), A')) ∧ (¬ pz_fg x p X → pz_itC t (N + 1) (nI p, A) = some (nI p, A)) := by
  refine ⟨fun f => ?_, fun f => ?_⟩
  · rw [pz_itC_s, pz_stp hT hx f.1, hl, if_pos f.2]
    simp +decide only [Option.bind_some, if_false]
  · by_cases p1 : p < x
    · rw [pz_itC_s, pz_stp hT hx p1, hl, if_neg (fun z => f ⟨p1, z⟩)]
      simp +decide only [Option.bind_some, if_true]
    · have e1 : p = x := by omega
      subst e1
      rw [pz_itC_s, pz_fin hT hx, e8, if_neg hw]
def pz_Res (t x : Nat) (X : pq_Pg) (h : zw_Hp) : Prop := ∃ (r : Int32) (h' : zw_Hp) (n m q f g w : Nat) (K Z : pq_Pg), M_X2_readFrom t h = some (r, h') ∧ pz_fC t h h' ∧ (r = -9 → n ≤ 5 ∧ m ≤ 4 ∧ q < 2 ^ m ∧ f ≤ 99 ∧ g ≤ 9 ∧ w ≤ 9 ∧ (∀ k, k < m → pq_s9 (Z k)) ∧ pz_C t 5 n m q K Z h' ∧ h'.1 t 5 = nI f ∧ h'.1 t 6 = nI g ∧ h'.1 t 7 = nI w) ∧ ∀ H, pz_TM x X H → ∃ H', M_X9_readNight H = some (r, H') ∧ pq_eq H H' ∧ (r = -9 → (∃ p', pz_M p' n m q K Z H') ∧ H'.1 31 10 = nI f ∧ H'.1 31 11 = nI g ∧ H'.1 31 12 = nI w)
theorem pz_rf {t x : Nat} {X : pq_Pg} {h : zw_Hp} {j : Nat} (hj : j ≤ 36) {h' : zw_Hp} (e1 : M_X2_readFrom t h = some (nI j, h')) (e2 : pz_fC t h h') (e3 : ∀ H, pz_TM x X H → ∃ H', M_X9_readNight H = some (nI j, H') ∧ pq_eq H H') : pz_Res t x X h := by
  refine ⟨nI j, h', 0, 0, 0, 0, 0, 0, X, X, e1, e2, fun z => absurd z (pz_ne9 (by omega)), fun H b => ?_⟩
  obtain ⟨H', f1, f2⟩ := e3 H b
  exact ⟨H', f1, f2, fun z => absurd z (pz_ne9 (by omega))⟩
theorem pz_read {t x : Nat} (ht : t = 3 ∨ t = 6) {X : pq_Pg} (hx : x ≤ 36) {h : zw_Hp} (hT : pz_T x X h) : pz_Res t x X h := by
  -- the model's beginning
  have mb : ∀ H, pz_TM x X H → ∃ H7, pq_eq H H7 ∧ pz_TM x X H7 ∧ H7.1 31 3 = nI 0 ∧ H7.1 31 13 = nI 0 ∧ H7.1 31 15 = nI 0 ∧ H7.1 31 17 = nI 0 ∧ M_X9_readNight H = (if (H7.1 31 2) = 0 then (some ((0 : Int32), H7)) else (if (H7.1 32 0) = (87 : Int32) then ((M_X9_readHead (zw_up H7 31 3 1)).bind (fun z14 => if z14.1 = 0 then (some ((z14.2.1 31 3), z14.2)) else (pz_itM 600 z14.2))) else (some ((0 : Int32), H7)))) := by
    intro H b
    refine ⟨zw_up (zw_up (zw_up (zw_up H 31 3 0) 31 13 0) 31 15 0) 31 17 0, ?_, ?_, ?_, ?_, ?_, ?_, ?_⟩
    · exact pq_eq_tr (pq_eq_tr (pq_eq_tr (pq_eq_up H 0 (by decide)) (pq_eq_up _ 0 (by decide))) (pq_eq_up _ 0 (by decide))) (pq_eq_up _ 0 (by decide))
    · exact pz_TM_up (pz_TM_up (pz_TM_up (pz_TM_up b _ (by decide) (by decide)) _ (by decide) (by decide)) _ (by decide) (by decide)) _ (by decide) (by decide)
    · rw [pq_up_at, if_neg (by decide), pq_up_at, if_neg (by decide), pq_up_at, if_neg (by decide), pq_up_at, if_pos ⟨rfl, rfl⟩]; rfl
    · rw [pq_up_at, if_neg (by decide), pq_up_at, if_neg (by decide), pq_up_at, if_pos ⟨rfl, rfl⟩]; rfl
    · rw [pq_up_at, if_neg (by decide), pq_up_at, if_pos ⟨rfl, rfl⟩]; rfl
    · rw [pq_up_at, if_pos ⟨rfl, rfl⟩]; rfl
    · unfold M_X9_readNight
      simp only [zw_nm]
      rw [if_pos (show zw_ok (0 : Int32) 36 = true by decide)]
      rfl
  -- the class's beginning
  have cb : M_X2_readFrom t h = pz_itC t 600 (nI 0, zw_up (zw_up (zw_up (zw_up h t 2 0) t 3 0) t 4 0) t 8 0) := rfl
  generalize hA : zw_up (zw_up (zw_up (zw_up h t 2 0) t 3 0) t 4 0) t 8 0 = A0 at cb
  have fA : pz_fC t h A0 := by
    rw [← hA]
    exact pz_fC_up (pz_fC_up (pz_fC_up (pz_fC_up (pz_fC_rf t h) _ _ (by omega)) _ _ (by omega)) _ _ (by omega)) _ _ (by omega)
  have a8 : A0.1 t 8 = 0 := by rw [← hA, pq_up_at, if_pos ⟨rfl, rfl⟩]
  have a2 : A0.1 t 2 = nI 0 := by rw [← hA, pq_up_at, if_neg (by omega), pq_up_at, if_neg (by omega), pq_up_at, if_neg (by omega), pq_up_at, if_pos ⟨rfl, rfl⟩]; rfl
  have a3 : A0.1 t 3 = nI 0 := by rw [← hA, pq_up_at, if_neg (by omega), pq_up_at, if_neg (by omega), pq_up_at, if_pos ⟨rfl, rfl⟩]; rfl
  have a4 : A0.1 t 4 = nI 0 := by rw [← hA, pq_up_at, if_neg (by omega), pq_up_at, if_pos ⟨rfl, rfl⟩]; rfl
  have hT0 := pz_T_of ht hT fA
  by_cases x0 : x = 0
  · subst x0
    refine pz_rf (j := 0) (by omega) (h' := A0) ?_ fA (fun H b => ?_)
    · rw [cb, show (600 : Nat) = 599 + 1 from rfl, pz_itC_s, pz_fin hT0 hx, a8, if_neg (by decide)]
    · obtain ⟨H7, b1, b2, b3, b4, b5, b6, b7⟩ := mb H b
      exact ⟨H7, by rw [b7, b2.1, if_pos (show nI 0 = 0 from rfl)]; rfl, b1⟩
  · have x1 : 0 < x := by omega
    have xn : ¬ nI x = 0 := nI_ne0 x1 (by omega)
    have tl0 : M_X2_takeLetter t (X 0) A0 = some (if X 0 = 87 then 1 else 0, zw_up A0 t 8 1) := by
      unfold M_X2_takeLetter
      rw [a8, if_pos rfl]
      simp only [zw_nm]
      by_cases q : X 0 = 87
      · rw [if_pos q, if_pos q]
      · rw [if_neg q, if_neg q]
    by_cases c0 : X 0 = 87
    · have m7 : ∀ H, pz_TM x X H → ∃ H7, pq_eq H H7 ∧ pz_TM x X (zw_up H7 31 3 1) ∧ (zw_up H7 31 3 1).1 31 3 = nI 1 ∧ H7.1 31 13 = nI 0 ∧ H7.1 31 15 = nI 0 ∧ H7.1 31 17 = nI 0 ∧ M_X9_readNight H = (M_X9_readHead (zw_up H7 31 3 1)).bind (fun z14 => if z14.1 = 0 then (some ((z14.2.1 31 3), z14.2)) else (pz_itM 600 z14.2)) := by
        intro H b
        obtain ⟨H7, b1, b2, b3, b4, b5, b6, b7⟩ := mb H b
        refine ⟨H7, b1, pz_TM_up b2 _ (by decide) (by decide), by rw [pq_up_at, if_pos ⟨rfl, rfl⟩]; rfl, b4, b5, b6, ?_⟩
        rw [b7, b2.1, if_neg xn, b2.2 0 x1, if_pos c0]
      have ffail : ∀ j, j ≤ 36 → (∀ (H : zw_Hp) (e : Int32) (H' : zw_Hp), pz_TM x X H → H.1 31 3 = nI 1 → M_X9_readHead H = some (e, H') → e = 0 ∧ H'.1 31 3 = nI j) → ∀ H, pz_TM x X H → ∃ H', M_X9_readNight H = some (nI j, H') ∧ pq_eq H H' := by
        intro j hj hf H b
        obtain ⟨H7, b1, b2, b3, b4, b5, b6, b7⟩ := m7 H b
        obtain ⟨e, H', d1, d2, d3, d4⟩ := pz_mh hx x1 b2 b3
        obtain ⟨e0, ep⟩ := hf _ e H' b2 b3 d1
        refine ⟨H', ?_, pq_eq_tr b1 (pq_eq_tr (pq_eq_up H7 1 (by decide)) d2.1)⟩
        rw [b7, d1]
        simp only [Option.bind_some]
        rw [if_pos e0, ep]
      have s0 : M_X2_readFrom t h = pz_itC t 599 (nI 1, zw_up A0 t 8 1) := by
        rw [cb, show (600 : Nat) = 599 + 1 from rfl, pz_itC_s, pz_stp hT0 hx x1, tl0, if_pos c0]
        simp +decide only [Option.bind_some, if_false]
      generalize hA1 : zw_up A0 t 8 1 = A1 at s0
      have fA1 : pz_fC t h A1 := by rw [← hA1]; exact pz_fC_up fA _ _ (by omega)
      have e1 : A1.1 t 8 = 1 := by rw [← hA1, pq_up_at, if_pos ⟨rfl, rfl⟩]
      obtain ⟨s1, n1⟩ := pz_cs (N := 598) hx x1 (pz_T_of ht hT fA1) e1 (by decide) (pz_l1 (X 1) e1)
      by_cases f1 : pz_fg x 1 X
      · have s1 := s1 f1
        generalize hA2 : zw_up (zw_up A1 t 5 (10 * (X 1 - 48))) t 8 2 = A2 at s1
        have fA2 : pz_fC t h A2 := by rw [← hA2]; exact pz_fC_up (pz_fC_up fA1 _ _ (by omega)) _ _ (by omega)
        have e2 : A2.1 t 8 = 2 := by rw [← hA2, pq_up_at, if_pos ⟨rfl, rfl⟩]
        obtain ⟨s2, n2⟩ := pz_cs (N := 597) hx f1.1 (pz_T_of ht hT fA2) e2 (by decide) (pz_l2 (X 2) e2)
        by_cases f2 : pz_fg x 2 X
        · have s2 := s2 f2
          generalize hA3 : zw_up (zw_up A2 t 5 (A2.1 t 5 + (X 2 - 48))) t 8 3 = A3 at s2
          have fA3 : pz_fC t h A3 := by rw [← hA3]; exact pz_fC_up (pz_fC_up fA2 _ _ (by omega)) _ _ (by omega)
          have e3 : A3.1 t 8 = 3 := by rw [← hA3, pq_up_at, if_pos ⟨rfl, rfl⟩]
          obtain ⟨s3, n3⟩ := pz_cs (N := 596) hx f2.1 (pz_T_of ht hT fA3) e3 (by decide) (pz_l3 (X 3) e3)
          by_cases f3 : pz_fg x 3 X
          · have s3 := s3 f3
            generalize hA4 : zw_up (zw_up A3 t 6 (X 3 - 48)) t 8 4 = A4 at s3
            have fA4 : pz_fC t h A4 := by rw [← hA4]; exact pz_fC_up (pz_fC_up fA3 _ _ (by omega)) _ _ (by omega)
            have e4 : A4.1 t 8 = 4 := by rw [← hA4, pq_up_at, if_pos ⟨rfl, rfl⟩]
            obtain ⟨s4, n4⟩ := pz_cs (N := 595) hx f3.1 (pz_T_of ht hT fA4) e4 (by decide) (pz_l4 (X 4) e4)
            by_cases f4 : pz_fg x 4 X
            · have s4 := s4 f4
              generalize hA5 : zw_up (zw_up A4 t 7 (X 4 - 48)) t 8 5 = A5 at s4
              have fA5 : pz_fC t h A5 := by rw [← hA5]; exact pz_fC_up (pz_fC_up fA4 _ _ (by omega)) _ _ (by omega)
              have hT5 := pz_T_of ht hT fA5
              obtain ⟨j1, j1a, j1b⟩ := pz_fg_n f1
              obtain ⟨j2, j2a, j2b⟩ := pz_fg_n f2
              obtain ⟨j3, j3a, j3b⟩ := pz_fg_n f3
              obtain ⟨j4, j4a, j4b⟩ := pz_fg_n f4
              have ef : 10 * (X 1 - 48) + (X 2 - 48) = nI (10 * j1 + j2) := by
                rw [j1b, j2b, show (10 : Int32) * nI j1 = nI (10 * j1) from pk_mul 10 j1, nI_add]
              have z5 : A5.1 t 5 = nI (10 * j1 + j2) := by
                rw [← hA5, pq_up_at, if_neg (by omega), pq_up_at, if_neg (by omega), ← hA4, pq_up_at, if_neg (by omega), pq_up_at, if_neg (by omega), ← hA3, pq_up_at, if_neg (by omega), pq_up_at, if_pos ⟨rfl, rfl⟩, ← hA2, pq_up_at, if_neg (by omega), pq_up_at, if_pos ⟨rfl, rfl⟩]
                exact ef
              have z6 : A5.1 t 6 = nI j3 := by
                rw [← hA5, pq_up_at, if_neg (by omega), pq_up_at, if_neg (by omega), ← hA4, pq_up_at, if_neg (by omega), pq_up_at, if_pos ⟨rfl, rfl⟩]
                exact j3b
              have z7 : A5.1 t 7 = nI j4 := by
                rw [← hA5, pq_up_at, if_neg (by omega), pq_up_at, if_pos ⟨rfl, rfl⟩]
                exact j4b
              have keep : ∀ k, k = 2 ∨ k = 3 ∨ k = 4 → A5.1 t k = A0.1 t k := by
                intro k hk
                rw [← hA5, pq_up_at, if_neg (by omega), pq_up_at, if_neg (by omega), ← hA4, pq_up_at, if_neg (by omega), pq_up_at, if_neg (by omega), ← hA3, pq_up_at, if_neg (by omega), pq_up_at, if_neg (by omega), ← hA2, pq_up_at, if_neg (by omega), pq_up_at, if_neg (by omega), ← hA1, pq_up_at, if_neg (by omega)]
              have hC5 : pz_C t 5 0 0 0 X X A5 := ⟨by rw [← hA5, pq_up_at, if_pos ⟨rfl, rfl⟩]; rfl, by rw [keep 2 (by omega)]; exact a2, by rw [keep 3 (by omega)]; exact a3, by rw [keep 4 (by omega)]; exact a4, fun k hk => by omega, fun k hk => by omega⟩
              obtain ⟨r, h', n', m', q', K', Z', o1, o2, o3, o4⟩ := pz_loop ht hx x 595 5 0 0 0 X X A5 f4.1 (by omega) (by omega) (by omega) (by omega) (by decide) (fun k hk => by omega) hT5 hC5
              refine ⟨r, h', n', m', q', 10 * j1 + j2, j3, j4, K', Z', ?_, pz_fC_tr fA5 o2.1, fun hr => ?_, fun H b => ?_⟩
              · rw [s0, s1, s2, s3, s4]; exact o1
              · obtain ⟨w1, w2, w3, w4, w5⟩ := o3 hr
                exact ⟨w1, w2, w3, by omega, j3a, j4a, w4, w5, by rw [o2.2.1]; exact z5, by rw [o2.2.2.1]; exact z6, by rw [o2.2.2.2]; exact z7⟩
              · obtain ⟨H7, b1, b2, b3, b4, b5, b6, b7⟩ := m7 H b
                obtain ⟨e, H', d1, d2, d3, -, -, -, -, d4⟩ := pz_mh hx x1 b2 b3
                obtain ⟨k1, k2, k3, k4, k5⟩ := d4 f1 f2 f3 f4
                have up3 : ∀ k, k ≠ 3 → (zw_up H7 31 3 1).1 31 k = H7.1 31 k := fun k hk => by rw [pq_up_at, if_neg (by omega)]
                obtain ⟨H'', g1, g2, g3⟩ := o4 H' 600 (by omega) d3 ⟨k2, by rw [d2.2.1, up3 13 (by decide)]; exact b4, by rw [d2.2.2.1, up3 15 (by decide)]; exact b5, by rw [d2.2.2.2.1, up3 17 (by decide)]; exact b6, fun k hk => by omega, fun k hk => by omega⟩
                refine ⟨H'', ?_, pq_eq_tr b1 (pq_eq_tr (pq_eq_up H7 1 (by decide)) (pq_eq_tr d2.1 g2.1)), fun hr => ⟨g3 hr, ?_, ?_, ?_⟩⟩
                · rw [b7, d1]
                  simp only [Option.bind_some]
                  rw [k1, if_neg pq_10]
                  exact g1
                · rw [g2.2.1, k3]; exact ef
                · rw [g2.2.2.1, k4]; exact j3b
                · rw [g2.2.2.2, k5]; exact j4b
            · refine pz_rf (j := 4) (by omega) (h' := A4) (by rw [s0, s1, s2, s3]; exact n4 f4) fA4 (ffail 4 (by omega) (fun H e H' b2 b3 d1 => ?_))
              obtain ⟨e', H2, c1, c2, c3, -, -, -, c4, -⟩ := pz_mh hx x1 b2 b3
              rw [d1] at c1
              cases c1
              exact c4 f1 f2 f3 f4
          · refine pz_rf (j := 3) (by omega) (h' := A3) (by rw [s0, s1, s2]; exact n3 f3) fA3 (ffail 3 (by omega) (fun H e H' b2 b3 d1 => ?_))
            obtain ⟨e', H2, c1, c2, c3, -, -, c4, -, -⟩ := pz_mh hx x1 b2 b3
            rw [d1] at c1
            cases c1
            exact c4 f1 f2 f3
        · refine pz_rf (j := 2) (by omega) (h' := A2) (by rw [s0, s1]; exact n2 f2) fA2 (ffail 2 (by omega) (fun H e H' b2 b3 d1 => ?_))
          obtain ⟨e', H2, c1, c2, c3, -, c4, -, -, -⟩ := pz_mh hx x1 b2 b3
          rw [d1] at c1
          cases c1
          exact c4 f1 f2
      · refine pz_rf (j := 1) (by omega) (h' := A1) (by rw [s0]; exact n1 f1) fA1 (ffail 1 (by omega) (fun H e H' b2 b3 d1 => ?_))
        obtain ⟨e', H2, c1, c2, c3, c4, -, -, -, -⟩ := pz_mh hx x1 b2 b3
        rw [d1] at c1
        cases c1
        exact c4 f1
    · refine pz_rf (j := 0) (by omega) (h' := zw_up A0 t 8 1) ?_ (pz_fC_up fA _ _ (by omega)) (fun H b => ?_)
      · rw [cb, show (600 : Nat) = 599 + 1 from rfl, pz_itC_s, pz_stp hT0 hx x1, tl0, if_neg c0]
        simp +decide only [Option.bind_some, if_true]
      · obtain ⟨H7, b1, b2, b3, b4, b5, b6, b7⟩ := mb H b
        refine ⟨H7, ?_, b1⟩
        rw [b7, b2.1, if_neg xn, b2.2 0 x1, if_neg c0]
        rfl
