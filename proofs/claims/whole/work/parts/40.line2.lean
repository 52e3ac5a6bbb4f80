/-! the best order of all -/
theorem pq_nxt_ag2 {n N : Nat} (hN : n ≤ N) {f g : pq_Pg} (h : pq_ag N f g) : (pq_nxt n f = none ∧ pq_nxt n g = none) ∨ ∃ f' g', pq_nxt n f = some f' ∧ pq_nxt n g = some g' ∧ pq_ag N f' g' := by
  unfold pq_nxt
  rw [pq_pv_ag h (n - 1) (by omega)]
  cases e : pq_pv g (n - 1) with
  | none => exact Or.inl ⟨rfl, rfl⟩
  | some p =>
    have hp := pq_pv_lt e
    have hs := pq_sc_le (f := g) (p := p) (n - 1)
    simp only []
    rw [pq_sc_ag h (show p < N by omega) (n - 1) (by omega)]
    exact Or.inr ⟨_, _, rfl, rfl, pq_rv_ag 5 (by omega) (pq_sq_ag h (by omega) (by omega))⟩
def pq_ow (c f : pq_Pg) : pq_Pg := fun s => if s < 5 then f s else c s
theorem pq_ow_ag {c f g : pq_Pg} (h : pq_ag 5 f g) : pq_ow c f = pq_ow c g := by
  funext s
  unfold pq_ow
  by_cases q : s < 5
  · rw [if_pos q, if_pos q, h s q]
  · rw [if_neg q, if_neg q]
theorem pq_ow_hi {c f : pq_Pg} {k : Nat} (hk : 5 ≤ k) : pq_ow c f k = c k := if_neg (by omega)
theorem pq_Wb_ow {n m B : Nat} (hn : n ≤ 5) {c : pq_Pg} (h : pq_Wb n m B c) {k : Nat} (hk : k < pq_nf_ n) : pq_Wb n m B (pq_ow c (pq_rw n k)) := by
  obtain ⟨h1, h2, ⟨⟨q, q1, q2⟩, ⟨f, f1, f2⟩⟩, ⟨⟨t, t1, t2⟩, ⟨u, u1, u2⟩⟩⟩ := h
  have hT := pq_cwn hn hk
  refine ⟨⟨pq_T n k, fun s hs => ⟨?_, (hT ⟨s, hs⟩).1⟩, fun s s' hs hs' e => ?_, fun s hs => (hT ⟨s, by omega⟩).2.1 hs⟩, pq_WP_hi h2 (fun i hi => pq_ow_hi hi), ⟨⟨q, q1, by rw [pq_ow_hi (by omega)]; exact q2⟩, ⟨f, f1, by rw [pq_ow_hi (by omega)]; exact f2⟩⟩, ⟨⟨t, t1, by rw [pq_ow_hi (by omega)]; exact t2⟩, ⟨u, u1, by rw [pq_ow_hi (by omega)]; exact u2⟩⟩⟩
  · unfold pq_ow
    rw [if_pos hs]
    rfl
  · have := (hT ⟨s, hs⟩).2.2 ⟨s', hs'⟩ e
    exact congrArg Fin.val this
def pq_fg (f : pq_Pg) : Nat → Nat → Int32 → Int32
  | 0, _, v => v
  | d + 1, s, v => pq_fg f d (s + 1) (10 * v + f s + 1)
theorem pq_fg_ag {n : Nat} {f g : pq_Pg} (h : pq_ag n f g) : ∀ (d s : Nat) (v : Int32), s + d = n → pq_fg f d s v = pq_fg g d s v := by
  intro d
  induction d with
  | zero => intro s v _; rfl
  | succ d ih =>
    intro s v hs
    unfold pq_fg
    rw [h s (by omega)]
    exact ih (s + 1) _ (by omega)
theorem pq_figs {n : Nat} (hn : n ≤ 5) (H : zw_Hp) (h6 : H.1 6 2 = nI n) : M_X4_orderFigures H = some (pq_fg (H.1 29) n 0 0) := by
  unfold M_X4_orderFigures L_X4_orderFigures_4
  have key : ∀ (d N s : Nat) (v : Int32), s + d = n → d < N → zw_it (fun (k4 : (Int32 × Int32) → Option (Int32)) (w : Int32 × Int32) => B_X4_orderFigures_4 H k4 (w.1) (w.2)) N (v, nI s) = some (pq_fg (H.1 29) d s v) := by
    intro d
    induction d with
    | zero =>
      intro N s v hs hN
      obtain ⟨N', rfl⟩ : ∃ N', N = N' + 1 := ⟨N - 1, by omega⟩
      rw [pq_it_s]
      simp only []
      rw [B_X4_orderFigures_4, h6, show s = n by omega, if_pos (Int32.le_refl _)]
      rfl
    | succ d ih =>
      intro N s v hs hN
      obtain ⟨N', rfl⟩ : ∃ N', N = N' + 1 := ⟨N - 1, by omega⟩
      rw [pq_it_s]
      simp only []
      rw [B_X4_orderFigures_4, h6, if_neg (nI_ge (by omega) (by omega)), if_neg (show ¬ (5 : Int32) ≤ nI s from nI_ge (a := s) (b := 5) (by omega) (by decide)), if_pos (pq_ok_nI (by omega) (by decide)), nI_clamp (by omega)]
      simp only [zw_nm, nI_1]
      exact ih N' (s + 1) _ (by omega) (by omega)
  exact key n 600 0 0 (by omega) (by omega)
theorem pq_mfigs {n : Nat} (hn : n ≤ 5) (H : zw_Hp) (h6 : H.1 31 6 = nI n) : M_X9_lineFigures H = some (pq_fg (H.1 47) n 0 0) := by
  unfold M_X9_lineFigures L_X9_lineFigures_4
  have key : ∀ (d N s : Nat) (v : Int32), s + d = n → d < N → zw_it (fun (k4 : (Int32 × Int32) → Option (Int32)) (w : Int32 × Int32) => B_X9_lineFigures_4 H k4 (w.1) (w.2)) N (v, nI s) = some (pq_fg (H.1 47) d s v) := by
    intro d
    induction d with
    | zero =>
      intro N s v hs hN
      obtain ⟨N', rfl⟩ : ∃ N', N = N' + 1 := ⟨N - 1, by omega⟩
      rw [pq_it_s]
      simp only []
      rw [B_X9_lineFigures_4, h6, show s = n by omega, if_pos (Int32.le_refl _)]
      rfl
    | succ d ih =>
      intro N s v hs hN
      obtain ⟨N', rfl⟩ : ∃ N', N = N' + 1 := ⟨N - 1, by omega⟩
      rw [pq_it_s]
      simp only []
      rw [B_X9_lineFigures_4, h6, if_neg (nI_ge (by omega) (by omega)), if_pos (pq_ok_nI (by omega) (by decide)), nI_clamp (by omega)]
      simp only [zw_nm, nI_1]
      exact ih N' (s + 1) _ (by omega) (by omega)
  exact key n 600 0 0 (by omega) (by omega)
theorem pq_fact5 {n : Nat} (hn : n ≤ 5) (h : zw_Hp) : M_X8_factorial (nI n) h = some (nI (pq_nf_ n)) := by
  unfold M_X8_factorial L_X8_factorial_4
  obtain ⟨K, hK⟩ := pq_u6 (fun (k4 : (Int32 × Int32 × Int32) → Option (Int32)) (w : Int32 × Int32 × Int32) => B_X8_factorial_4 h k4 (w.1) (w.2.1) (w.2.2)) (nI n, (1 : Int32), (2 : Int32))
  rw [hK]
  simp only [B_X8_factorial_4, zw_nm]
  rcases (show n = 0 ∨ n = 1 ∨ n = 2 ∨ n = 3 ∨ n = 4 ∨ n = 5 by omega) with rfl | rfl | rfl | rfl | rfl | rfl <;> rfl
theorem pq_nf_lt (n : Nat) : 1 ≤ pq_nf_ n ∧ pq_nf_ n ≤ 120 := by
  unfold pq_nf_
  repeat' split
  all_goals omega
def pq_lo (F G : Nat → Int32) : Nat → Nat → Int32 × Int32 → Int32 × Int32
  | 0, _, st => st
  | d + 1, k, st => pq_lo F G d (k + 1) (pq_pf (F k) (G k) st)
def pq_lF (h : zw_Hp) (n T k : Nat) : Int32 := pq_bts (h.1 7) (h.1 8) (h.1 6 7) (h.1 6 6) n (pq_ow (pq_cg 9 h) (pq_rw n k)) T 19
def pq_lG (n k : Nat) : Int32 := pq_fg (pq_rw n k) n 0 0
theorem pq_lF_eq {h h' : zw_Hp} (e : pq_eq h h') (n T : Nat) : pq_lF h' n T = pq_lF h n T := by
  funext k
  unfold pq_lF
  obtain ⟨e6, e7, e8⟩ := pq_row678 e
  rw [pq_eq_cg e, e6, e7, e8]
theorem pq_rl_29 (k : Nat) : pq_rl 29 k = false := by simp [pq_rl]
theorem pq_owR (c : pq_Pg) (f : pq_Pg) (H : zw_Hp) (h29 : H.1 29 = f) : zw_upR (pq_cp 14 c H) 15 (va_cpy ((pq_cp 14 c H).1 29) ((pq_cp 14 c H).1 15) (0 : Int32).toNatClampNeg (0 : Int32).toNatClampNeg (5 : Int32).toNatClampNeg) = pq_cp 14 (pq_ow c f) H := by
  refine pq_hext (fun a b => ?_) rfl
  have n5 : (5 : Int32).toNatClampNeg = 5 := rfl
  have n0 : (0 : Int32).toNatClampNeg = 0 := rfl
  rw [pq_upR_at, n0, n5]
  by_cases h15 : a = 15
  · subst h15
    rw [if_pos rfl]
    unfold va_cpy
    by_cases hb : b < 5
    · rw [if_pos (by omega), pq_cp_off c H (by omega), h29, pq_cp_1 (t := 14) _ H hb]
      unfold pq_ow
      rw [if_pos hb, Nat.zero_add, Nat.sub_zero]
    · rw [if_neg (by omega), pq_cp_at, pq_cp_at, if_neg, if_neg]
      · intro q
        have := pq_ix_cases q.2
        omega
      · intro q
        have := pq_ix_cases q.2
        omega
  · rw [if_neg h15, pq_cp_at, pq_cp_at]
    by_cases q : 14 ≤ a ∧ pq_ix (a - 14) b < 22
    · rw [if_pos q, if_pos q]
      have := pq_ix_cases q.2
      rw [pq_ow_hi (by omega)]
    · rw [if_neg q, if_neg q]
theorem pq_loC {n m B : Nat} {h : zw_Hp} (hI : pq_I n m B h) {T : Nat} (hT : T < 600) : ∀ (d N k : Nat) (more : Int32) (c' f : pq_Pg) (st : Int32 × Int32), k + d = pq_nf_ n → d < N → (0 < d → more = 1 ∧ pq_ag 5 f (pq_rw n k)) →
    ∃ c'' f', zw_it (fun (k51 : (Int32 × Int32 × Int32 × Int32 × zw_Hp) → Option (zw_Hp)) (w : Int32 × Int32 × Int32 × Int32 × zw_Hp) => B_X4_tryOrders_51 k51 (w.1) (w.2.1) (w.2.2.1) (w.2.2.2.1) (w.2.2.2.2)) N (nI T, more, nI (pq_nf_ n), nI k, pq_cp 14 c' (pq_ss st (zw_upR h 29 f))) = some (pq_cp 14 c'' (pq_ss (pq_lo (pq_lF h n T) (pq_lG n) d k st) (zw_upR h 29 f'))) := by
  have hn := hI.1.2.1
  have hnf := pq_nf_lt n
  intro d
  induction d with
  | zero =>
    intro N k more c' f st hk hN _
    obtain ⟨N', rfl⟩ : ∃ N', N = N' + 1 := ⟨N - 1, by omega⟩
    refine ⟨c', f, ?_⟩
    rw [pq_it_s]
    simp only []
    rw [B_X4_tryOrders_51, show k = pq_nf_ n by omega, if_pos (Int32.le_refl _)]
    rfl
  | succ d ih =>
    intro N k more c' f st hk hN hmf
    obtain ⟨N', rfl⟩ : ∃ N', N = N' + 1 := ⟨N - 1, by omega⟩
    obtain ⟨hmore, hag⟩ := hmf (by omega)
    subst hmore
    have eG : pq_eq h (zw_upR h 29 f) := pq_eq_upR h f pq_rl_29
    have eS : pq_eq h (pq_ss st (zw_upR h 29 f)) := pq_eq_tr eG (pq_eq_ss st _)
    have e29 : (pq_ss st (zw_upR h 29 f)).1 29 = f := by rw [pq_ss_off st _ (by decide), pq_mp]
    have ecg : pq_cg 9 (pq_cp 14 c' (pq_ss st (zw_upR h 29 f))) = pq_cg 9 h := pq_eq_cg (pq_eq_tr eS (pq_eq_cp _ _))
    have hW := pq_Wb_ow hn hI.now.1 (show k < pq_nf_ n by omega)
    obtain ⟨r6, r7, r8⟩ := pq_row678 eS
    rw [pq_it_s]
    simp only []
    rw [B_X4_tryOrders_51, if_neg (nI_ge (by omega) (by omega)), if_neg pq_10, pq_copyFrom, pq_cp_cp, ecg]
    simp only [Option.bind_some, zw_nm]
    rw [if_pos (by decide), pq_owR _ f _ e29, pq_ow_ag hag, pq_passBeats (Or.inr rfl) _ (pq_Pl_eq eS hI.1) hT hW]
    simp only [Option.bind_some]
    rw [r6, r7, r8, pq_figs hn _ (by rw [pq_cp_off _ _ (by omega), r6]; exact hI.1.1), pq_cp_off _ _ (by omega), e29]
    simp only [Option.bind_some]
    rw [pq_prefer]
    simp only [Option.bind_some]
    have eg : pq_fg f n 0 0 = pq_lG n k := pq_fg_ag (n := n) (fun s hs => hag s (by omega)) n 0 0 (by omega)
    rw [eg]
    have eF : pq_bts (h.1 7) (h.1 8) (h.1 6 7) (h.1 6 6) n (pq_ow (pq_cg 9 h) (pq_rw n k)) T 19 = pq_lF h n T k := rfl
    rw [eF]
    simp only [pq_lo]
    generalize pq_pf (pq_lF h n T k) (pq_lG n k) st = st'
    generalize pq_bts (h.1 7) (h.1 8) (h.1 6 7) (h.1 6 6) n (pq_ow (pq_cg 9 h) (pq_rw n k)) T = d'
    have comm : ∀ g, pq_cp 14 d' (pq_ss st' (zw_upR h 29 g)) = zw_upR (pq_cp 14 d' (pq_ss st' h)) 29 g := by
      intro g
      refine pq_hext (fun a b => ?_) rfl
      rw [pq_upR_at]
      by_cases z : a = 29
      · subst z
        rw [if_pos rfl, pq_cp_off _ _ (by omega), pq_ss_off st' _ (by decide), pq_mp]
      · rw [if_neg z, pq_cp_at, pq_cp_at]
        have : (pq_ss st' (zw_upR h 29 g)).1 a b = (pq_ss st' h).1 a b := by
          unfold pq_ss
          rw [pq_up_at, pq_up_at, pq_up_at, pq_up_at, pq_upR_at, if_neg z]
        rw [this]
    have h6 : (pq_cp 14 d' (pq_ss st' h)).1 6 2 = nI n := by
      rw [pq_cp_off _ _ (by omega), pq_ss_off st' _ (by decide)]; exact hI.1.1
    rw [comm, pq_next hn _ f h6]
    rcases pq_nxt_T hn (show k < pq_nf_ n by omega) with ⟨t1, t2⟩ | ⟨g, t1, t2, t3⟩
    · rcases pq_nxt_ag2 hn hag with ⟨a1, a2⟩ | ⟨f', g', a1, a2, a3⟩
      · rw [a1]
        simp only [Option.bind_some, nI_1]
        rw [← comm]
        exact ih N' (k + 1) 0 d' f st' (by omega) (by omega) (fun z => by omega)
      · rw [t1] at a2; cases a2
    · rcases pq_nxt_ag2 hn hag with ⟨a1, a2⟩ | ⟨f', g', a1, a2, a3⟩
      · rw [t1] at a2; cases a2
      · rw [t1] at a2
        cases a2
        rw [a1]
        simp only [Option.bind_some, nI_1]
        rw [← comm]
        refine ih N' (k + 1) 1 d' f' st' (by omega) (by omega) (fun z => ⟨rfl, ?_⟩)
        exact fun s hs => (a3 s hs).trans (t3 s hs)
theorem pq_lF_ge {n m B T : Nat} (hBT : B + T < 2 ^ 27) {h : zw_Hp} (hI : pq_I n m B h) {k : Nat} (hk : k < pq_nf_ n) : ¬ pq_lF h n T k ≤ -9 := by
  obtain ⟨p1, hn, hm, hZ, hg, p6⟩ := hI.1
  have hW := pq_Wb_bts (K := h.1 7) (w := h.1 6 7) hn hZ hg T B (pq_Wb_ow hn hI.now.1 hk)
  obtain ⟨⟨q, q1, q2⟩, -⟩ := hW.2.2.2
  unfold pq_lF
  rw [q2]
  intro z
  have := Int32.le_trans (nI_pos' (show q < 2 ^ 31 by omega)) z
  exact absurd this (by decide)
theorem pq_lo_first {n m B T : Nat} (hBT : B + T < 2 ^ 27) {h : zw_Hp} (hI : pq_I n m B h) (x y : Int32) : pq_lo (pq_lF h n T) (pq_lG n) (pq_nf_ n) 0 (-9, x) = pq_lo (pq_lF h n T) (pq_lG n) (pq_nf_ n) 0 (-9, y) := by
  have hnf := pq_nf_lt n
  obtain ⟨e, he⟩ : ∃ e, pq_nf_ n = e + 1 := ⟨pq_nf_ n - 1, by omega⟩
  rw [he]
  simp only [pq_lo, pq_pf]
  rw [if_neg (pq_lF_ge hBT hI (by omega)), if_neg (pq_lF_ge hBT hI (by omega))]
def pq_lineV (h : zw_Hp) (n : Nat) (x1 x2 : Int32) : Int32 := if 1 ≤ x1 ∧ x1 ≤ 20 then (if 0 ≤ x2 ∧ x2 ≤ 1 then (if x2 = 0 then (pq_lo (pq_lF h n x1.toNatClampNeg) (pq_lG n) (pq_nf_ n) 0 (-9, 0)).1 else (pq_lo (pq_lF h n x1.toNatClampNeg) (pq_lG n) (pq_nf_ n) 0 (-9, 0)).2) else -2) else -2
theorem pq_lineV_eq {h h' : zw_Hp} (e : pq_eq h h') (n : Nat) (x1 x2 : Int32) : pq_lineV h' n x1 x2 = pq_lineV h n x1 x2 := by
  unfold pq_lineV
  rw [pq_lF_eq e]
theorem pq_ord0 (x1 : Int32) (h : zw_Hp) : M_X4_tryOrders x1 h = (M_X8_factorial (h.1 6 2) (pq_ss (-9, 0) (zw_upR h 29 (pq_b21 nI (h.1 29) 5)))).bind (fun z6 => L_X4_tryOrders_51 (x1, 1, z6, 0, pq_ss (-9, 0) (zw_upR h 29 (pq_b21 nI (h.1 29) 5)))) := by
  unfold M_X4_tryOrders L_X4_tryOrders_2
  have key : ∀ (d N j : Nat), j + d = 5 → d < N → zw_it (fun (k2 : (Int32 × Int32 × zw_Hp) → Option (zw_Hp)) (w : Int32 × Int32 × zw_Hp) => B_X4_tryOrders_2 k2 (w.1) (w.2.1) (w.2.2)) N (x1, nI j, zw_upR h 29 (pq_b21 nI (h.1 29) j)) = (M_X8_factorial (h.1 6 2) (pq_ss (-9, 0) (zw_upR h 29 (pq_b21 nI (h.1 29) 5)))).bind (fun z6 => L_X4_tryOrders_51 (x1, 1, z6, 0, pq_ss (-9, 0) (zw_upR h 29 (pq_b21 nI (h.1 29) 5)))) := by
    intro d
    induction d with
    | zero =>
      intro N j hj hN
      obtain ⟨N', rfl⟩ : ∃ N', N = N' + 1 := ⟨N - 1, by omega⟩
      rw [pq_it_s]
      simp only []
      rw [B_X4_tryOrders_2, show j = 5 by omega, if_pos (by decide)]
      simp only [zw_nm]
      have e6 : ∀ H : zw_Hp, (zw_up (zw_up (zw_upR H 29 (pq_b21 nI (H.1 29) 5)) 28 4 (-9)) 28 5 0).1 6 2 = H.1 6 2 := fun H => by
        rw [pq_up_off _ (by decide), pq_up_off _ (by decide), pq_o29 _ _ (by decide)]
      rw [e6]
      rfl
    | succ d ih =>
      intro N j hj hN
      obtain ⟨N', rfl⟩ : ∃ N', N = N' + 1 := ⟨N - 1, by omega⟩
      rw [pq_it_s]
      simp only []
      rw [B_X4_tryOrders_2, if_neg (show ¬ (5 : Int32) ≤ nI j from nI_ge (a := j) (b := 5) (by omega) (by decide)), if_pos (pq_ok_nI (by omega) (by decide)), nI_clamp (by omega)]
      simp only [zw_nm, nI_1]
      rw [pq_mu, pq_b21_s]
      exact ih N' (j + 1) (by omega) (by omega)
  have h0 : h = zw_upR h 29 (pq_b21 nI (h.1 29) 0) := by
    refine pq_hext (fun a b => ?_) rfl
    rw [pq_upR_at]
    by_cases q : a = 29
    · subst q; rw [if_pos rfl]; rfl
    · rw [if_neg q]
  have := key 5 600 0 (by omega) (by omega)
  rw [← h0, nI_0] at this
  exact this
theorem pq_lineC {n m B : Nat} {h : zw_Hp} (hI : pq_I n m B h) (x1 x2 : Int32) : ∃ h1, M_X8_line x1 x2 h = some (pq_lineV h n x1 x2, h1) ∧ pq_eq h h1 := by
  unfold M_X8_line pq_lineV
  rcases pq_rng x1 (a := 1) (b := 20) (by decide) (by decide) with ⟨a1, a2⟩ | ⟨j, a1, a2, a3, a4⟩
  · have a1' : ¬ (1 ≤ x1 ∧ x1 ≤ 20) := a1
    have a2' : x1 < 1 ∨ 20 < x1 := a2
    refine ⟨h, ?_, pq_eq_rf h⟩
    rw [if_neg a1']
    by_cases q : x1 < 1
    · rw [if_pos q]
    · rw [if_neg q, if_pos (a2'.resolve_left q)]
  · have a4' : 1 ≤ x1 ∧ x1 ≤ 20 := a4
    have q1 : ¬ x1 < 1 := Int32.not_lt.mpr a4'.1
    have q2 : ¬ 20 < x1 := Int32.not_lt.mpr a4'.2
    rw [if_neg q1, if_neg q2, if_pos a4', pq_01]
    simp only [Option.bind_some]
    by_cases b1 : 0 ≤ x2 ∧ x2 ≤ 1
    · simp only [if_pos b1, if_neg pq_10]
      have hn := hI.1.2.1
      have hnf := pq_nf_lt n
      rw [a3, nI_clamp (by omega), pq_ord0, hI.1.1, pq_fact5 hn]
      simp only [Option.bind_some]
      have hag : pq_ag 5 (pq_b21 nI (h.1 29) 5) (pq_rw n 0) := fun s hs => by
        rw [pq_rw_0 hn s hs]
        exact if_pos hs
      obtain ⟨c'', f', e⟩ := pq_loC hI (T := j) (by omega) (pq_nf_ n) 600 0 1 (pq_cg 14 (pq_ss (-9, 0) (zw_upR h 29 (pq_b21 nI (h.1 29) 5)))) (pq_b21 nI (h.1 29) 5) (-9, 0) (by omega) (by omega) (fun _ => ⟨rfl, hag⟩)
      rw [pq_cp_cg, nI_0] at e
      rw [L_X4_tryOrders_51, e]
      simp only [Option.bind_some]
      rw [pq_cp_off _ _ (by omega), (pq_ss_4 _ _).1, (pq_ss_4 _ _).2]
      refine ⟨pq_cp 14 c'' (pq_ss (pq_lo (pq_lF h n j) (pq_lG n) (pq_nf_ n) 0 (-9, 0)) (zw_upR h 29 f')), ?_, pq_eq_tr (pq_eq_upR h f' pq_rl_29) (pq_eq_tr (pq_eq_ss _ _) (pq_eq_cp _ c''))⟩
      by_cases x0 : x2 = 0
      · rw [if_pos x0, if_pos x0]
      · rw [if_neg x0, if_neg x0]
    · exact ⟨h, by simp [b1], pq_eq_rf h⟩
