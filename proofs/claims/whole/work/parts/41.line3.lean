/-! the best line of the model -/
theorem pq_upR_cm (h : zw_Hp) {i j : Nat} (hij : i ≠ j) (f g : pq_Pg) : zw_upR (zw_upR h i f) j g = zw_upR (zw_upR h j g) i f := by
  refine pq_hext (fun a b => ?_) rfl
  rw [pq_upR_at, pq_upR_at, pq_upR_at, pq_upR_at]
  by_cases q : a = i
  · subst q; rw [if_neg hij, if_pos rfl, if_pos rfl]
  · by_cases z : a = j
    · subst z; rw [if_pos rfl, if_neg q, if_pos rfl]
    · rw [if_neg z, if_neg q, if_neg q, if_neg z]
theorem pq_lcp {n : Nat} (hn : n ≤ 5) (k67 : (Int32 × Int32 × Int32 × zw_Hp) → Option (Int32 × zw_Hp)) (x1 x2 : Int32) {H : zw_Hp} {f : pq_Pg} (h6 : H.1 31 6 = nI n) (h47 : H.1 47 = f) (g0 : pq_Pg) : ∀ (d N s : Nat), s + d = n → d < N →
    zw_it (fun (k78 : (Int32 × Int32 × Int32 × zw_Hp) → Option (Int32 × zw_Hp)) (w : Int32 × Int32 × Int32 × zw_Hp) => B_X9_line_78 k67 k78 (w.1) (w.2.1) (w.2.2.1) (w.2.2.2)) N (x1, x2, nI s, zw_upR H 38 (pq_b21 f g0 s)) = ((M_X9_goBeats x1 31 (zw_upR H 38 (pq_b21 f g0 n))).bind (fun z24 => if zw_ok 19 21 = true then (if (z24.1 38 (19 : Int32).toNatClampNeg) ≤ (z24.1 31 29) then (B_X9_line_147 k67 x1 x2 z24) else (if zw_ok 19 21 = true then ((M_X9_lineFigures (zw_up z24 31 29 (z24.1 38 (19 : Int32).toNatClampNeg))).bind (fun z31 => B_X9_line_147 k67 x1 x2 (zw_up (zw_up z24 31 29 (z24.1 38 (19 : Int32).toNatClampNeg)) 31 30 z31))) else none)) else none)) := by
  intro d
  induction d with
  | zero =>
    intro N s hs hN
    obtain ⟨N', rfl⟩ : ∃ N', N = N' + 1 := ⟨N - 1, by omega⟩
    rw [pq_it_s]
    simp only []
    rw [B_X9_line_78, pq_mo (Or.inr rfl) H _ (by decide), h6, show s = n by omega, if_pos (Int32.le_refl _)]
    simp only [zw_nm]
  | succ d ih =>
    intro N s hs hN
    obtain ⟨N', rfl⟩ : ∃ N', N = N' + 1 := ⟨N - 1, by omega⟩
    have ih' := ih N' (s + 1) (by omega) (by omega)
    rw [pq_it_s]
    simp only []
    rw [B_X9_line_78, pq_mo (Or.inr rfl) H _ (by decide), h6, if_neg (nI_ge (by omega) (by omega)), if_pos (pq_ok_nI (by omega) (by decide)), if_pos (pq_ok_nI (by omega) (by decide)), nI_clamp (by omega), pq_upR_off H _ (show (47 : Nat) ≠ 38 by decide), h47]
    simp only [zw_nm, nI_1]
    rw [pq_mu, pq_b21_s]
    exact ih'
theorem pq_ms_R (st : Int32 × Int32) (h : zw_Hp) {i : Nat} (hi : i ≠ 31) (f : pq_Pg) : zw_up (zw_up (zw_upR h i f) 31 29 st.1) 31 30 st.2 = zw_upR (pq_ms st h) i f := by
  rw [pq_up_upR _ (fun e => hi e.symm), pq_up_upR _ (fun e => hi e.symm)]
  rfl
theorem pq_loM {n m B : Nat} (hB : B < 2 ^ 29) {h : zw_Hp} (hI : pq_I n m B h) {T : Nat} (hT : T < 600) (y : Int32) : ∀ (d N k : Nat) (more : Int32) (f g : pq_Pg) (st : Int32 × Int32), k + d = pq_nf_ n → d < N → (d = 0 → more = 0) → (0 < d → more = 1 ∧ pq_ag n f (pq_rw n k)) →
    ∃ f' g', zw_it (fun (k67 : (Int32 × Int32 × Int32 × zw_Hp) → Option (Int32 × zw_Hp)) (w : Int32 × Int32 × Int32 × zw_Hp) => B_X9_line_67 k67 (w.1) (w.2.1) (w.2.2.1) (w.2.2.2)) N (nI T, y, more, zw_upR (zw_upR (pq_ms st h) 47 f) 38 g) = some (if y = 0 then (pq_lo (pq_lF h n T) (pq_lG n) d k st).1 else (pq_lo (pq_lF h n T) (pq_lG n) d k st).2, zw_upR (zw_upR (pq_ms (pq_lo (pq_lF h n T) (pq_lG n) d k st) h) 47 f') 38 g') := by
  obtain ⟨p1, hn, hm, hZ, hg, p6⟩ := hI.1
  obtain ⟨n1, n2, n3, n4⟩ := hI.now
  have hnf := pq_nf_lt n
  intro d
  induction d with
  | zero =>
    intro N k more f g st hk hN h0 _
    obtain ⟨N', rfl⟩ : ∃ N', N = N' + 1 := ⟨N - 1, by omega⟩
    refine ⟨f, g, ?_⟩
    rw [pq_it_s]
    simp only []
    rw [B_X9_line_67, if_pos (h0 rfl), pq_upR_off _ g (show (31 : Nat) ≠ 38 by decide), pq_upR_off _ f (show (31 : Nat) ≠ 47 by decide), (pq_ms_4 st h).1, (pq_ms_4 st h).2]
    by_cases q : y = 0
    · rw [if_pos q, if_pos q]; rfl
    · rw [if_neg q, if_neg q]; rfl
  | succ d ih =>
    intro N k more f g st hk hN _ hmf
    obtain ⟨N', rfl⟩ : ∃ N', N = N' + 1 := ⟨N - 1, by omega⟩
    obtain ⟨hmore, hag⟩ := hmf (by omega)
    subst hmore
    have eM : pq_eq h (pq_ms st h) := pq_eq_ms st h
    have eH : pq_eq h (zw_upR (pq_ms st h) 47 f) := pq_eq_tr eM (pq_eq_upR _ f (fun k => pq_rl_45 k (by omega)))
    have hC := pq_C_of eH hI.2.2.1
    have e37 : (zw_upR (pq_ms st h) 47 f).1 37 = h.1 37 := pq_eq_row eH (fun k => pq_rl_t k (by omega) (by omega) (by omega) (by omega))
    have hW := pq_Wb_ow hn n1 (show k < pq_nf_ n by omega)
    have hR : pq_R 4 (h.1 6 7) n m (pq_ow (pq_cg 9 h) (pq_rw n k)) (pq_b21 f (pq_b21 (h.1 37) g 21) n) := by
      obtain ⟨r1, r2, r3⟩ := pq_R_b21 (g := g) hn hm n3
      have e : ∀ i, 5 ≤ i → pq_b21 f (pq_b21 (h.1 37) g 21) n i = pq_b21 (h.1 37) g 21 i := fun i hi => if_neg (by omega)
      refine ⟨fun s hs => ?_, fun b hb => ⟨fun q => by omega, fun q => ?_⟩, fun i i1 i2 => ?_⟩
      · have e1 : pq_b21 f (pq_b21 (h.1 37) g 21) n s = f s := if_pos hs
        have e2 : pq_ow (pq_cg 9 h) (pq_rw n k) s = pq_rw n k s := if_pos (by omega)
        rw [e1, e2]; exact hag s hs
      · rw [e _ (by omega), e _ (by omega), e _ (by omega), pq_ow_hi (by omega), pq_ow_hi (by omega), pq_ow_hi (by omega)]; exact (r2 b hb).2 q
      · rw [e _ (by omega), pq_ow_hi (by omega)]; exact r3 i i1 i2
    obtain ⟨g1, e1, R1⟩ := pq_goBeats hn hm hZ hg _ hC hT hB hW hR (sm := 31) (by rw [pq_ow_hi (by omega), n4]; exact pq_msk0 n hn)
    have e19 : g1 19 = pq_lF h n T k := R1.2.2 19 (by omega) (by omega)
    rw [pq_it_s]
    simp only []
    rw [B_X9_line_67, if_neg pq_10, pq_mbegin2, e37]
    simp only [Option.bind_some]
    have ec := pq_lcp hn (zw_it (fun (k67 : (Int32 × Int32 × Int32 × zw_Hp) → Option (Int32 × zw_Hp)) (w : Int32 × Int32 × Int32 × zw_Hp) => B_X9_line_67 k67 (w.1) (w.2.1) (w.2.2.1) (w.2.2.2)) N') (nI T) y hC.1 (pq_mp _ f) (pq_b21 (h.1 37) g 21) n 600 0 (by omega) (by omega)
    have z0 : pq_b21 f (pq_b21 (h.1 37) g 21) 0 = pq_b21 (h.1 37) g 21 := funext fun i => if_neg (by omega)
    rw [z0, nI_0] at ec
    rw [L_X9_line_78, ec, e1]
    simp only [Option.bind_some]
    rw [if_pos (show zw_ok (19 : Int32) 21 = true by decide), if_pos (show zw_ok (19 : Int32) 21 = true by decide), show (19 : Int32).toNatClampNeg = 19 from rfl, pq_mp, e19, pq_upR_off _ g1 (show (31 : Nat) ≠ 38 by decide), pq_upR_off _ f (show (31 : Nat) ≠ 47 by decide), (pq_ms_4 st h).1]
    have efg : pq_fg f n 0 0 = pq_lG n k := pq_fg_ag (n := n) hag n 0 0 (by omega)
    have fin : ∀ st', pq_pf (pq_lF h n T k) (pq_lG n k) st = st' → ∃ f' g', B_X9_line_147 (zw_it (fun (k67 : (Int32 × Int32 × Int32 × zw_Hp) → Option (Int32 × zw_Hp)) (w : Int32 × Int32 × Int32 × zw_Hp) => B_X9_line_67 k67 (w.1) (w.2.1) (w.2.2.1) (w.2.2.2)) N') (nI T) y (zw_upR (zw_upR (pq_ms st' h) 47 f) 38 g1) = some (if y = 0 then (pq_lo (pq_lF h n T) (pq_lG n) (d + 1) k st).1 else (pq_lo (pq_lF h n T) (pq_lG n) (d + 1) k st).2, zw_upR (zw_upR (pq_ms (pq_lo (pq_lF h n T) (pq_lG n) (d + 1) k st) h) 47 f') 38 g') := by
      intro st' hst
      simp only [pq_lo]
      rw [hst]
      unfold B_X9_line_147
      have h6 : (zw_upR (pq_ms st' h) 38 g1).1 31 6 = nI n := by
        rw [pq_upR_off _ g1 (show (31 : Nat) ≠ 38 by decide)]
        exact (pq_C_of (pq_eq_ms st' h) hI.2.2.1).1
      rw [pq_upR_cm _ (show (47 : Nat) ≠ 38 by decide), pq_mnext hn _ f h6]
      rcases pq_nxt_T hn (show k < pq_nf_ n by omega) with ⟨t1, t2⟩ | ⟨gg, t1, t2, t3⟩
      · rcases pq_nxt_ag2 (Nat.le_refl n) hag with ⟨a1, a2⟩ | ⟨f', g', a1, a2, a3⟩
        · rw [a1]
          simp only [Option.bind_some, zw_nm]
          rw [pq_upR_cm _ (show (38 : Nat) ≠ 47 by decide)]
          exact ih N' (k + 1) 0 f g1 st' (by omega) (by omega) (fun _ => rfl) (fun z => by omega)
        · rw [t1] at a2; cases a2
      · rcases pq_nxt_ag2 (Nat.le_refl n) hag with ⟨a1, a2⟩ | ⟨f', g', a1, a2, a3⟩
        · rw [t1] at a2; cases a2
        · rw [t1] at a2
          cases a2
          rw [a1]
          simp only [Option.bind_some, zw_nm]
          rw [pq_upR_cm _ (show (38 : Nat) ≠ 47 by decide)]
          exact ih N' (k + 1) 1 f' g1 st' (by omega) (by omega) (fun z => by omega) (fun z => ⟨rfl, fun s hs => (a3 s hs).trans (t3 s (by omega))⟩)
    by_cases q : pq_lF h n T k ≤ st.1
    · rw [if_pos q]
      exact fin st (if_pos q)
    · rw [if_neg q]
      have h6' : ∀ v, (zw_up (zw_upR (zw_upR (pq_ms st h) 47 f) 38 g1) 31 29 v).1 31 6 = nI n := fun v => by
        rw [pq_up_at, if_neg (by decide), pq_upR_off _ g1 (show (31 : Nat) ≠ 38 by decide)]; exact hC.1
      have h47' : ∀ v, (zw_up (zw_upR (zw_upR (pq_ms st h) 47 f) 38 g1) 31 29 v).1 47 = f := fun v => by
        rw [pq_up_off _ (by decide), pq_upR_off _ g1 (show (47 : Nat) ≠ 38 by decide), pq_mp]
      rw [pq_mfigs hn _ (h6' _), h47', efg]
      simp only [Option.bind_some]
      have es : zw_up (zw_up (zw_upR (zw_upR (pq_ms st h) 47 f) 38 g1) 31 29 (pq_lF h n T k)) 31 30 (pq_lG n k) = zw_upR (zw_upR (pq_ms (pq_lF h n T k, pq_lG n k) h) 47 f) 38 g1 := by
        rw [pq_up_upR _ (by decide), pq_up_upR _ (by decide), pq_up_upR _ (by decide), pq_up_upR _ (by decide)]
        have := pq_ms_ms st (pq_lF h n T k, pq_lG n k) h
        simp only at this
        rw [this]
      rw [es]
      exact fin _ (if_neg q)
theorem pq_lin0 {n : Nat} (hn : n ≤ 5) (x1 x2 : Int32) (h : zw_Hp) (h6 : h.1 31 6 = nI n) : L_X9_line_32 (x1, x2, 0, h) = L_X9_line_67 (x1, x2, 1, zw_upR (zw_upR (pq_ms (-9, -9) h) 47 (pq_b21 nI (h.1 47) n)) 38 (h.1 38)) := by
  unfold L_X9_line_32
  have key : ∀ (d N j : Nat), j + d = n → d < N → zw_it (fun (k32 : (Int32 × Int32 × Int32 × zw_Hp) → Option (Int32 × zw_Hp)) (w : Int32 × Int32 × Int32 × zw_Hp) => B_X9_line_32 k32 (w.1) (w.2.1) (w.2.2.1) (w.2.2.2)) N (x1, x2, nI j, zw_upR h 47 (pq_b21 nI (h.1 47) j)) = L_X9_line_67 (x1, x2, 1, zw_upR (zw_upR (pq_ms (-9, -9) h) 47 (pq_b21 nI (h.1 47) n)) 38 (h.1 38)) := by
    intro d
    induction d with
    | zero =>
      intro N j hj hN
      obtain ⟨N', rfl⟩ : ∃ N', N = N' + 1 := ⟨N - 1, by omega⟩
      rw [pq_it_s]
      simp only []
      rw [B_X9_line_32, pq_upR_off _ _ (show (31 : Nat) ≠ 47 by decide), h6, show j = n by omega, if_pos (Int32.le_refl _)]
      simp only [zw_nm]
      have e1 := pq_ms_R (-9, -9) h (show (47 : Nat) ≠ 31 by decide) (pq_b21 nI (h.1 47) n)
      simp only at e1
      rw [e1]
      have e2 : zw_upR (zw_upR (pq_ms (-9, -9) h) 47 (pq_b21 nI (h.1 47) n)) 38 (h.1 38) = zw_upR (pq_ms (-9, -9) h) 47 (pq_b21 nI (h.1 47) n) := by
        have := pq_upR_id (zw_upR (pq_ms (-9, -9) h) 47 (pq_b21 nI (h.1 47) n)) 38
        rw [pq_upR_off _ _ (show (38 : Nat) ≠ 47 by decide), pq_ms_off _ _ (show (38 : Nat) ≠ 31 by decide)] at this
        exact this
      rw [e2]
    | succ d ih =>
      intro N j hj hN
      obtain ⟨N', rfl⟩ : ∃ N', N = N' + 1 := ⟨N - 1, by omega⟩
      rw [pq_it_s]
      simp only []
      rw [B_X9_line_32, pq_upR_off _ _ (show (31 : Nat) ≠ 47 by decide), h6, if_neg (nI_ge (by omega) (by omega)), if_pos (pq_ok_nI (by omega) (by decide)), nI_clamp (by omega)]
      simp only [zw_nm, nI_1]
      rw [pq_mu, pq_b21_s]
      exact ih N' (j + 1) (by omega) (by omega)
  have h0 : h = zw_upR h 47 (pq_b21 nI (h.1 47) 0) := by
    refine pq_hext (fun a b => ?_) rfl
    rw [pq_upR_at]
    by_cases q : a = 47
    · subst q; rw [if_pos rfl]; rfl
    · rw [if_neg q]
  have := key n 600 0 (by omega) (by omega)
  rw [← h0, nI_0] at this
  exact this
theorem pq_lineM {n m B : Nat} (hB : B < 2 ^ 26) {h : zw_Hp} (hI : pq_I n m B h) (x1 x2 : Int32) : ∃ h1, M_X9_line x1 x2 h = some (pq_lineV h n x1 x2, h1) ∧ pq_eq h h1 := by
  have e0 : pq_eq h (zw_up h 31 0 0) := pq_eq_up h 0 (by decide)
  rw [← pq_lineV_eq e0]
  have hI := pq_I_eq hI e0
  unfold M_X9_line pq_lineV
  simp only [zw_nm]
  generalize zw_up h 31 0 0 = H at e0 hI ⊢
  have i1 : M_X9_in x1.toInt64 1 20 H = some (if 1 ≤ x1 ∧ x1 ≤ 20 then 1 else 0) := pq_in x1 1 20 H
  have i2 : M_X9_in x2.toInt64 0 1 H = some (if 0 ≤ x2 ∧ x2 ≤ 1 then 1 else 0) := pq_in x2 0 1 H
  rw [i1, i2]
  simp only [Option.bind_some]
  rcases pq_rng x1 (a := 1) (b := 20) (by decide) (by decide) with ⟨a1, a2⟩ | ⟨j, a1, a2, a3, a4⟩
  · have a1' : ¬ (1 ≤ x1 ∧ x1 ≤ 20) := a1
    exact ⟨_, by rw [if_neg a1', if_neg a1', if_pos rfl], e0⟩
  · have a4' : 1 ≤ x1 ∧ x1 ≤ 20 := a4
    rw [if_pos a4', if_pos a4', if_neg pq_10]
    by_cases b1 : 0 ≤ x2 ∧ x2 ≤ 1
    · have hn := hI.1.2.1
      have hnf := pq_nf_lt n
      rw [if_pos b1, if_pos b1, if_neg pq_10, a3, nI_clamp (by omega), pq_lin0 hn _ _ _ hI.2.2.1.1, pq_lo_first (by omega) hI 0 (-9)]
      have hag : pq_ag n (pq_b21 nI (H.1 47) n) (pq_rw n 0) := fun s hs => by
        rw [pq_rw_0 hn s (by omega)]
        exact if_pos hs
      obtain ⟨f', g', e⟩ := pq_loM (by omega) hI (T := j) (by omega) x2 (pq_nf_ n) 600 0 1 (pq_b21 nI (H.1 47) n) (H.1 38) (-9, -9) (by omega) (by omega) (fun z => by omega) (fun _ => ⟨rfl, hag⟩)
      rw [L_X9_line_67, e]
      exact ⟨_, rfl, pq_eq_tr e0 (pq_eq_tr (pq_eq_tr (pq_eq_ms _ H) (pq_eq_upR _ f' (fun k => pq_rl_45 k (by omega)))) (pq_eq_upR _ g' pq_rl_38))⟩
    · exact ⟨_, by rw [if_neg b1, if_neg b1, if_pos rfl], e0⟩
