/-! rests of the model -/
def pq_gn (y : Nat → Int32) (h : zw_Hp) : Nat → zw_Hp
  | 0 => h
  | k + 1 => zw_up (zw_up (pq_gn y h k) 45 (2 * k) (y k - nI (6 * (k / 2)))) 45 (2 * k + 1) (y k - nI (6 * (k % 2)))
theorem pq_eq_gn (y : Nat → Int32) (h : zw_Hp) : ∀ k, pq_eq h (pq_gn y h k) := by
  intro k
  induction k with
  | zero => exact pq_eq_rf h
  | succ k ih => exact pq_eq_tr (pq_eq_tr ih (pq_eq_up _ _ (pq_rl_45 _ (by omega)))) (pq_eq_up _ _ (pq_rl_45 _ (by omega)))
theorem pq_rsS {n m B : Nat} (hB : B < 2 ^ 29) {h : zw_Hp} (hI : pq_I n m B h) {a b k : Nat} (ha : a < n) (hb : b < n) (hk : k < 4) (x3 : Int32) (k44 : (Int32 × Int32 × Int32 × Int32 × zw_Hp) → Option (Int32 × zw_Hp)) {H : zw_Hp} (eH : pq_eq h H) (g : pq_Pg) :
    ∃ g', B_X9_rests_44 k44 (nI a) (nI b) x3 (nI k) (zw_upR H 38 g) = k44 (nI a, nI b, x3, nI (k + 1), zw_upR (zw_up (zw_up H 45 (2 * k) (pq_ry h n a b k - nI (6 * (k / 2)))) 45 (2 * k + 1) (pq_ry h n a b k - nI (6 * (k % 2)))) 38 g') := by
  obtain ⟨p1, hn, hm, hZ, hg, p6⟩ := hI.1
  obtain ⟨n1, n2, n3, n4⟩ := hI.now
  have hC := pq_C_of eH hI.2.2.1
  have e37 : H.1 37 = h.1 37 := pq_eq_row eH (fun k => pq_rl_t k (by omega) (by omega) (by omega) (by omega))
  obtain ⟨g1, e1, R1⟩ := pq_goBeats hn hm hZ hg H hC (T := 8) (by omega) hB (pq_Wb_21 n1 (pq_mk a b k)) (pq_R_21 hn hm (pq_R_b21 (g := g) hn hm n3) (pq_mk a b k)) (sm := pq_sk a b k) (by rw [pq_upd_eq]; exact pq_msk_k hn (by omega) (by omega) hk)
  refine ⟨g1, ?_⟩
  have e1' : M_X9_goBeats 8 (pq_sk a b k) (zw_upR H 38 (pq_b21 (h.1 37) g 21)) = some (zw_upR H 38 g1) := e1
  have hrem : nI k - nI k / 2 * 2 = nI (k % 2) := pk_rem (a := k) (d := 2) (by omega) (by decide) (by decide)
  have hdiv : nI k / 2 = nI (k / 2) := pk_div (a := k) (d := 2) (by omega) (by decide) (by decide)
  rw [hdiv] at hrem
  have m2 : (2 : Int32) * nI k = nI (2 * k) := pk_mul 2 k
  have m6 : ∀ x, (6 : Int32) * nI x = nI (6 * x) := fun x => pk_mul 6 x
  have fin : ∀ v s2, v = pq_sk a b k → s2 = 8 → ((M_X9_goBeats s2 v (zw_upR H 38 (pq_b21 (h.1 37) g 21))).bind fun z22 => if zw_ok 19 21 = true then (if zw_ok 19 21 = true then (if zw_ok (nI (2 * k)) 8 = true then (if zw_ok (nI (2 * k + 1)) 8 = true then k44 (nI a, nI b, x3, nI (k + 1), zw_up (zw_up z22 45 (nI (2 * k)).toNatClampNeg (z22.1 38 (19 : Int32).toNatClampNeg - z22.1 37 (19 : Int32).toNatClampNeg - nI (6 * (k / 2)))) 45 (nI (2 * k + 1)).toNatClampNeg (z22.1 38 (19 : Int32).toNatClampNeg - z22.1 37 (19 : Int32).toNatClampNeg - nI (6 * (k % 2)))) else none) else none) else none) else none) = k44 (nI a, nI b, x3, nI (k + 1), zw_upR (zw_up (zw_up H 45 (2 * k) (pq_ry h n a b k - nI (6 * (k / 2)))) 45 (2 * k + 1) (pq_ry h n a b k - nI (6 * (k % 2)))) 38 g1) := by
    intro v s2 hv h8
    subst hv
    subst h8
    rw [e1']
    simp only [Option.bind_some]
    rw [if_pos (show zw_ok (19 : Int32) 21 = true by decide), if_pos (show zw_ok (19 : Int32) 21 = true by decide), if_pos (pq_ok_nI (by omega) (by decide)), if_pos (pq_ok_nI (by omega) (by decide)), nI_clamp (by omega), nI_clamp (by omega), show (19 : Int32).toNatClampNeg = 19 from rfl, pq_mp, pq_upR_off H g1 (show (37 : Nat) ≠ 38 by decide), e37, R1.2.2 19 (by omega) (by omega), n3.2.2 19 (by omega) (by omega), pq_up_upR _ (by decide), pq_up_upR _ (by decide)]
    rfl
  rw [B_X9_rests_44, if_neg (show ¬ (4 : Int32) ≤ nI k from nI_ge (a := k) (b := 4) hk (by decide)), pq_mbegin2, e37]
  simp only [Option.bind_some, B_X9_rests_72, B_X9_rests_90, zw_nm, nI_1, hrem, hdiv, m2, m6]
  rcases (show k = 0 ∨ k = 1 ∨ k = 2 ∨ k = 3 by omega) with rfl | rfl | rfl | rfl
  · rw [if_pos (show nI 0 ≤ 1 by decide), if_neg (show ¬ nI (0 % 2) = 1 by decide)]
    exact fin _ 8 rfl rfl
  · rw [if_pos (show nI 1 ≤ 1 by decide), if_pos (show nI (1 % 2) = 1 by decide)]
    exact fin _ 8 rfl rfl
  · rw [if_neg (show ¬ nI 2 ≤ 1 by decide), if_neg (show ¬ nI (2 % 2) = 1 by decide)]
    exact fin _ 8 rfl rfl
  · rw [if_neg (show ¬ nI 3 ≤ 1 by decide), if_pos (show nI (3 % 2) = 1 by decide)]
    exact fin _ 8 rfl rfl
def pq_hg (y : Nat → Int32) (H : zw_Hp) : Prop := H.1 45 0 = y 0 ∧ H.1 45 1 = y 0 ∧ H.1 45 2 = y 1 ∧ H.1 45 3 = y 1 - 6 ∧ H.1 45 4 = y 2 - 6 ∧ H.1 45 5 = y 2 ∧ H.1 45 6 = y 3 - 6 ∧ H.1 45 7 = y 3 - 6
theorem pq_hg_gn (y : Nat → Int32) (h : zw_Hp) : pq_hg y (pq_gn y h 4) := by
  have z : ∀ x : Int32, x - nI 0 = x := fun x => Int32.sub_zero x
  unfold pq_hg
  simp only [pq_gn, pq_up_at]
  refine ⟨?_, ?_, ?_, ?_, ?_, ?_, ?_, ?_⟩ <;> simp <;> first | exact z _ | rfl
def pq_rL (k : Nat) : Int32 := nI (10 * (k / 2) + k % 2)
def pq_mg (P : Nat → Bool) (L : Nat → Int32) : Nat → Nat → Int32 → Int32 → Int32 × Int32
  | 0, _, s, f => (s, f)
  | d + 1, k, s, f => pq_mg P L d (k + 1) (s + if P k = true then 1 else 0) (if P k = true ∧ s = 0 then L k else f)
theorem pq_mg_4 (p : Nat → Bool) : pq_mg p pq_rL 4 0 0 (-9) = (nI (pq_rc p), pq_rf p) := by
  simp only [pq_mg]
  unfold pq_rc pq_rf
  rw [show 0 + 1 = 1 from rfl, show 1 + 1 = 2 from rfl, show 2 + 1 = 3 from rfl]
  generalize p 0 = b0
  generalize p 1 = b1
  generalize p 2 = b2
  generalize p 3 = b3
  revert b0 b1 b2 b3
  decide +kernel
theorem pq_rsT {y : Nat → Int32} {H : zw_Hp} (hG : pq_hg y H) (k173 : (Int32 × Int32 × zw_Hp) → Option (Int32 × zw_Hp)) (x3 : Int32) {k : Nat} (hk : k < 4) :
    B_X9_rests_173 k173 x3 (nI k) H = k173 (x3, nI (k + 1), zw_up (zw_up H 31 34 (if pq_rp y k = true ∧ H.1 31 33 = 0 then pq_rL k else H.1 31 34)) 31 33 (H.1 31 33 + if pq_rp y k = true then 1 else 0)) := by
  obtain ⟨g0, g1, g2, g3, g4, g5, g6, g7⟩ := hG
  have u33 : ∀ v, (zw_up H 31 34 v).1 31 33 = H.1 31 33 := fun v => by rw [pq_up_at, if_neg (by decide)]
  have key : ∀ (A B : Prop) [Decidable A] [Decidable B] (p : Bool), p = decide (¬ A ∧ ¬ B) → (if A then B_X9_rests_233 k173 x3 (nI k) H else if B then B_X9_rests_233 k173 x3 (nI k) H else B_X9_rests_234 k173 x3 (nI k) 1 H) = k173 (x3, nI (k + 1), zw_up (zw_up H 31 34 (if p = true ∧ H.1 31 33 = 0 then pq_rL k else H.1 31 34)) 31 33 (H.1 31 33 + if p = true then 1 else 0)) := by
    intro A B _ _ p hp
    have e2 : (10 : Int32) * (nI k / 2) + (nI k - nI k / 2 * 2) = pq_rL k := by
      have h1 : nI k / 2 = nI (k / 2) := pk_div (a := k) (d := 2) (by omega) (by decide) (by decide)
      have h2 : nI k - nI k / 2 * 2 = nI (k % 2) := pk_rem (a := k) (d := 2) (by omega) (by decide) (by decide)
      have h3 : (10 : Int32) * nI (k / 2) = nI (10 * (k / 2)) := pk_mul 10 (k / 2)
      rw [h2, h1, h3, nI_add]
      rfl
    simp only [B_X9_rests_233, B_X9_rests_234, B_X9_rests_264, B_X9_rests_268, B_X9_rests_286, zw_nm, nI_1, u33, e2]
    by_cases qA : A
    · have : p = false := by rw [hp]; simp [qA]
      subst this
      rw [if_pos qA]
      simp
    · by_cases qB : B
      · have : p = false := by rw [hp]; simp [qB]
        subst this
        rw [if_neg qA, if_pos qB]
        simp
      · have : p = true := by rw [hp]; simp [qA, qB]
        subst this
        rw [if_neg qA, if_neg qB]
        by_cases q0 : H.1 31 33 = 0
        · simp [q0]
        · simp [q0]
  unfold B_X9_rests_173
  rw [if_neg (show ¬ (4 : Int32) ≤ nI k from nI_ge (a := k) (b := 4) hk (by decide))]
  rcases (show k = 0 ∨ k = 1 ∨ k = 2 ∨ k = 3 by omega) with rfl | rfl | rfl | rfl
  · rw [if_pos (show zw_ok (2 * (nI 0 ^^^ 2)) 8 = true by decide), if_pos (show zw_ok (2 * nI 0) 8 = true by decide), if_pos (show zw_ok (2 * (nI 0 ^^^ 1) + 1) 8 = true by decide), if_pos (show zw_ok (2 * nI 0 + 1) 8 = true by decide), show (2 * nI 0).toNatClampNeg = 0 from rfl, show (2 * (nI 0 ^^^ 2)).toNatClampNeg = 4 from rfl, show (2 * nI 0 + 1).toNatClampNeg = 1 from rfl, show (2 * (nI 0 ^^^ 1) + 1).toNatClampNeg = 3 from rfl, g0, g4, g1, g3]
    exact key _ _ _ rfl
  · rw [if_pos (show zw_ok (2 * (nI 1 ^^^ 2)) 8 = true by decide), if_pos (show zw_ok (2 * nI 1) 8 = true by decide), if_pos (show zw_ok (2 * (nI 1 ^^^ 1) + 1) 8 = true by decide), if_pos (show zw_ok (2 * nI 1 + 1) 8 = true by decide), show (2 * nI 1).toNatClampNeg = 2 from rfl, show (2 * (nI 1 ^^^ 2)).toNatClampNeg = 6 from rfl, show (2 * nI 1 + 1).toNatClampNeg = 3 from rfl, show (2 * (nI 1 ^^^ 1) + 1).toNatClampNeg = 1 from rfl, g2, g6, g3, g1]
    exact key _ _ _ rfl
  · rw [if_pos (show zw_ok (2 * (nI 2 ^^^ 2)) 8 = true by decide), if_pos (show zw_ok (2 * nI 2) 8 = true by decide), if_pos (show zw_ok (2 * (nI 2 ^^^ 1) + 1) 8 = true by decide), if_pos (show zw_ok (2 * nI 2 + 1) 8 = true by decide), show (2 * nI 2).toNatClampNeg = 4 from rfl, show (2 * (nI 2 ^^^ 2)).toNatClampNeg = 0 from rfl, show (2 * nI 2 + 1).toNatClampNeg = 5 from rfl, show (2 * (nI 2 ^^^ 1) + 1).toNatClampNeg = 7 from rfl, g4, g0, g5, g7]
    exact key _ _ _ rfl
  · rw [if_pos (show zw_ok (2 * (nI 3 ^^^ 2)) 8 = true by decide), if_pos (show zw_ok (2 * nI 3) 8 = true by decide), if_pos (show zw_ok (2 * (nI 3 ^^^ 1) + 1) 8 = true by decide), if_pos (show zw_ok (2 * nI 3 + 1) 8 = true by decide), show (2 * nI 3).toNatClampNeg = 6 from rfl, show (2 * (nI 3 ^^^ 2)).toNatClampNeg = 2 from rfl, show (2 * nI 3 + 1).toNatClampNeg = 7 from rfl, show (2 * (nI 3 ^^^ 1) + 1).toNatClampNeg = 5 from rfl, g6, g2, g7, g5]
    exact key _ _ _ rfl
def pq_rs (st : Int32 × Int32) (h : zw_Hp) : zw_Hp := zw_up (zw_up h 31 34 st.2) 31 33 st.1
theorem pq_rs_off (st : Int32 × Int32) (h : zw_Hp) {i k : Nat} (hi : ¬ (i = 31 ∧ (k = 33 ∨ k = 34))) : (pq_rs st h).1 i k = h.1 i k := by
  unfold pq_rs
  rw [pq_up_at, if_neg (fun q => hi ⟨q.1, Or.inl q.2⟩), pq_up_at, if_neg (fun q => hi ⟨q.1, Or.inr q.2⟩)]
theorem pq_rs_at (st : Int32 × Int32) (h : zw_Hp) : (pq_rs st h).1 31 33 = st.1 ∧ (pq_rs st h).1 31 34 = st.2 := by
  unfold pq_rs
  simp [pq_up_at]
theorem pq_rs_rs (st st' : Int32 × Int32) (h : zw_Hp) : zw_up (zw_up (pq_rs st h) 31 34 st'.2) 31 33 st'.1 = pq_rs st' h := by
  refine pq_hext (fun a b => ?_) rfl
  unfold pq_rs
  simp only [pq_up_at]
  by_cases h1 : a = 31 ∧ b = 33
  · simp [h1]
  · by_cases h2 : a = 31 ∧ b = 34
    · simp [h2]
    · simp [h1, h2]
theorem pq_eq_rs (st : Int32 × Int32) (h : zw_Hp) : pq_eq h (pq_rs st h) := pq_eq_tr (pq_eq_up h _ (by decide)) (pq_eq_up _ _ (by decide))
theorem pq_rsL {y : Nat → Int32} {H : zw_Hp} (hG : pq_hg y H) (x3 : Int32) : ∀ (d N k : Nat) (s f : Int32), k + d = 4 → d < N →
    zw_it (fun (k173 : (Int32 × Int32 × zw_Hp) → Option (Int32 × zw_Hp)) (w : Int32 × Int32 × zw_Hp) => B_X9_rests_173 k173 (w.1) (w.2.1) (w.2.2)) N (x3, nI k, pq_rs (s, f) H) = some (if x3 = 0 then (pq_mg (pq_rp y) pq_rL d k s f).1 else (pq_mg (pq_rp y) pq_rL d k s f).2, pq_rs (pq_mg (pq_rp y) pq_rL d k s f) H) := by
  intro d
  induction d with
  | zero =>
    intro N k s f hi hN
    obtain ⟨N', rfl⟩ : ∃ N', N = N' + 1 := ⟨N - 1, by omega⟩
    rw [pq_it_s]
    simp only []
    rw [B_X9_rests_173, show k = 4 by omega, if_pos (by decide), (pq_rs_at (s, f) H).1, (pq_rs_at (s, f) H).2]
    by_cases q : x3 = 0
    · rw [if_pos q, if_pos q]; rfl
    · rw [if_neg q, if_neg q]; rfl
  | succ d ih =>
    intro N k s f hi hN
    obtain ⟨N', rfl⟩ : ∃ N', N = N' + 1 := ⟨N - 1, by omega⟩
    have r : ∀ j, (pq_rs (s, f) H).1 45 j = H.1 45 j := fun j => pq_rs_off _ H (by omega)
    have hG' : pq_hg y (pq_rs (s, f) H) := by
      unfold pq_hg at hG ⊢
      simp only [r]
      exact hG
    rw [pq_it_s]
    simp only []
    rw [pq_rsT hG' _ x3 (show k < 4 by omega), (pq_rs_at (s, f) H).1, (pq_rs_at (s, f) H).2]
    have em := pq_rs_rs (s, f) (s + (if pq_rp y k = true then 1 else 0), if pq_rp y k = true ∧ s = 0 then pq_rL k else f) H
    simp only at em
    rw [em]
    exact ih N' (k + 1) _ _ (by omega) (by omega)
theorem pq_restsM {n m B : Nat} (hB : B < 2 ^ 29) {h : zw_Hp} (hI : pq_I n m B h) (x1 x2 x3 : Int32) : ∃ h1, M_X9_rests x1 x2 x3 h = some (pq_restsV h n x1 x2 x3, h1) ∧ pq_eq h h1 := by
  have e0 : pq_eq h (zw_up h 31 0 0) := pq_eq_up h 0 (by decide)
  rw [← pq_restsV_eq e0]
  have hI := pq_I_eq hI e0
  unfold M_X9_rests pq_restsV
  simp only [zw_nm]
  generalize zw_up h 31 0 0 = H at e0 hI ⊢
  have i1 : M_X9_in x3.toInt64 0 1 H = some (if 0 ≤ x3 ∧ x3 ≤ 1 then 1 else 0) := pq_in x3 0 1 H
  rw [pq_noOne hI.1.2.1 _ hI.2.2.1.1, pq_noOne hI.1.2.1 _ hI.2.2.1.1, i1]
  simp only [Option.bind_some]
  have hn := hI.1.2.1
  rcases pq_num x1 (n := n) (by omega) with ⟨a1, a2⟩ | ⟨a, a1, a3, a4⟩
  · rw [if_neg a1, if_neg pq_10, if_neg a1]
    exact ⟨_, rfl, e0⟩
  · rw [if_pos a4, if_pos rfl, if_pos a4]
    rcases pq_num x2 (n := n) (by omega) with ⟨b1, b2⟩ | ⟨b, b1, b3, b4⟩
    · rw [if_neg b1, if_neg pq_10, if_neg b1]
      exact ⟨_, rfl, e0⟩
    · rw [if_pos b4, if_pos rfl, if_pos b4]
      by_cases x12 : x1 = x2
      · rw [if_pos x12, if_pos x12]
        exact ⟨_, rfl, e0⟩
      · rw [if_neg x12, if_neg x12]
        by_cases q : 0 ≤ x3 ∧ x3 ≤ 1
        · rw [if_pos q, if_neg pq_10, if_pos q, a3, b3, nI_clamp (by omega), nI_clamp (by omega)]
          unfold L_X9_rests_44
          generalize hy : pq_ry H n a b = y
          have hH : H = zw_upR (pq_gn y H 0) 38 (H.1 38) := by
            refine pq_hext (fun i k => ?_) rfl
            rw [pq_upR_at]
            by_cases z : i = 38
            · subst z; rw [if_pos rfl]
            · rw [if_neg z]; rfl
          have key : ∀ (d N k : Nat) (g : pq_Pg), k + d = 4 → d < N → ∃ g', zw_it (fun (k44 : (Int32 × Int32 × Int32 × Int32 × zw_Hp) → Option (Int32 × zw_Hp)) (w : Int32 × Int32 × Int32 × Int32 × zw_Hp) => B_X9_rests_44 k44 (w.1) (w.2.1) (w.2.2.1) (w.2.2.2.1) (w.2.2.2.2)) N (nI a, nI b, x3, nI k, zw_upR (pq_gn y H k) 38 g) = some (if x3 = 0 then nI (pq_rc (pq_rp y)) else pq_rf (pq_rp y), pq_rs (nI (pq_rc (pq_rp y)), pq_rf (pq_rp y)) (zw_upR (pq_gn y H 4) 38 g')) := by
            intro d
            induction d with
            | zero =>
              intro N k g hk hN
              obtain ⟨N', rfl⟩ : ∃ N', N = N' + 1 := ⟨N - 1, by omega⟩
              refine ⟨g, ?_⟩
              rw [pq_it_s]
              simp only []
              rw [B_X9_rests_44, show k = 4 by omega, if_pos (by decide)]
              simp only [zw_nm]
              have es : ∀ G, zw_up (zw_up G 31 33 0) 31 34 (-9) = pq_rs (0, -9) G := by
                intro G
                refine pq_hext (fun a b => ?_) rfl
                unfold pq_rs
                simp only [pq_up_at]
                by_cases h1 : a = 31 ∧ b = 33
                · simp [h1]
                · by_cases h2 : a = 31 ∧ b = 34
                  · simp [h2]
                  · simp [h1, h2]
              rw [es]
              unfold L_X9_rests_173
              have hG : pq_hg y (zw_upR (pq_gn y H 4) 38 g) := by
                have := pq_hg_gn y H
                unfold pq_hg at this ⊢
                rw [pq_upR_off _ g (show (45 : Nat) ≠ 38 by decide)]
                exact this
              have e := pq_rsL hG x3 4 600 0 0 (-9) (by omega) (by omega)
              rw [pq_mg_4] at e
              exact e
            | succ d ih =>
              intro N k g hk hN
              obtain ⟨N', rfl⟩ : ∃ N', N = N' + 1 := ⟨N - 1, by omega⟩
              rw [pq_it_s]
              simp only []
              obtain ⟨g1, e1⟩ := pq_rsS hB hI a1 b1 (show k < 4 by omega) x3 (zw_it (fun (k44 : (Int32 × Int32 × Int32 × Int32 × zw_Hp) → Option (Int32 × zw_Hp)) (w : Int32 × Int32 × Int32 × Int32 × zw_Hp) => B_X9_rests_44 k44 (w.1) (w.2.1) (w.2.2.1) (w.2.2.2.1) (w.2.2.2.2)) N') (pq_eq_gn y H k) g
              rw [e1, hy]
              exact ih N' (k + 1) g1 (by omega) (by omega)
          obtain ⟨g', e⟩ := key 4 600 0 (H.1 38) (by omega) (by omega)
          rw [← hH] at e
          have e' : zw_it (fun (k44 : (Int32 × Int32 × Int32 × Int32 × zw_Hp) → Option (Int32 × zw_Hp)) (w : Int32 × Int32 × Int32 × Int32 × zw_Hp) => B_X9_rests_44 k44 (w.1) (w.2.1) (w.2.2.1) (w.2.2.2.1) (w.2.2.2.2)) 600 (nI a, nI b, x3, 0, H) = _ := e
          rw [e']
          exact ⟨_, rfl, pq_eq_tr e0 (pq_eq_tr (pq_eq_tr (pq_eq_gn y H 4) (pq_eq_upR _ g' pq_rl_38)) (pq_eq_rs _ _))⟩
        · rw [if_neg q, if_pos rfl, if_neg q]
          exact ⟨_, rfl, e0⟩
