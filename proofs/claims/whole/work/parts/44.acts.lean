/-! what an act lays by: the class's ring, the model's book -/
def pq_rmC (h : zw_Hp) (a o : Nat) : zw_Hp := if a < 14 then zw_up (zw_upR h 21 (pq_stp (h.1 21) ((o + a) % 14 * 21) (pq_cg 9 h) 21)) 19 2 (nI (a + 1)) else zw_up (zw_upR h 21 (pq_stp (h.1 21) ((o + a) % 14 * 21) (pq_cg 9 h) 21)) 19 1 (nI ((o + 1) % 14))
theorem pq_rem {h : zw_Hp} {a o : Nat} (ha : a ≤ 14) (ho : o < 14) (e1 : h.1 19 2 = nI a) (e2 : h.1 19 1 = nI o) : M_X0_remember 9 h = some (pq_rmC h a o) := by
  have e3 : nI (o + a) - nI (o + a) / 14 * 14 = nI ((o + a) % 14) := pk_rem (a := o + a) (d := 14) (by omega) (by decide) (by decide)
  have e4 : nI (o + 1) - nI (o + 1) / 14 * 14 = nI ((o + 1) % 14) := pk_rem (a := o + 1) (d := 14) (by omega) (by decide) (by decide)
  have hr : (o + a) % 14 * 21 + 21 ≤ zw_shl 20 := by
    show (o + a) % 14 * 21 + 21 ≤ 294
    omega
  unfold M_X0_remember pq_rmC
  rw [e1, e2, nI_add, e3, pq_store (Or.inl rfl) hr]
  simp only [Option.bind_some, zw_nm]
  rw [pq_upR_off h _ (show (19 : Nat) ≠ 20 + 1 by decide), e1, e2, nI_1, nI_1, e4]
  by_cases q : a < 14
  · rw [if_pos q, if_neg (show ¬ (14 : Int32) ≤ nI a from nI_ge (a := a) (b := 14) q (by decide))]
  · rw [if_neg q, if_pos (show (14 : Int32) ≤ nI a from nI_le (a := 14) (b := a) (by omega) (by omega))]
theorem pq_rmC_off (h : zw_Hp) (a o : Nat) {i : Nat} (h1 : i ≠ 19) (h2 : i ≠ 21) : (pq_rmC h a o).1 i = h.1 i := by
  unfold pq_rmC
  split
  · rw [pq_up_off _ h1, pq_upR_off _ _ h2]
  · rw [pq_up_off _ h1, pq_upR_off _ _ h2]
theorem pq_rmC_21 (h : zw_Hp) (a o : Nat) : (pq_rmC h a o).1 21 = pq_stp (h.1 21) ((o + a) % 14 * 21) (pq_cg 9 h) 21 := by
  unfold pq_rmC
  split
  · rw [pq_up_off _ (by decide), pq_upR_row]
  · rw [pq_up_off _ (by decide), pq_upR_row]
theorem pq_rmC_2 (h : zw_Hp) (a o : Nat) : (pq_rmC h a o).2 = h.2 := by
  unfold pq_rmC
  split <;> rfl
theorem pq_rmC_fr (h : zw_Hp) (a o : Nat) : pq_fr pq_tA h (pq_rmC h a o) := by
  unfold pq_rmC
  split
  · exact pq_fr_up (pq_fr_upR (pq_fr_rf _ h) _ (fun k => rfl)) _ rfl
  · exact pq_fr_up (pq_fr_upR (pq_fr_rf _ h) _ (fun k => rfl)) _ rfl
theorem pq_rmC_19 {h : zw_Hp} {a o : Nat} (ha : a ≤ 14) (ho : o < 14) (e1 : h.1 19 2 = nI a) (e2 : h.1 19 1 = nI o) : (pq_rmC h a o).1 19 2 = nI (if a < 14 then a + 1 else 14) ∧ (pq_rmC h a o).1 19 1 = nI (if a < 14 then o else (o + 1) % 14) := by
  unfold pq_rmC
  by_cases q : a < 14
  · rw [if_pos q, if_pos q, if_pos q]
    refine ⟨?_, ?_⟩
    · rw [pq_up_at, if_pos ⟨rfl, rfl⟩]
    · rw [pq_up_at, if_neg (by decide), pq_upR_off _ _ (by decide), e2]
  · rw [if_neg q, if_neg q, if_neg q]
    refine ⟨?_, ?_⟩
    · rw [pq_up_at, if_neg (by decide), pq_upR_off _ _ (by decide), e1, show a = 14 by omega]
    · rw [pq_up_at, if_pos ⟨rfl, rfl⟩]
theorem pq_stp_in {row c : pq_Pg} {base j k : Nat} (h : k < j) : pq_stp row base c j (base + k) = c k := by
  unfold pq_stp
  rw [if_pos (by omega), Nat.add_sub_cancel_left]
theorem pq_stp_out {row c : pq_Pg} {base j i : Nat} (h : i < base ∨ base + j ≤ i) : pq_stp row base c j i = row i := if_neg (by omega)
/-! the model's book -/
theorem pq_nt51 (H : zw_Hp) {a : Nat} (ha : a ≤ 13) (e : H.1 31 21 = nI a) : ∀ (d N j : Nat), j + d = 21 → d < N →
    zw_it (fun (k51 : (Int32 × zw_Hp) → Option (zw_Hp)) (w : Int32 × zw_Hp) => B_X9_note_51 k51 (w.1) (w.2)) N (nI j, zw_upR H 39 (pq_stp (H.1 39) (21 * a) (H.1 37) j)) = some (zw_up (zw_upR H 39 (pq_stp (H.1 39) (21 * a) (H.1 37) 21)) 31 21 (nI (a + 1))) := by
  intro d
  induction d with
  | zero =>
    intro N j hj hN
    obtain ⟨N', rfl⟩ : ∃ N', N = N' + 1 := ⟨N - 1, by omega⟩
    rw [pq_it_s]
    simp only []
    rw [B_X9_note_51, show j = 21 by omega, if_pos (by decide)]
    simp only [zw_nm]
    rw [pq_upR_off H _ (show (31 : Nat) ≠ 39 by decide), e, nI_1]
  | succ d ih =>
    intro N j hj hN
    obtain ⟨N', rfl⟩ : ∃ N', N = N' + 1 := ⟨N - 1, by omega⟩
    have hlt : ¬ ((21 : Int32) ≤ nI j) := nI_ge (a := j) (b := 21) (by omega) (by decide)
    have em : (21 : Int32) * nI a + nI j = nI (21 * a + j) := by
      rw [show (21 : Int32) * nI a = nI (21 * a) from pk_mul 21 a, nI_add]
    rw [pq_it_s]
    simp only []
    rw [B_X9_note_51, if_neg hlt, if_pos (pq_ok_nI (by omega) (by decide)), pq_upR_off H _ (show (31 : Nat) ≠ 39 by decide), e, em, if_pos (pq_ok_nI (by omega) (by decide)), nI_clamp (show 21 * a + j < 2 ^ 31 by omega), nI_clamp (show j < 2 ^ 31 by omega), pq_upR_off H _ (show (37 : Nat) ≠ 39 by decide)]
    simp only [zw_nm, nI_1]
    rw [pq_mu, pq_stp_s]
    exact ih N' (j + 1) (by omega) (by omega)
theorem pq_stp_0 (row : pq_Pg) (base : Nat) (c : pq_Pg) : pq_stp row base c 0 = row := by
  funext k
  unfold pq_stp
  rw [if_neg (by omega)]
theorem pq_nt49 (H : zw_Hp) {a : Nat} (ha : a ≤ 13) (e : H.1 31 21 = nI a) : B_X9_note_49 H = some (zw_up (zw_upR H 39 (pq_stp (H.1 39) (21 * a) (H.1 37) 21)) 31 21 (nI (a + 1))) := by
  unfold B_X9_note_49 L_X9_note_51
  have := pq_nt51 H ha e 21 600 0 (by omega) (by omega)
  rw [pq_stp_0, pq_upR_id] at this
  exact this
def pq_shf (row : pq_Pg) (j : Nat) : pq_Pg := fun k => if k < j then row (k + 21) else row k
theorem pq_shf_s (row : pq_Pg) (j : Nat) : upd (pq_shf row j) j (pq_shf row j (j + 21)) = pq_shf row (j + 1) := by
  funext k
  unfold pq_shf upd
  by_cases h1 : k = j
  · subst h1
    simp
    intro q
    omega
  · rw [if_neg h1]
    show (if k < j then row (k + 21) else row k) = _
    by_cases h2 : k < j
    · rw [if_pos h2, if_pos (by omega)]
    · rw [if_neg h2, if_neg (by omega)]
theorem pq_nt11 (H : zw_Hp) (e : H.1 31 21 = nI 14) : ∀ (d N j : Nat), j + d = 273 → d < N →
    zw_it (fun (k11 : (Int32 × zw_Hp) → Option (zw_Hp)) (w : Int32 × zw_Hp) => B_X9_note_11 k11 (w.1) (w.2)) N (nI j, zw_upR H 39 (pq_shf (H.1 39) j)) = B_X9_note_49 (zw_up (zw_upR H 39 (pq_shf (H.1 39) 273)) 31 21 (nI 13)) := by
  intro d
  induction d with
  | zero =>
    intro N j hj hN
    obtain ⟨N', rfl⟩ : ∃ N', N = N' + 1 := ⟨N - 1, by omega⟩
    rw [pq_it_s]
    simp only []
    rw [B_X9_note_11, show j = 273 by omega, if_pos (by decide)]
    simp only [zw_nm]
    rw [pq_upR_off H _ (show (31 : Nat) ≠ 39 by decide), e, show nI 14 - 1 = nI 13 from nI_pred 13]
  | succ d ih =>
    intro N j hj hN
    obtain ⟨N', rfl⟩ : ∃ N', N = N' + 1 := ⟨N - 1, by omega⟩
    have hlt : ¬ ((273 : Int32) ≤ nI j) := nI_ge (a := j) (b := 273) (by omega) (by decide)
    have em : nI j + (21 : Int32) = nI (j + 21) := nI_add j 21
    rw [pq_it_s]
    simp only []
    rw [B_X9_note_11, if_neg hlt, em, if_pos (pq_ok_nI (by omega) (by decide)), if_pos (pq_ok_nI (by omega) (by decide)), nI_clamp (show j < 2 ^ 31 by omega), nI_clamp (show j + 21 < 2 ^ 31 by omega), pq_upR_row]
    simp only [zw_nm, nI_1]
    rw [pq_mu, pq_shf_s]
    exact ih N' (j + 1) (by omega) (by omega)
theorem pq_shf_0 (row : pq_Pg) : pq_shf row 0 = row := by
  funext k
  unfold pq_shf
  rw [if_neg (by omega)]
def pq_ntR (H : zw_Hp) (a : Nat) : pq_Pg := if a < 14 then pq_stp (H.1 39) (21 * a) (H.1 37) 21 else pq_stp (pq_shf (H.1 39) 273) 273 (H.1 37) 21
def pq_ntM (H : zw_Hp) (a : Nat) : zw_Hp := zw_up (zw_upR H 39 (pq_ntR H a)) 31 21 (nI (if a < 14 then a + 1 else 14))
theorem pq_note {H : zw_Hp} {a : Nat} (ha : a ≤ 14) (e : H.1 31 21 = nI a) : M_X9_note H = some (pq_ntM H a) := by
  unfold M_X9_note pq_ntM pq_ntR
  rw [e]
  by_cases q : a < 14
  · rw [if_pos q, if_pos q, if_neg (show ¬ nI a = 14 from fun z => by have := (nI_eq (a := a) (b := 14) (by omega) (by decide)).mp z; omega), pq_nt49 H (by omega) e]
  · have q14 : a = 14 := by omega
    subst q14
    rw [if_neg q, if_neg q, if_pos (show nI 14 = 14 from rfl)]
    unfold L_X9_note_11
    have := pq_nt11 H e 273 600 0 (by omega) (by omega)
    rw [pq_shf_0, pq_upR_id] at this
    rw [show (0 : Int32) = nI 0 from rfl, this, pq_nt49 _ (a := 13) (by omega) (by rw [pq_up_at, if_pos ⟨rfl, rfl⟩])]
    refine congrArg some (pq_hext (fun a b => ?_) rfl)
    simp only [pq_up_at, pq_upR_at]
    by_cases z : a = 39
    · subst z
      simp only [if_true]
      rw [if_neg (by omega), if_neg (by omega)]
      have r39 : (zw_up (zw_upR H 39 (pq_shf (H.1 39) 273)) 31 21 (nI 13)).1 39 = pq_shf (H.1 39) 273 := by rw [pq_up_off _ (by decide), pq_upR_row]
      have r37 : (zw_up (zw_upR H 39 (pq_shf (H.1 39) 273)) 31 21 (nI 13)).1 37 = H.1 37 := by rw [pq_up_off _ (by decide), pq_upR_off _ _ (by decide)]
      rw [r39, r37]
    · rw [if_neg z, if_neg z]
      by_cases y : a = 31 ∧ b = 21
      · rw [if_pos y, if_pos y]
      · rw [if_neg y, if_neg y, pq_up_at, if_neg y, pq_upR_at, if_neg z]
theorem pq_ntM_off (H : zw_Hp) (a : Nat) {i : Nat} (h1 : i ≠ 31) (h2 : i ≠ 39) : (pq_ntM H a).1 i = H.1 i := by
  unfold pq_ntM
  rw [pq_up_off _ h1, pq_upR_off _ _ h2]
theorem pq_ntM_39 (H : zw_Hp) (a : Nat) : (pq_ntM H a).1 39 = pq_ntR H a := by
  unfold pq_ntM
  rw [pq_up_off _ (by decide), pq_upR_row]
theorem pq_ntM_31 (H : zw_Hp) (a : Nat) : (pq_ntM H a).1 31 21 = nI (if a < 14 then a + 1 else 14) := by
  unfold pq_ntM
  rw [pq_up_at, if_pos ⟨rfl, rfl⟩]
theorem pq_fr_cp9 {h h' : zw_Hp} (e : pq_fr pq_tA h h') (c : pq_Pg) : pq_fr pq_tA h (pq_cp 9 c h') := by
  refine ⟨fun i k q => ?_, e.2⟩
  by_cases z : i < 9 ∨ 9 + 4 < i
  · rw [pq_cp_off c h' z]; exact e.1 i k q
  · exfalso
    rcases (show i = 9 ∨ i = 10 ∨ i = 11 ∨ i = 12 ∨ i = 13 by omega) with rfl | rfl | rfl | rfl | rfl <;> cases q
theorem pq_cg_rows {h h' : zw_Hp} (r : ∀ i, 9 ≤ i → i ≤ 13 → h'.1 i = h.1 i) : pq_cg 9 h' = pq_cg 9 h := by
  unfold pq_cg
  rw [r 9 (by omega) (by omega), r 10 (by omega) (by omega), r 11 (by omega) (by omega), r 12 (by omega) (by omega), r 13 (by omega) (by omega)]
/-- an act: what is laid by first, then the page of both -/
theorem pq_act {n m B : Nat} {h : zw_Hp} (hI : pq_I n m B h) : ∃ h1, M_X0_remember 9 h = some h1 ∧ pq_fr pq_tA h h1 ∧ pq_cg 9 h1 = pq_cg 9 h ∧ ∀ c', c' 21 = 0 → ∃ H2, M_X9_note (zw_up (pq_cp 9 c' h1) 31 0 0) = some H2 ∧ pq_fr pq_tA h H2 ∧ H2.1 37 = h.1 37 ∧ ∀ g', pq_Sn n m (B + 1) (h.1 6 7) c' g' → pq_I n m (B + 1) (zw_upR H2 37 g') := by
  obtain ⟨a, o, a1, a2, a3, a4, a5, a6⟩ := hI.2.2.2.2.2.1
  have hn := hI.1.2.1
  have hm := hI.1.2.2.1
  have hS := hI.2.2.2.2.1
  refine ⟨pq_rmC h a o, pq_rem a1 a2 a3 a5, pq_rmC_fr h a o, pq_cg_rows (fun i i1 i2 => pq_rmC_off h a o (by omega) (by omega)), fun c' hc => ?_⟩
  have e21 : (zw_up (pq_cp 9 c' (pq_rmC h a o)) 31 0 0).1 31 21 = nI a := by
    rw [pq_up_at, if_neg (by decide), pq_cp_off _ _ (by omega), pq_rmC_off h a o (by decide) (by decide), a4]
  have fr1 : pq_fr pq_tA h (zw_up (pq_cp 9 c' (pq_rmC h a o)) 31 0 0) := pq_fr_up (pq_fr_cp9 (pq_rmC_fr h a o) c') _ rfl
  have o1 : ∀ i, i < 9 ∨ 13 < i → i ≠ 19 → i ≠ 21 → i ≠ 31 → (zw_up (pq_cp 9 c' (pq_rmC h a o)) 31 0 0).1 i = h.1 i := fun i z1 z2 z3 z4 => by
    rw [pq_up_off _ z4, pq_cp_off _ _ (by omega), pq_rmC_off h a o z2 z3]
  have r19 : (zw_up (pq_cp 9 c' (pq_rmC h a o)) 31 0 0).1 19 = (pq_rmC h a o).1 19 := by
    rw [pq_up_off _ (by decide), pq_cp_off _ _ (by omega)]
  have r21 : (zw_up (pq_cp 9 c' (pq_rmC h a o)) 31 0 0).1 21 = (pq_rmC h a o).1 21 := by
    rw [pq_up_off _ (by decide), pq_cp_off _ _ (by omega)]
  have rcg : ∀ i, 9 ≤ i → i ≤ 13 → (zw_up (pq_cp 9 c' (pq_rmC h a o)) 31 0 0).1 i = (pq_cp 9 c' (pq_rmC h a o)).1 i := fun i z1 z2 => pq_up_off _ (by omega) _ _
  generalize hcp : pq_cp 9 c' (pq_rmC h a o) = P at *
  generalize hH : zw_up P 31 0 0 = H at *
  refine ⟨pq_ntM H a, pq_note a1 e21, ?_, ?_, fun g' hg => ?_⟩
  · exact pq_fr_up (pq_fr_upR fr1 _ (fun k => rfl)) _ rfl
  · rw [pq_ntM_off H a (by decide) (by decide), o1 37 (by omega) (by decide) (by decide) (by decide)]
  · have q37 : (zw_upR (pq_ntM H a) 37 g').1 37 = g' := pq_upR_row _ _ _
    have off : ∀ i, i ≠ 37 → i ≠ 31 → i ≠ 39 → (zw_upR (pq_ntM H a) 37 g').1 i = H.1 i := fun i z1 z2 z3 => by rw [pq_upR_off _ _ z1, pq_ntM_off H a z2 z3]
    have q39 : (zw_upR (pq_ntM H a) 37 g').1 39 = pq_ntR H a := by rw [pq_upR_off _ _ (by decide), pq_ntM_39]
    have q31 : (zw_upR (pq_ntM H a) 37 g').1 31 21 = nI (if a < 14 then a + 1 else 14) := by rw [pq_upR_off _ _ (by decide), pq_ntM_31]
    have frF : pq_fr pq_tA h (zw_upR (pq_ntM H a) 37 g') := pq_fr_upR (pq_fr_up (pq_fr_upR fr1 _ (fun k => rfl)) _ rfl) _ (fun k => rfl)
    have r6 : (zw_upR (pq_ntM H a) 37 g').1 6 = h.1 6 := pq_fr_row frF 6 (fun k => rfl)
    have cgF : ∀ k, k < 22 → pq_cg 9 (zw_upR (pq_ntM H a) 37 g') k = c' k := fun k hk => by
      rw [pq_cg_rows (h := P) (fun i z1 z2 => by rw [off i (by omega) (by omega) (by omega), rcg i z1 z2]), ← hcp, pq_cg_cp _ _ hk]
    have H39 : H.1 39 = h.1 39 := o1 39 (by omega) (by decide) (by decide) (by decide)
    have H37 : H.1 37 = h.1 37 := o1 37 (by omega) (by decide) (by decide) (by decide)
    refine pq_I_tA (pq_I_le (by omega) hI) frF ?_ ?_ ?_
    · have := cgF 21 (by omega)
      rw [hc] at this
      exact this
    · rw [q37]
      exact pq_Sn_cg hn hm hg (fun k hk => cgF k (by omega)) (fun k hk => rfl)
    · obtain ⟨b1, b2⟩ := pq_rmC_19 a1 a2 a3 a5
      refine ⟨if a < 14 then a + 1 else 14, if a < 14 then o else (o + 1) % 14, ?_, ?_, ?_, q31, ?_, fun j hj => ?_⟩
      · split <;> omega
      · split <;> omega
      · rw [off 19 (by decide) (by decide) (by decide), r19, b1]
      · rw [off 19 (by decide) (by decide) (by decide), r19, b2]
      · rw [off 21 (by decide) (by decide) (by decide), r21, pq_rmC_21, q39, r6]
        unfold pq_ntR
        rw [H39, H37]
        by_cases q : a < 14
        · rw [if_pos q] at hj ⊢
          rw [if_pos q]
          by_cases ja : j = a
          · subst ja
            exact pq_Sn_cg hn hm (pq_Sn_le (by omega) hS) (fun k hk => pq_stp_in hk) (fun k hk => pq_stp_in hk)
          · exact pq_Sn_cg hn hm (pq_Sn_le (by omega) (a6 j (by omega))) (fun k hk => pq_stp_out (by omega)) (fun k hk => pq_stp_out (by omega))
        · have q14 : a = 14 := by omega
          subst q14
          rw [if_neg q] at hj ⊢
          rw [if_neg q]
          by_cases ja : j = 13
          · subst ja
            rw [show ((o + 1) % 14 + 13) % 14 = (o + 14) % 14 by omega]
            exact pq_Sn_cg hn hm (pq_Sn_le (by omega) hS) (fun k hk => pq_stp_in hk) (fun k hk => pq_stp_in (base := 273) hk)
          · rw [show ((o + 1) % 14 + j) % 14 = (o + (j + 1)) % 14 by omega]
            refine pq_Sn_cg hn hm (pq_Sn_le (by omega) (a6 (j + 1) (by omega))) (fun k hk => pq_stp_out (by omega)) (fun k hk => ?_)
            show pq_stp (pq_shf (h.1 39) 273) 273 (h.1 37) 21 (21 * j + k) = h.1 39 (21 * (j + 1) + k)
            rw [pq_stp_out (by omega), show 21 * (j + 1) + k = 21 * j + k + 21 by omega]
            exact if_pos (by omega)
