/-! undo, keep, again, seed -/
theorem pq_b21_0 (f g : pq_Pg) : pq_b21 f g 0 = g := by
  funext k
  unfold pq_b21
  rw [if_neg (by omega)]
theorem pq_un27 (H : zw_Hp) {a : Nat} (ha : a ≤ 13) (e : H.1 31 21 = nI a) : ∀ (d N j : Nat), j + d = 21 → d < N →
    zw_it (fun (k27 : (Int32 × zw_Hp) → Option (Int32 × zw_Hp)) (w : Int32 × zw_Hp) => B_X9_undo_27 k27 (w.1) (w.2)) N (nI j, zw_upR H 37 (pq_b21 (fun k => H.1 39 (21 * a + k)) (H.1 37) j)) = some (nI a, zw_upR H 37 (pq_b21 (fun k => H.1 39 (21 * a + k)) (H.1 37) 21)) := by
  intro d
  induction d with
  | zero =>
    intro N j hj hN
    obtain ⟨N', rfl⟩ : ∃ N', N = N' + 1 := ⟨N - 1, by omega⟩
    rw [pq_it_s]
    simp only []
    rw [B_X9_undo_27, show j = 21 by omega, if_pos (by decide), pq_upR_off H _ (show (31 : Nat) ≠ 37 by decide), e]
  | succ d ih =>
    intro N j hj hN
    obtain ⟨N', rfl⟩ : ∃ N', N = N' + 1 := ⟨N - 1, by omega⟩
    have hlt : ¬ ((21 : Int32) ≤ nI j) := nI_ge (a := j) (b := 21) (by omega) (by decide)
    have em : (21 : Int32) * nI a + nI j = nI (21 * a + j) := by
      rw [show (21 : Int32) * nI a = nI (21 * a) from pk_mul 21 a, nI_add]
    rw [pq_it_s]
    simp only []
    rw [B_X9_undo_27, if_neg hlt, pq_upR_off H _ (show (31 : Nat) ≠ 37 by decide), e, em, if_pos (pq_ok_nI (by omega) (by decide)), if_pos (pq_ok_nI (by omega) (by decide)), nI_clamp (show 21 * a + j < 2 ^ 31 by omega), nI_clamp (show j < 2 ^ 31 by omega), pq_upR_off H _ (show (39 : Nat) ≠ 37 by decide)]
    simp only [zw_nm, nI_1]
    rw [pq_mu, pq_b21_s (fun k => H.1 39 (21 * a + k))]
    exact ih N' (j + 1) (by omega) (by omega)
theorem pq_ftp_lo {row c : pq_Pg} {base k : Nat} (hk : k < 21) : pq_ftp row base c k = row (base + k) := by
  unfold pq_ftp
  rw [if_neg (by omega)]
theorem pq_b21_lo {f g : pq_Pg} {k : Nat} (hk : k < 21) : pq_b21 f g 21 k = f k := if_pos hk
theorem pq_undo {n m B : Nat} {h : zw_Hp} (hI : pq_I n m B h) : pq_op B M_X8_undo M_X9_undo h := by
  obtain ⟨a, o, a1, a2, a3, a4, a5, a6⟩ := hI.2.2.2.2.2.1
  have hn := hI.1.2.1
  have hm := hI.1.2.2.1
  have n4 := hI.now.2.2.2
  by_cases a0 : a = 0
  · subst a0
    refine pq_opId (r := -3) hI ?_ ?_
    · unfold M_X8_undo
      rw [a3, if_pos (show nI 0 = 0 from rfl)]
    · unfold M_X9_undo
      simp only [zw_nm]
      rw [show (zw_up h 31 0 0).1 31 21 = nI 0 by rw [pq_up_at, if_neg (by decide), a4], if_pos (show nI 0 = 0 from rfl)]
  · obtain ⟨b, rfl⟩ : ∃ b, a = b + 1 := ⟨a - 1, by omega⟩
    have e3 : nI (o + b) - nI (o + b) / 14 * 14 = nI ((o + b) % 14) := pk_rem (a := o + b) (d := 14) (by omega) (by decide) (by decide)
    have hr : (o + b) % 14 * 21 + 21 ≤ zw_shl 20 := by
      show (o + b) % 14 * 21 + 21 ≤ 294
      omega
    have hC : M_X8_undo h = some (nI b, pq_cp 9 (pq_ftp (h.1 21) ((o + b) % 14 * 21) (pq_cg 9 h)) (zw_up h 19 2 (nI b))) := by
      unfold M_X8_undo M_X0_takeBack
      rw [a3, if_neg (nI_ne0 (by omega) (by omega)), if_pos (show (0 : Int32) < nI (b + 1) from nI_lt (a := 0) (b := b + 1) (by omega) (by omega)), nI_pred]
      simp only [zw_nm]
      rw [show (zw_up h 19 2 (nI b)).1 19 2 = nI b by rw [pq_up_at, if_pos ⟨rfl, rfl⟩], show (zw_up h 19 2 (nI b)).1 19 1 = nI o by rw [pq_up_at, if_neg (by decide), a5], nI_add, e3, pq_fetch (Or.inl rfl) hr]
      simp only [Option.bind_some]
      rw [pq_cp_off _ _ (by omega), pq_up_at, if_pos ⟨rfl, rfl⟩, pq_up_off _ (show (20 + 1 : Nat) ≠ 19 by decide), pq_cg_rows (h := h) (fun i z1 z2 => pq_up_off _ (by omega) _ _)]
    generalize hcp : pq_cp 9 (pq_ftp (h.1 21) ((o + b) % 14 * 21) (pq_cg 9 h)) (zw_up h 19 2 (nI b)) = P at hC
    have oP : ∀ i, i < 9 ∨ 13 < i → i ≠ 19 → P.1 i = h.1 i := fun i z1 z2 => by
      rw [← hcp, pq_cp_off _ _ (by omega), pq_up_off _ z2]
    have frP : pq_fr pq_tA h P := by
      rw [← hcp]
      exact pq_fr_cp9 (pq_fr_up (pq_fr_rf _ h) _ rfl) _
    have cgP : ∀ k, k < 22 → pq_cg 9 P k = pq_ftp (h.1 21) ((o + b) % 14 * 21) (pq_cg 9 h) k := fun k hk => by rw [← hcp, pq_cg_cp _ _ hk]
    have p19 : P.1 19 2 = nI b ∧ P.1 19 1 = nI o := by
      rw [← hcp, pq_cp_off _ _ (by omega), pq_up_at, if_pos ⟨rfl, rfl⟩, pq_up_at, if_neg (by decide), a5]
      exact ⟨rfl, rfl⟩
    generalize hH : zw_up (zw_up P 31 0 0) 31 21 (nI b) = H
    have oH : ∀ i, i ≠ 31 → H.1 i = P.1 i := fun i z => by rw [← hH, pq_up_off _ z, pq_up_off _ z]
    have h31 : H.1 31 21 = nI b := by rw [← hH, pq_up_at, if_pos ⟨rfl, rfl⟩]
    have hM : M_X9_undo P = some (nI b, zw_upR H 37 (pq_b21 (fun k => H.1 39 (21 * b + k)) (H.1 37) 21)) := by
      unfold M_X9_undo
      simp only [zw_nm]
      rw [show (zw_up P 31 0 0).1 31 21 = nI (b + 1) by rw [pq_up_at, if_neg (by decide), oP 31 (by omega) (by decide), a4], if_neg (nI_ne0 (by omega) (by omega)), nI_pred, hH]
      unfold L_X9_undo_27
      have := pq_un27 H (a := b) (by omega) h31 21 600 0 (by omega) (by omega)
      rw [pq_b21_0, pq_upR_id] at this
      exact this
    refine ⟨_, _, _, n, m, hC, hM, pq_I_le (Nat.le_succ B) ?_⟩
    have frF : pq_fr pq_tA h (zw_upR H 37 (pq_b21 (fun k => H.1 39 (21 * b + k)) (H.1 37) 21)) := by
      rw [← hH]
      exact pq_fr_upR (pq_fr_up (pq_fr_up frP _ rfl) _ rfl) _ (fun k => rfl)
    have cgF : pq_cg 9 (zw_upR H 37 (pq_b21 (fun k => H.1 39 (21 * b + k)) (H.1 37) 21)) = pq_cg 9 P := pq_cg_rows (fun i z1 z2 => by rw [pq_upR_off _ _ (by omega), oH i (by omega)])
    have r6 := pq_fr_row frF 6 (fun k => rfl)
    have q39 : H.1 39 = h.1 39 := by rw [oH 39 (by decide), oP 39 (by omega) (by decide)]
    refine pq_I_tA hI frF ?_ ?_ ?_
    · have := cgP 21 (by omega)
      have z : pq_cg 9 (zw_upR H 37 (pq_b21 (fun k => H.1 39 (21 * b + k)) (H.1 37) 21)) 21 = 0 := by
        rw [cgF, this]
        exact n4
      exact z
    · rw [cgF, pq_upR_row, q39]
      exact pq_Sn_cg hn hm (a6 b (by omega)) (fun k hk => by rw [cgP k (by omega), pq_ftp_lo hk]) (fun k hk => pq_b21_lo hk)
    · refine ⟨b, o, by omega, a2, ?_, ?_, ?_, fun j hj => ?_⟩
      · rw [pq_upR_off _ _ (by decide), oH 19 (by decide)]; exact p19.1
      · rw [pq_upR_off _ _ (by decide)]; exact h31
      · rw [pq_upR_off _ _ (by decide), oH 19 (by decide)]; exact p19.2
      · rw [r6, pq_upR_off _ _ (by decide), oH 21 (by decide), oP 21 (by omega) (by decide), pq_upR_off _ _ (by decide), q39]
        exact a6 j (by omega)
/-! keep -/
theorem pq_kp26 (H : zw_Hp) {x : Nat} (hx : x < 2) : ∀ (d N j : Nat), j + d = 21 → d < N →
    zw_it (fun (k26 : (Int32 × Int32 × zw_Hp) → Option (Int32 × zw_Hp)) (w : Int32 × Int32 × zw_Hp) => B_X9_keep_26 k26 (w.1) (w.2.1) (w.2.2)) N (nI x, nI j, zw_upR H 40 (pq_stp (H.1 40) (21 * x) (H.1 37) j)) = some (H.1 37 20, zw_upR H 40 (pq_stp (H.1 40) (21 * x) (H.1 37) 21)) := by
  intro d
  induction d with
  | zero =>
    intro N j hj hN
    obtain ⟨N', rfl⟩ : ∃ N', N = N' + 1 := ⟨N - 1, by omega⟩
    rw [pq_it_s]
    simp only []
    rw [B_X9_keep_26, show j = 21 by omega, if_pos (by decide), if_pos (by decide), pq_upR_off H _ (show (37 : Nat) ≠ 40 by decide)]
    rfl
  | succ d ih =>
    intro N j hj hN
    obtain ⟨N', rfl⟩ : ∃ N', N = N' + 1 := ⟨N - 1, by omega⟩
    have hlt : ¬ ((21 : Int32) ≤ nI j) := nI_ge (a := j) (b := 21) (by omega) (by decide)
    have em : (21 : Int32) * nI x + nI j = nI (21 * x + j) := by
      rw [show (21 : Int32) * nI x = nI (21 * x) from pk_mul 21 x, nI_add]
    rw [pq_it_s]
    simp only []
    rw [B_X9_keep_26, if_neg hlt, if_pos (pq_ok_nI (by omega) (by decide)), em, if_pos (pq_ok_nI (by omega) (by decide)), nI_clamp (show 21 * x + j < 2 ^ 31 by omega), nI_clamp (show j < 2 ^ 31 by omega), pq_upR_off H _ (show (37 : Nat) ≠ 40 by decide)]
    simp only [zw_nm, nI_1]
    rw [pq_mu, pq_stp_s]
    exact ih N' (j + 1) (by omega) (by omega)
theorem pq_kb0 : ∀ k0 k1 : Bool, (nI (k0.toNat + 2 * k1.toNat) ||| ((1 : Int32) <<< (nI 0 &&& 31))) = nI (true.toNat + 2 * k1.toNat) ∧ (nI (k0.toNat + 2 * k1.toNat) ||| ((1 : Int32) <<< (nI 1 &&& 31))) = nI (k0.toNat + 2 * true.toNat) := by decide +kernel
theorem pq_kb1 : ∀ k0 k1 : Bool, (((nI (k0.toNat + 2 * k1.toNat) >>> (nI 0 &&& 31)) &&& (1 : Int32)) = 0 ↔ k0 = false) ∧ (((nI (k0.toNat + 2 * k1.toNat) >>> (nI 1 &&& 31)) &&& (1 : Int32)) = 0 ↔ k1 = false) := by decide +kernel
theorem pq_keep {n m B : Nat} {h : zw_Hp} (hI : pq_I n m B h) (x1 : Int32) : pq_op B (M_X8_keep x1) (M_X9_keep x1) h := by
  have hn := hI.1.2.1
  have hm := hI.1.2.2.1
  have hS := hI.2.2.2.2.1
  obtain ⟨n1, n2, n3, n4⟩ := hI.now
  have ei : ∀ H, M_X9_in x1.toInt64 0 1 H = some (if 0 ≤ x1 ∧ x1 ≤ 1 then 1 else 0) := fun H => pq_in x1 0 1 H
  rcases pq_rng x1 (a := 0) (b := 1) (by decide) (by decide) with ⟨u1, u2⟩ | ⟨x, x0, x1', ex, vx⟩
  · have u1' : ¬ (0 ≤ x1 ∧ x1 ≤ 1) := u1
    have u2' : x1 < 0 ∨ 1 < x1 := u2
    refine pq_opId (r := -1) hI ?_ ?_
    · unfold M_X8_keep
      by_cases q : x1 < 0
      · rw [if_pos q]
      · rw [if_neg q, if_neg]
        intro z
        have h1 := u2'.resolve_left q
        rcases pk_ix x1 (n := 2) (by decide) with w | w | ⟨j, w1, w2⟩
        · exact q w
        · exact absurd z (Int32.not_lt.mpr w)
        · rcases (show j = 0 ∨ j = 1 by omega) with rfl | rfl
          · rw [w2] at h1; exact absurd h1 (by decide)
          · rw [w2] at h1; exact absurd h1 (by decide)
    · unfold M_X9_keep
      simp only [zw_nm, ei, Option.bind_some]
      rw [if_neg u1', if_pos rfl]
  · have vx' : 0 ≤ x1 ∧ x1 ≤ 1 := vx
    have hx : x < 2 := by omega
    have hr : x * 21 + 21 ≤ zw_shl 22 := by
      show x * 21 + 21 ≤ 42
      omega
    obtain ⟨k0, k1, b1, b2, b3, b4, b5⟩ := hI.2.2.2.2.2.2.1
    generalize hP : zw_up (zw_upR h 23 (pq_stp (h.1 23) (x * 21) (pq_cg 9 h) 21)) 0 6 (h.1 0 6 ||| ((1 : Int32) <<< (nI x &&& 31))) = P
    have hC : M_X8_keep x1 h = some (pq_cg 9 h 20, P) := by
      unfold M_X8_keep
      rw [ex, if_neg (nI_pos (by omega)), if_pos (show nI x < 2 from nI_lt (a := x) (b := 2) hx (by decide)), pq_store (Or.inr rfl) hr]
      simp only [Option.bind_some, zw_nm]
      rw [pq_upR_off _ _ (show (0 : Nat) ≠ 22 + 1 by decide), hP]
      have : P.1 9 8 = h.1 9 8 := by rw [← hP, pq_up_off _ (by decide), pq_upR_off _ _ (by decide)]
      rw [this]
      rfl
    have oP : ∀ i, i ≠ 0 → i ≠ 23 → P.1 i = h.1 i := fun i z1 z2 => by rw [← hP, pq_up_off _ z1, pq_upR_off _ _ z2]
    have frP : pq_fr pq_tK h P := by
      rw [← hP]
      exact pq_fr_up (pq_fr_upR (pq_fr_rf _ h) _ (fun k => rfl)) _ rfl
    have p23 : P.1 23 = pq_stp (h.1 23) (x * 21) (pq_cg 9 h) 21 := by rw [← hP, pq_up_off _ (by decide), pq_upR_row]
    have p06 : P.1 0 6 = h.1 0 6 ||| ((1 : Int32) <<< (nI x &&& 31)) := by rw [← hP, pq_up_at, if_pos ⟨rfl, rfl⟩]
    generalize hH : zw_up (zw_up P 31 0 0) 41 x 1 = H
    have oH : ∀ i, i ≠ 31 → i ≠ 41 → H.1 i = P.1 i := fun i z1 z2 => by rw [← hH, pq_up_off _ z2, pq_up_off _ z1]
    have h37 : H.1 37 = h.1 37 := by rw [oH 37 (by decide) (by decide), oP 37 (by decide) (by decide)]
    have h40 : H.1 40 = h.1 40 := by rw [oH 40 (by decide) (by decide), oP 40 (by decide) (by decide)]
    have h41 : ∀ k, H.1 41 k = if k = x then 1 else h.1 41 k := fun k => by
      rw [← hH, pq_up_at, pq_up_off _ (by decide), oP 41 (by decide) (by decide)]
      by_cases z : k = x
      · rw [if_pos ⟨rfl, z⟩, if_pos z]
      · rw [if_neg (fun q => z q.2), if_neg z]
    have hM : M_X9_keep x1 P = some (pq_cg 9 h 20, zw_upR H 40 (pq_stp (h.1 40) (21 * x) (h.1 37) 21)) := by
      unfold M_X9_keep
      simp only [zw_nm, ei, Option.bind_some]
      rw [if_pos vx', if_neg pq_10, ex, if_pos (pq_ok_nI hx (by decide)), nI_clamp (by omega), hH]
      unfold L_X9_keep_26
      have := pq_kp26 H hx 21 600 0 (by omega) (by omega)
      rw [pq_stp_0, pq_upR_id, h37, h40, n3.2.2 20 (by omega) (by omega)] at this
      exact this
    refine ⟨_, _, _, n, m, hC, hM, pq_I_le (Nat.le_succ B) ?_⟩
    have frF : pq_fr pq_tK h (zw_upR H 40 (pq_stp (h.1 40) (21 * x) (h.1 37) 21)) := by
      rw [← hH]
      exact pq_fr_upR (pq_fr_up (pq_fr_up frP _ rfl) _ rfl) _ (fun k => rfl)
    refine pq_I_tK hI frF ?_
    unfold pq_Ik
    have r6 := pq_fr_row frF 6 (fun k => rfl)
    have f06 : (zw_upR H 40 (pq_stp (h.1 40) (21 * x) (h.1 37) 21)).1 0 6 = h.1 0 6 ||| ((1 : Int32) <<< (nI x &&& 31)) := by rw [pq_upR_off _ _ (by decide), oH 0 (by decide) (by decide), p06]
    have f41 : (zw_upR H 40 (pq_stp (h.1 40) (21 * x) (h.1 37) 21)).1 41 = H.1 41 := pq_upR_off _ _ (by decide)
    have f23 : (zw_upR H 40 (pq_stp (h.1 40) (21 * x) (h.1 37) 21)).1 23 = pq_stp (h.1 23) (x * 21) (pq_cg 9 h) 21 := by rw [pq_upR_off _ _ (by decide), oH 23 (by decide) (by decide), p23]
    rw [f06, f41, f23, r6, pq_upR_row, b1]
    have new : pq_Sn n m B (h.1 6 7) (fun k => pq_stp (h.1 23) (x * 21) (pq_cg 9 h) 21 (x * 21 + k)) (fun k => pq_stp (h.1 40) (21 * x) (h.1 37) 21 (21 * x + k)) := by
      exact pq_Sn_cg hn hm hS (fun k hk => pq_stp_in hk) (fun k hk => pq_stp_in hk)
    have old : ∀ y, y < 2 → y ≠ x → pq_Sn n m B (h.1 6 7) (fun k => h.1 23 (y * 21 + k)) (fun k => h.1 40 (21 * y + k)) → pq_Sn n m B (h.1 6 7) (fun k => pq_stp (h.1 23) (x * 21) (pq_cg 9 h) 21 (y * 21 + k)) (fun k => pq_stp (h.1 40) (21 * x) (h.1 37) 21 (21 * y + k)) := by
      intro y hy hyx hs
      exact pq_Sn_cg hn hm hs (fun k hk => pq_stp_out (by omega)) (fun k hk => pq_stp_out (by omega))
    rcases (show x = 0 ∨ x = 1 by omega) with rfl | rfl
    · refine ⟨true, k1, (pq_kb0 k0 k1).1, ?_, ?_, fun _ => new, fun q => old 1 (by omega) (by omega) (b5 q)⟩
      · rw [h41, if_pos rfl]; rfl
      · rw [h41, if_neg (by omega), b3]
    · refine ⟨k0, true, (pq_kb0 k0 k1).2, ?_, ?_, fun q => old 0 (by omega) (by omega) (b4 q), fun _ => new⟩
      · rw [h41, if_neg (by omega), b2]
      · rw [h41, if_pos rfl]; rfl
/-! again -/
theorem pq_ag31 (H : zw_Hp) {x : Nat} (hx : x < 2) : ∀ (d N j : Nat), j + d = 21 → d < N →
    zw_it (fun (k31 : (Int32 × Int32 × zw_Hp) → Option (Int32 × zw_Hp)) (w : Int32 × Int32 × zw_Hp) => B_X9_again_31 k31 (w.1) (w.2.1) (w.2.2)) N (nI x, nI j, zw_upR H 37 (pq_b21 (fun k => H.1 40 (21 * x + k)) (H.1 37) j)) = some (H.1 40 (21 * x + 20), zw_up (zw_upR H 37 (pq_b21 (fun k => H.1 40 (21 * x + k)) (H.1 37) 21)) 31 21 0) := by
  intro d
  induction d with
  | zero =>
    intro N j hj hN
    obtain ⟨N', rfl⟩ : ∃ N', N = N' + 1 := ⟨N - 1, by omega⟩
    rw [pq_it_s]
    simp only []
    rw [B_X9_again_31, show j = 21 by omega, if_pos (by decide)]
    simp only [zw_nm]
    rw [if_pos (by decide), pq_up_off _ (show (37 : Nat) ≠ 31 by decide), pq_upR_row]
    rfl
  | succ d ih =>
    intro N j hj hN
    obtain ⟨N', rfl⟩ : ∃ N', N = N' + 1 := ⟨N - 1, by omega⟩
    have hlt : ¬ ((21 : Int32) ≤ nI j) := nI_ge (a := j) (b := 21) (by omega) (by decide)
    have em : (21 : Int32) * nI x + nI j = nI (21 * x + j) := by
      rw [show (21 : Int32) * nI x = nI (21 * x) from pk_mul 21 x, nI_add]
    rw [pq_it_s]
    simp only []
    rw [B_X9_again_31, if_neg hlt, em, if_pos (pq_ok_nI (by omega) (by decide)), if_pos (pq_ok_nI (by omega) (by decide)), nI_clamp (show 21 * x + j < 2 ^ 31 by omega), nI_clamp (show j < 2 ^ 31 by omega), pq_upR_off H _ (show (40 : Nat) ≠ 37 by decide)]
    simp only [zw_nm, nI_1]
    rw [pq_mu, pq_b21_s (fun k => H.1 40 (21 * x + k))]
    exact ih N' (j + 1) (by omega) (by omega)
theorem pq_again {n m B : Nat} {h : zw_Hp} (hI : pq_I n m B h) (x1 : Int32) : pq_op B (M_X8_again x1) (M_X9_again x1) h := by
  have hn := hI.1.2.1
  have hm := hI.1.2.2.1
  obtain ⟨n1, n2, n3, n4⟩ := hI.now
  have ei : ∀ H, M_X9_in x1.toInt64 0 1 H = some (if 0 ≤ x1 ∧ x1 ≤ 1 then 1 else 0) := fun H => pq_in x1 0 1 H
  rcases pq_rng x1 (a := 0) (b := 1) (by decide) (by decide) with ⟨u1, u2⟩ | ⟨x, x0, x1', ex, vx⟩
  · have u1' : ¬ (0 ≤ x1 ∧ x1 ≤ 1) := u1
    have u2' : x1 < 0 ∨ 1 < x1 := u2
    refine pq_opId (r := -1) hI ?_ ?_
    · unfold M_X8_again
      by_cases q : x1 < 0
      · rw [if_pos q]
      · rw [if_neg q, if_neg]
        intro z
        have h1 := u2'.resolve_left q
        rcases pk_ix x1 (n := 2) (by decide) with w | w | ⟨j, w1, w2⟩
        · exact q w
        · exact absurd z (Int32.not_lt.mpr w)
        · rcases (show j = 0 ∨ j = 1 by omega) with rfl | rfl
          · rw [w2] at h1; exact absurd h1 (by decide)
          · rw [w2] at h1; exact absurd h1 (by decide)
    · unfold M_X9_again
      simp only [zw_nm, ei, Option.bind_some]
      rw [if_neg u1', if_pos rfl]
  · have vx' : 0 ≤ x1 ∧ x1 ≤ 1 := vx
    have hx : x < 2 := by omega
    have hr : x * 21 + 21 ≤ zw_shl 22 := by
      show x * 21 + 21 ≤ 42
      omega
    obtain ⟨k0, k1, b1, b2, b3, b4, b5⟩ := hI.2.2.2.2.2.2.1
    obtain ⟨kx, c1, c2, c3⟩ : ∃ kx : Bool, (((h.1 0 6 >>> (nI x &&& 31)) &&& (1 : Int32)) = 0 ↔ kx = false) ∧ h.1 41 x = nI kx.toNat ∧ (kx = true → pq_Sn n m B (h.1 6 7) (fun k => h.1 23 (x * 21 + k)) (fun k => h.1 40 (21 * x + k))) := by
      rw [b1]
      rcases (show x = 0 ∨ x = 1 by omega) with rfl | rfl
      · exact ⟨k0, (pq_kb1 k0 k1).1, b2, b4⟩
      · exact ⟨k1, (pq_kb1 k0 k1).2, b3, b5⟩
    cases kx with
    | false =>
      refine pq_opId (r := -3) hI ?_ ?_
      · unfold M_X8_again
        rw [ex, if_neg (nI_pos (by omega)), if_pos (show nI x < 2 from nI_lt (a := x) (b := 2) hx (by decide)), if_pos (c1.mpr rfl)]
      · unfold M_X9_again
        simp only [zw_nm, ei, Option.bind_some]
        rw [if_pos vx', if_neg pq_10, ex, if_pos (pq_ok_nI hx (by decide)), nI_clamp (by omega), pq_up_off _ (by decide), c2, if_pos (show nI false.toNat = 0 from rfl)]
    | true =>
      have c4 := c3 rfl
      generalize hP : zw_up (zw_up (pq_cp 9 (pq_ftp (h.1 23) (x * 21) (pq_cg 9 h)) h) 19 1 0) 19 2 0 = P
      have oP : ∀ i, i < 9 ∨ 13 < i → i ≠ 19 → P.1 i = h.1 i := fun i z1 z2 => by rw [← hP, pq_up_off _ z2, pq_up_off _ z2, pq_cp_off _ _ (by omega)]
      have frP : pq_fr pq_tA h P := by
        rw [← hP]
        exact pq_fr_up (pq_fr_up (pq_fr_cp9 (pq_fr_rf _ h) _) _ rfl) _ rfl
      have cgP : ∀ k, k < 22 → pq_cg 9 P k = pq_ftp (h.1 23) (x * 21) (pq_cg 9 h) k := fun k hk => by
        rw [← hP, pq_cg_rows (h := pq_cp 9 (pq_ftp (h.1 23) (x * 21) (pq_cg 9 h)) h) (fun i z1 z2 => by rw [pq_up_off _ (by omega), pq_up_off _ (by omega)]), pq_cg_cp _ _ hk]
      have p19 : P.1 19 2 = nI 0 ∧ P.1 19 1 = nI 0 := by
        rw [← hP, pq_up_at, if_pos ⟨rfl, rfl⟩, pq_up_at, if_neg (by decide), pq_up_at, if_pos ⟨rfl, rfl⟩]
        exact ⟨rfl, rfl⟩
      have hC : M_X8_again x1 h = some (h.1 23 (x * 21 + 20), P) := by
        unfold M_X8_again
        rw [ex, if_neg (nI_pos (by omega)), if_pos (show nI x < 2 from nI_lt (a := x) (b := 2) hx (by decide)), if_neg (fun z => by have := c1.mp z; cases this), pq_fetch (Or.inr rfl) hr]
        simp only [Option.bind_some]
        unfold M_X0_clear
        simp only [Option.bind_some, zw_nm]
        rw [hP]
        have z : pq_cg 9 P 20 = h.1 23 (x * 21 + 20) := by rw [cgP 20 (by omega), pq_ftp_lo (by omega)]
        have z2 : P.1 9 8 = h.1 23 (x * 21 + 20) := z
        rw [z2]
      have o23 : h.1 40 (21 * x + 20) = h.1 23 (x * 21 + 20) := c4.2.2.2.2 20 (by omega) (by omega)
      generalize hH : zw_up P 31 0 0 = H
      have oH : ∀ i, i ≠ 31 → H.1 i = P.1 i := fun i z => by rw [← hH, pq_up_off _ z]
      have q40 : H.1 40 = h.1 40 := by rw [oH 40 (by decide), oP 40 (by omega) (by decide)]
      have q41 : H.1 41 = h.1 41 := by rw [oH 41 (by decide), oP 41 (by omega) (by decide)]
      have hM : M_X9_again x1 P = some (h.1 23 (x * 21 + 20), zw_up (zw_upR H 37 (pq_b21 (fun k => H.1 40 (21 * x + k)) (H.1 37) 21)) 31 21 0) := by
        unfold M_X9_again
        simp only [zw_nm, ei, Option.bind_some]
        rw [if_pos vx', if_neg pq_10, ex, if_pos (pq_ok_nI hx (by decide)), nI_clamp (by omega), hH, q41, c2, if_neg (show ¬ nI true.toNat = 0 by decide)]
        unfold L_X9_again_31
        have := pq_ag31 H hx 21 600 0 (by omega) (by omega)
        rw [pq_b21_0, pq_upR_id, q40, o23] at this
        rw [q40]
        exact this
      refine ⟨_, _, _, n, m, hC, hM, pq_I_le (Nat.le_succ B) ?_⟩
      generalize hF : zw_up (zw_upR H 37 (pq_b21 (fun k => H.1 40 (21 * x + k)) (H.1 37) 21)) 31 21 0 = F
      have frF : pq_fr pq_tA h F := by
        rw [← hF, ← hH]
        exact pq_fr_up (pq_fr_upR (pq_fr_up frP _ rfl) _ (fun k => rfl)) _ rfl
      have cgF : pq_cg 9 F = pq_cg 9 P := pq_cg_rows (fun i z1 z2 => by rw [← hF, pq_up_off _ (by omega), pq_upR_off _ _ (by omega), oH i (by omega)])
      have f37 : F.1 37 = pq_b21 (fun k => H.1 40 (21 * x + k)) (H.1 37) 21 := by rw [← hF, pq_up_off _ (by decide), pq_upR_row]
      refine pq_I_tA hI frF ?_ ?_ ?_
      · have := cgP 21 (by omega)
        have z : pq_cg 9 F 21 = 0 := by
          rw [cgF, this]
          exact n4
        exact z
      · rw [cgF, f37, q40]
        exact pq_Sn_cg hn hm c4 (fun k hk => by rw [cgP k (by omega), pq_ftp_lo hk]) (fun k hk => pq_b21_lo hk)
      · refine ⟨0, 0, by omega, by omega, ?_, ?_, ?_, fun j hj => by omega⟩
        · rw [← hF, pq_up_off _ (by decide), pq_upR_off _ _ (by decide), oH 19 (by decide)]; exact p19.1
        · rw [← hF, pq_up_at, if_pos ⟨rfl, rfl⟩]; rfl
        · rw [← hF, pq_up_off _ (by decide), pq_upR_off _ _ (by decide), oH 19 (by decide)]; exact p19.2
/-! seed -/
theorem pq_I_upL {n m B : Nat} {h : zw_Hp} (hI : pq_I n m B h) (z : Int64) : pq_I n m B (zw_upL (zw_upL h 0 z) 31 z) := by
  obtain ⟨h1, h2, h3, h4, h5, h6, h7, h8, h9, h10⟩ := hI
  exact ⟨h1, h2, h3, h4, h5, h6, h7, h8, h9, rfl⟩
theorem pq_seed {n m B : Nat} {h : zw_Hp} (hI : pq_I n m B h) (x1 : Int64) : ∃ (r : Int64) (h1 h2 : zw_Hp), M_X8_seed x1 h = some (r, h1) ∧ M_X9_seed x1 h1 = some (r, h2) ∧ pq_I n m (B + 1) h2 := by
  refine ⟨h.2 0, zw_upL h 0 x1, zw_upL (zw_up (zw_upL h 0 x1) 31 0 0) 31 x1, rfl, ?_, ?_⟩
  · unfold M_X9_seed
    simp only [zw_nm]
    have e : (zw_up (zw_upL h 0 x1) 31 0 0).2 31 = h.2 0 := by
      rw [pq_up_2, pq_upL_at, if_neg (by decide)]
      exact hI.2.2.2.2.2.2.2.2.2.symm
    rw [e]
  · exact pq_I_le (by omega) (pq_I_upL (pq_I_m0 hI) x1)
