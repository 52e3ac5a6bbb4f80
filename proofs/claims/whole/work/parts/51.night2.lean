/-! night of both -/
def pz_G2 (G : zw_Hp) (n : Nat) : zw_Hp := zw_upR G 33 (pq_b21 (G.1 35) (G.1 33) n)
def pz_pg (G : zw_Hp) (n m : Nat) : pq_Pg := pq_stp (pq_b21 nI (pq_b21 (fun _ => 0) (G.1 37) 21) n) 5 (fun _ => 8) m
def pz_F (G : zw_Hp) (n m : Nat) : zw_Hp := pz_nF (pz_G2 G n) m (pq_b21 (G.1 36) (G.1 34) m) (pz_pg G n m)
theorem pz_mnight (G : zw_Hp) {n m : Nat} (hn : n ≤ 5) (hm : m ≤ 4) (h6 : G.1 31 6 = nI n) (h8 : G.1 31 8 = nI m) : L_X9_night_51 (0, G) = some (10 * nI n + nI m, pz_F G n m) := by
  have a1 := pz_n51 G 21 600 0 (by omega) (by omega)
  rw [pq_b21_0, pq_upR_id] at a1
  have a2 := pz_n72 G (pq_b21 (fun _ => 0) (G.1 37) 21) hn h6 n 600 0 (by omega) (by omega)
  rw [pq_b21_0, pq_b21_0, pq_upR_id] at a2
  have g6 : (pz_G2 G n).1 31 6 = nI n := by unfold pz_G2; rw [pq_upR_off _ _ (by decide)]; exact h6
  have g8 : (pz_G2 G n).1 31 8 = nI m := by unfold pz_G2; rw [pq_upR_off _ _ (by decide)]; exact h8
  have g36 : (pz_G2 G n).1 36 = G.1 36 := by unfold pz_G2; rw [pq_upR_off _ _ (by decide)]
  have g34 : (pz_G2 G n).1 34 = G.1 34 := by unfold pz_G2; rw [pq_upR_off _ _ (by decide)]
  have a3 := pz_n107 (pz_G2 G n) (pq_b21 nI (pq_b21 (fun _ => 0) (G.1 37) 21) n) hm g8 m 600 0 (by omega) (by omega)
  rw [pq_b21_0, pq_upR_id, pq_stp_0, g6, g36, g34] at a3
  unfold L_X9_night_51
  rw [show (0 : Int32) = nI 0 from rfl]
  refine a1.trans (Eq.trans ?_ a3)
  exact a2
theorem pz_F_off (G : zw_Hp) (n m : Nat) {i : Nat} (h1 : i ≠ 31) (h2 : i ≠ 33) (h3 : i ≠ 34) (h4 : i ≠ 37) (h5 : i ≠ 41) : (pz_F G n m).1 i = G.1 i := by
  unfold pz_F pz_nF pz_G2
  rw [pq_up_off _ h5, pq_up_off _ h5, pq_up_off _ h1, pq_up_off _ h4, pq_up_off _ h4, pq_upR_off _ _ h4, pq_upR_off _ _ h3, pq_upR_off _ _ h2]
theorem pz_F_31 (G : zw_Hp) (n m : Nat) {k : Nat} (hk : k ≠ 21) : (pz_F G n m).1 31 k = G.1 31 k := by
  unfold pz_F pz_nF pz_G2
  rw [pq_up_off _ (by decide), pq_up_off _ (by decide), pq_up_at, if_neg (by omega), pq_up_off _ (by decide), pq_up_off _ (by decide), pq_upR_off _ _ (by decide), pq_upR_off _ _ (by decide), pq_upR_off _ _ (by decide)]
theorem pz_F_21 (G : zw_Hp) (n m : Nat) : (pz_F G n m).1 31 21 = nI 0 := by
  unfold pz_F pz_nF pz_G2
  rw [pq_up_off _ (by decide), pq_up_off _ (by decide), pq_up_at, if_pos ⟨rfl, rfl⟩]
  rfl
theorem pz_F_33 (G : zw_Hp) {n m : Nat} {k : Nat} (hk : k < n) : (pz_F G n m).1 33 k = G.1 35 k := by
  unfold pz_F pz_nF pz_G2
  rw [pq_up_off _ (by decide), pq_up_off _ (by decide), pq_up_off _ (by decide), pq_up_off _ (by decide), pq_up_off _ (by decide), pq_upR_off _ _ (by decide), pq_upR_off _ _ (by decide), pq_upR_row]
  exact if_pos hk
theorem pz_F_34 (G : zw_Hp) {n m : Nat} {k : Nat} (hk : k < m) : (pz_F G n m).1 34 k = G.1 36 k := by
  unfold pz_F pz_nF pz_G2
  rw [pq_up_off _ (by decide), pq_up_off _ (by decide), pq_up_off _ (by decide), pq_up_off _ (by decide), pq_up_off _ (by decide), pq_upR_off _ _ (by decide), pq_upR_row]
  exact if_pos hk
theorem pz_F_41 (G : zw_Hp) (n m : Nat) : (pz_F G n m).1 41 0 = nI 0 ∧ (pz_F G n m).1 41 1 = nI 0 := by
  unfold pz_F pz_nF pz_G2
  refine ⟨?_, ?_⟩
  · rw [pq_up_at, if_neg (by decide), pq_up_at, if_pos ⟨rfl, rfl⟩]; rfl
  · rw [pq_up_at, if_pos ⟨rfl, rfl⟩]; rfl
theorem pz_F_37 (G : zw_Hp) {n m : Nat} (hn : n ≤ 5) (hm : m ≤ 4) : (∀ s, s < n → (pz_F G n m).1 37 s = nI s) ∧ (∀ b, b < m → (pz_F G n m).1 37 (b + 5) = 8 ∧ (pz_F G n m).1 37 (b + 9) = 0 ∧ (pz_F G n m).1 37 (b + 13) = 0) ∧ (pz_F G n m).1 37 17 = G.1 31 17 ∧ (pz_F G n m).1 37 18 = G.1 31 10 ∧ (pz_F G n m).1 37 19 = 0 ∧ (pz_F G n m).1 37 20 = 0 := by
  have r : (pz_F G n m).1 37 = upd (upd (pz_pg G n m) 17 (G.1 31 17)) 18 (G.1 31 10) := by
    unfold pz_F pz_nF
    rw [pq_up_off _ (by decide), pq_up_off _ (by decide), pq_up_off _ (by decide), pq_up_row, pq_up_row, pq_upR_row]
    unfold pz_G2
    rw [pq_upR_off _ _ (show (31 : Nat) ≠ 33 by decide)]
  have z : ∀ k, 5 + m ≤ k → k < 21 → pz_pg G n m k = 0 := fun k h1 h2 => by
    unfold pz_pg
    rw [pq_stp_out (by omega)]
    unfold pq_b21
    rw [if_neg (by omega), if_pos h2]
  rw [r]
  refine ⟨fun s hs => ?_, fun b hb => ⟨?_, ?_, ?_⟩, ?_, ?_, ?_, ?_⟩
  · rw [pq_upd_ne (by omega), pq_upd_ne (by omega)]
    unfold pz_pg
    rw [pq_stp_out (by omega)]
    exact if_pos hs
  · rw [pq_upd_ne (by omega), pq_upd_ne (by omega)]
    unfold pz_pg
    rw [show b + 5 = 5 + b by omega, pq_stp_in hb]
  · rw [pq_upd_ne (by omega), pq_upd_ne (by omega)]; exact z _ (by omega) (by omega)
  · rw [pq_upd_ne (by omega), pq_upd_ne (by omega)]; exact z _ (by omega) (by omega)
  · rw [pq_upd_ne (by omega), pq_upd_eq]
  · rw [pq_upd_eq]
  · rw [pq_upd_ne (by omega), pq_upd_ne (by omega)]; exact z _ (by omega) (by omega)
  · rw [pq_upd_ne (by omega), pq_upd_ne (by omega)]; exact z _ (by omega) (by omega)
theorem pz_F_2 (G : zw_Hp) (n m : Nat) : (pz_F G n m).2 = G.2 := rfl
/-- the first page of a night is well -/
theorem pz_c0_W {n m q f : Nat} (hn : n ≤ 5) (hm : m ≤ 4) (hq : q < 2 ^ m) (hf : f ≤ 99) (B : Nat) : pq_Wb n m B (pz_c0 m (nI q) (nI f)) ∧ pq_W8 m (pz_c0 m (nI q) (nI f)) := by
  have lo : ∀ k, k < 5 → pz_c0 m (nI q) (nI f) k = nI k := fun k hk => if_pos hk
  have pl : ∀ b, b < 4 → pz_c0 m (nI q) (nI f) (b + 5) = if b < m then 8 else 10 := fun b hb => by
    unfold pz_c0
    rw [if_neg (by omega), if_pos (by omega), Nat.add_sub_cancel]
  have ze : ∀ k, 9 ≤ k → k ≠ 17 → k ≠ 18 → pz_c0 m (nI q) (nI f) k = 0 := fun k h1 h2 h3 => by
    unfold pz_c0
    rw [if_neg (by omega), if_neg (by omega), if_neg h2, if_neg h3]
  have c17 : pz_c0 m (nI q) (nI f) 17 = nI q := rfl
  have c18 : pz_c0 m (nI q) (nI f) 18 = nI f := rfl
  refine ⟨⟨⟨fun s => s, fun s hs => ⟨lo s hs, hs⟩, fun s s' _ _ e => e, fun s hs => hs⟩, ⟨fun b hb => ?_, fun b hb hmb => ?_, fun a b ha hb hab he => ?_, fun b hb => ?_⟩, ⟨⟨q, hq, c17⟩, ⟨f, hf, c18⟩⟩, ⟨⟨0, by omega, ze 19 (by omega) (by omega) (by omega)⟩, ⟨0, by omega, ze 20 (by omega) (by omega) (by omega)⟩⟩⟩, fun b hb => ⟨fun _ => ze _ (by omega) (by omega) (by omega), fun _ => ze _ (by omega) (by omega) (by omega)⟩, fun b hb => ?_⟩
  · rw [pl b hb]
    by_cases z : b < m
    · rw [if_pos z]; exact Or.inr (Or.inl rfl)
    · rw [if_neg z]; exact Or.inr (Or.inr (Or.inr rfl))
  · rw [pl b hb, if_neg (by omega)]
  · rw [pl a ha]
    by_cases z : a < m
    · rw [if_pos z]; decide
    · rw [if_neg z]; decide
  · rw [ze _ (by omega) (by omega) (by omega)]; exact pq_s9_0
  · rw [pl b (by omega), if_pos hb]; decide
/-- what holds behind a night that was told well -/
theorem pz_nightI {n m B : Nat} {h F : zw_Hp} (hI : pq_I n m B h) {n' m' q f g w : Nat} (hn : n' ≤ 5) (hm : m' ≤ 4) (hq : q < 2 ^ m') (hf : f ≤ 99) (hg : g ≤ 9) (hw : w ≤ 9)
    (p2 : F.1 6 2 = nI n') (p3 : F.1 6 3 = nI m') (p6 : F.1 6 6 = nI g) (p7 : F.1 6 7 = nI w) (p8 : ∀ b, b < m' → pq_s9 (F.1 8 b))
    (m6 : F.1 31 6 = nI n') (m8 : F.1 31 8 = nI m') (m5 : F.1 31 5 = nI w) (m4 : F.1 31 4 = nI g) (m33 : ∀ k, k < n' → F.1 33 k = F.1 7 k) (m34 : ∀ k, k < m' → F.1 34 k = F.1 8 k)
    (cg : ∀ k, k < 22 → pq_cg 9 F k = pz_c0 m' (nI q) (nI f) k)
    (g1 : ∀ s, s < n' → F.1 37 s = nI s) (g2 : ∀ b, b < m' → F.1 37 (b + 5) = 8 ∧ F.1 37 (b + 9) = 0 ∧ F.1 37 (b + 13) = 0) (g17 : F.1 37 17 = nI q) (g18 : F.1 37 18 = nI f) (g19 : F.1 37 19 = 0) (g20 : F.1 37 20 = 0)
    (a1 : F.1 19 2 = nI 0) (a2 : F.1 31 21 = nI 0) (a3 : F.1 19 1 = nI 0) (k1 : F.1 0 6 = nI 0) (k2 : F.1 41 0 = nI 0) (k3 : F.1 41 1 = nI 0)
    (t1 : F.1 1 = h.1 1) (t2 : F.1 2 = h.1 2) (t3 : F.1 32 = h.1 32) (t4 : F.1 31 2 = h.1 31 2)
    (s1 : ∀ i, (24 ≤ i ∧ i ≤ 27) ∨ (42 ≤ i ∧ i ≤ 44) → F.1 i = h.1 i) (s2 : F.1 31 24 = h.1 31 24) (l : F.2 = h.2) : pq_I n' m' (B + 1) F := by
  obtain ⟨W1, W2⟩ := pz_c0_W (n := n') hn hm hq hf (B + 1)
  obtain ⟨H1, H2, Hc, H4, H5, H6, H7, H8, H9, H10⟩ := hI
  have SN : pq_Sn n' m' (B + 1) (nI w) (pz_c0 m' (nI q) (nI f)) (F.1 37) := by
    refine pq_Sn_mk rfl W1 W2 ⟨fun s hs => ?_, fun b hb => ⟨fun y => by omega, fun _ => ?_⟩, fun k y1 y2 => ?_⟩
    · rw [g1 s hs]; exact (if_pos (show s < 5 by omega)).symm
    · obtain ⟨y1, y2, y3⟩ := g2 b hb
      have pb : pz_c0 m' (nI q) (nI f) (b + 5) = 8 := by
        unfold pz_c0
        rw [if_neg (by omega), if_pos (by omega), Nat.add_sub_cancel, if_pos hb]
      have p9 : ∀ k, 9 ≤ k → k < 17 → pz_c0 m' (nI q) (nI f) k = 0 := fun k h1 h2 => by
        unfold pz_c0
        rw [if_neg (by omega), if_neg (by omega), if_neg (by omega), if_neg (by omega)]
      rw [y1, y2, y3, pb, p9 _ (by omega) (by omega), p9 _ (by omega) (by omega)]
      exact ⟨Or.inl rfl, rfl, rfl⟩
    · rcases (show k = 17 ∨ k = 18 ∨ k = 19 ∨ k = 20 by omega) with rfl | rfl | rfl | rfl
      · rw [g17]; rfl
      · rw [g18]; rfl
      · rw [g19]; rfl
      · rw [g20]; rfl
  refine ⟨⟨p2, hn, hm, p8, ?_, ?_⟩, p3, ⟨m6, m8, ?_, ?_, m33, m34⟩, ?_, ?_, ⟨0, 0, by omega, by omega, a1, a2, a3, fun j hj => by omega⟩, ⟨false, false, k1, k2, k3, (fun y => by cases y), (fun y => by cases y)⟩, ?_, ?_, ?_⟩
  · rw [p6]; exact ⟨g, hg, rfl⟩
  · rw [p7]; exact ⟨w, hw, rfl⟩
  · rw [p7]; exact m5
  · rw [p6]; exact m4
  · have y : pq_cg 9 F 21 = 0 := by rw [cg 21 (by omega)]; rfl
    exact y
  · rw [p7]
    exact pq_Sn_cg hn hm SN (fun k hk => cg k (by omega)) (fun k hk => rfl)
  · unfold pq_It
    rw [t1, t2, t3, t4]
    exact H8
  · unfold pq_Is
    rw [s1 24 (by omega), s1 25 (by omega), s1 26 (by omega), s1 27 (by omega), s1 42 (by omega), s1 43 (by omega), s1 44 (by omega), s2]
    exact H9
  · rw [l]; exact H10
theorem pq_night {n m B : Nat} {h : zw_Hp} (hI : pq_I n m B h) : pq_op B M_X8_night M_X9_night h := by
  obtain ⟨x, x36, t1, t2, t3⟩ := hI.2.2.2.2.2.2.2.1
  obtain ⟨r3, h3, n3, m3, q3, f3, g3, w3, K3, Z3, a1, a2, a3, a4⟩ := pz_read (t := 3) (Or.inl rfl) x36 (X := h.1 2) (h := h) ⟨t1, fun k hk => rfl⟩
  have e1 := pz_eq3 a2
  by_cases r9 : r3 = -9
  · have T3 : pz_T x (h.1 2) h3 := pz_T_of (Or.inl rfl) ⟨t1, fun k hk => rfl⟩ a2
    obtain ⟨r6, h6, n', m', q, f, g, w, K, Z, b1, b2, b3, b4⟩ := pz_read (t := 6) (Or.inr rfl) x36 T3
    have tm : ∀ H : zw_Hp, H.1 31 2 = nI x → H.1 32 = h.1 32 → pz_TM x (h.1 2) H := fun H y1 y2 => ⟨y1, fun k hk => by rw [y2]; exact (t3 k hk).1⟩
    have r69 : r6 = -9 := by
      have TM3 : pz_TM x (h.1 2) h3 := tm h3 (by rw [a2.1 31 (by decide) (by decide) (by decide)]; exact t2) (a2.1 32 (by decide) (by decide) (by decide))
      obtain ⟨Ha, u1, -⟩ := a4 h3 TM3
      obtain ⟨Hb, v1, -⟩ := b4 h3 TM3
      rw [u1] at v1
      cases v1
      exact r9
    obtain ⟨hn, hm, hq, hf, hg, hw, hZ, hC6, z5, z6, z7⟩ := b3 r69
    obtain ⟨c8, c2, c3, c4, cK, cZ⟩ := hC6
    have su := pz_setUp hm c3
    rw [c4, z5] at su
    generalize hP : zw_up (zw_up (zw_up (pq_cp 9 (pz_c0 m' (nI q) (nI f)) h6) 19 1 0) 19 2 0) 0 6 0 = P
    have oP : ∀ i, i < 9 ∨ 13 < i → i ≠ 19 → i ≠ 0 → P.1 i = h6.1 i := fun i y1 y2 y3 => by
      rw [← hP, pq_up_off _ y3, pq_up_off _ y2, pq_up_off _ y2, pq_cp_off _ _ (by omega)]
    have oh : ∀ i, i < 3 ∨ 8 < i → h6.1 i = h.1 i := fun i y => by
      rw [b2.1 i (by omega) (by omega) (by omega), a2.1 i (by omega) (by omega) (by omega)]
    have oPh : ∀ i, (i < 3 ∨ 8 < i) → (i < 9 ∨ 13 < i) → i ≠ 19 → i ≠ 0 → P.1 i = h.1 i := fun i y0 y1 y2 y3 => by rw [oP i y1 y2 y3, oh i y0]
    have P2 : P.2 = h.2 := by rw [← hP]; exact b2.2.trans a2.2
    have cgP : ∀ k, k < 22 → pq_cg 9 P k = pz_c0 m' (nI q) (nI f) k := fun k hk => by
      rw [← hP, pq_cg_rows (h := pq_cp 9 (pz_c0 m' (nI q) (nI f)) h6) (fun i y1 y2 => by rw [pq_up_off _ (by omega), pq_up_off _ (by omega), pq_up_off _ (by omega)]), pq_cg_cp _ _ hk]
    have p19 : P.1 19 2 = nI 0 ∧ P.1 19 1 = nI 0 := by
      rw [← hP, pq_up_off _ (by decide), pq_up_at, if_pos ⟨rfl, rfl⟩, pq_up_at, if_neg (by decide), pq_up_at, if_pos ⟨rfl, rfl⟩]
      exact ⟨rfl, rfl⟩
    have p06 : P.1 0 6 = nI 0 := by rw [← hP, pq_up_at, if_pos ⟨rfl, rfl⟩]; rfl
    have hCl : M_X8_night h = some (10 * nI n' + nI m', P) := by
      unfold M_X8_night
      rw [a1]
      simp only [Option.bind_some]
      rw [if_pos r9, b1]
      simp only [Option.bind_some]
      rw [su]
      simp only [Option.bind_some]
      unfold M_X0_clear
      simp only [Option.bind_some, zw_nm]
      rw [hP, oP 6 (by omega) (by decide) (by decide), c2, c3]
    have TMP : pz_TM x (h.1 2) (zw_up P 31 0 0) := tm _ (by rw [pq_up_at, if_neg (by decide), oPh 31 (by omega) (by omega) (by decide) (by decide)]; exact t2) (by rw [pq_up_off _ (by decide), oPh 32 (by omega) (by omega) (by decide) (by decide)])
    obtain ⟨H', d1, d2, d3⟩ := b4 _ TMP
    obtain ⟨⟨p', k1, k2, k3, k4, k5, k6⟩, v10, v11, v12⟩ := d3 r69
    have eH : ∀ i, (i < 3 ∨ 6 ≤ i) → (i < 14 ∨ 19 ≤ i) → (i < 28 ∨ 32 ≤ i) → (i ≠ 35 ∧ i ≠ 36 ∧ i ≠ 38 ∧ i < 45) → H'.1 i = P.1 i := fun i y1 y2 y3 y4 => by
      rw [pq_eq_row d2 (fun k => pq_rl_t k y1 y2 y3 y4), pq_up_off _ (by omega)]
    have e31 : ∀ k, pq_rl 31 k = true → k ≠ 0 → H'.1 31 k = P.1 31 k := fun k y1 y2 => by
      rw [d2.1 31 k y1, pq_up_at, if_neg (by omega)]
    have mN : M_X9_night P = L_X9_night_51 (0, zw_up (zw_up (zw_up (zw_up H' 31 4 (nI g)) 31 5 (nI w)) 31 6 (nI n')) 31 8 (nI m')) := by
      unfold M_X9_night
      refine pq_nmG (fun y0 e0 => ?_)
      subst e0
      rw [d1]
      simp only [Option.bind_some]
      rw [if_pos r69]
      refine pq_nmG (fun y1 e1 => ?_)
      refine pq_nmG (fun y2 e2 => ?_)
      refine pq_nmG (fun y3 e3 => ?_)
      refine pq_nmG (fun y4 e4 => ?_)
      have u1 : ∀ k, k ≠ 4 → y1.1 31 k = H'.1 31 k := fun k hk => by rw [e1, pq_up_at, if_neg (by omega)]
      have u2 : ∀ k, k ≠ 4 → k ≠ 5 → y2.1 31 k = H'.1 31 k := fun k hk hk2 => by rw [e2, pq_up_at, if_neg (by omega), u1 k hk]
      have u3 : ∀ k, k ≠ 4 → k ≠ 5 → k ≠ 6 → y3.1 31 k = H'.1 31 k := fun k hk hk2 hk3 => by rw [e3, pq_up_at, if_neg (by omega), u2 k hk hk2]
      rw [v11] at e1
      rw [u1 12 (by decide), v12, e1] at e2
      rw [u2 13 (by decide) (by decide), k2, e2] at e3
      rw [u3 15 (by decide) (by decide) (by decide), k3, e3] at e4
      rw [e4]
    generalize hG : zw_up (zw_up (zw_up (zw_up H' 31 4 (nI g)) 31 5 (nI w)) 31 6 (nI n')) 31 8 (nI m') = G at mN
    have oG : ∀ i, i ≠ 31 → G.1 i = H'.1 i := fun i y => by rw [← hG, pq_up_off _ y, pq_up_off _ y, pq_up_off _ y, pq_up_off _ y]
    have g31 : ∀ k, k ≠ 4 → k ≠ 5 → k ≠ 6 → k ≠ 8 → G.1 31 k = H'.1 31 k := fun k y1 y2 y3 y4 => by rw [← hG, pq_up_at, if_neg (by omega), pq_up_at, if_neg (by omega), pq_up_at, if_neg (by omega), pq_up_at, if_neg (by omega)]
    have g4 : G.1 31 4 = nI g := by rw [← hG, pq_up_at, if_neg (by omega), pq_up_at, if_neg (by omega), pq_up_at, if_neg (by omega), pq_up_at, if_pos ⟨rfl, rfl⟩]
    have g5 : G.1 31 5 = nI w := by rw [← hG, pq_up_at, if_neg (by omega), pq_up_at, if_neg (by omega), pq_up_at, if_pos ⟨rfl, rfl⟩]
    have g6 : G.1 31 6 = nI n' := by rw [← hG, pq_up_at, if_neg (by omega), pq_up_at, if_pos ⟨rfl, rfl⟩]
    have g8 : G.1 31 8 = nI m' := by rw [← hG, pq_up_at, if_pos ⟨rfl, rfl⟩]
    have G2 : G.2 = h.2 := by rw [← hG]; exact d2.2.trans P2
    rw [pz_mnight G hn hm g6 g8] at mN
    refine ⟨_, P, pz_F G n' m', n', m', hCl, mN, ?_⟩
    obtain ⟨F1, F2, F3, F4, F5, F6⟩ := pz_F_37 G (n := n') (m := m') hn hm
    have rF : ∀ i, (i < 3 ∨ 6 ≤ i) → (i < 14 ∨ 19 ≤ i) → (i < 28 ∨ 32 ≤ i) → (i ≠ 35 ∧ i ≠ 36 ∧ i ≠ 38 ∧ i < 45) → i ≠ 33 → i ≠ 34 → i ≠ 37 → i ≠ 41 → (pz_F G n' m').1 i = P.1 i := fun i y1 y2 y3 y4 y5 y6 y7 y8 => by
      rw [pz_F_off G n' m' (by omega) y5 y6 y7 y8, oG i (by omega), eH i y1 y2 y3 y4]
    have F678 : ∀ i, i = 6 ∨ i = 7 ∨ i = 8 → (pz_F G n' m').1 i = h6.1 i := fun i y => by
      rw [rF i (by omega) (by omega) (by omega) (by omega) (by omega) (by omega) (by omega) (by omega), oP i (by omega) (by omega) (by omega)]
    have rFh : ∀ i, (i < 3 ∨ 8 < i) → (i < 9 ∨ 13 < i) → i ≠ 19 → i ≠ 0 → (i < 14 ∨ 19 ≤ i) → (i < 28 ∨ 32 ≤ i) → (i ≠ 35 ∧ i ≠ 36 ∧ i ≠ 38 ∧ i < 45) → i ≠ 33 → i ≠ 34 → i ≠ 37 → i ≠ 41 → (pz_F G n' m').1 i = h.1 i := fun i y1 y2 y3 y4 y5 y6 y7 y8 y9 ya yb => by
      rw [rF i (by omega) y5 y6 y7 y8 y9 ya yb, oPh i y1 y2 y3 y4]
    have cgF : pq_cg 9 (pz_F G n' m') = pq_cg 9 P := pq_cg_rows (fun i y1 y2 => rF i (by omega) (by omega) (by omega) (by omega) (by omega) (by omega) (by omega) (by omega))
    refine pz_nightI (q := q) (f := f) (g := g) (w := w) hI hn hm hq hf hg hw ?_ ?_ ?_ ?_ ?_ ?_ ?_ ?_ ?_ ?_ ?_ ?_ F1 F2 ?_ ?_ F5 F6 ?_ (pz_F_21 G n' m') ?_ ?_ (pz_F_41 G n' m').1 (pz_F_41 G n' m').2 ?_ ?_ ?_ ?_ ?_ ?_ ?_
    · rw [F678 6 (by omega)]; exact c2
    · rw [F678 6 (by omega)]; exact c3
    · rw [F678 6 (by omega)]; exact z6
    · rw [F678 6 (by omega)]; exact z7
    · intro b hb
      rw [F678 8 (by omega), show (8 : Nat) = 6 + 2 from rfl, cZ b hb]; exact hZ b hb
    · rw [pz_F_31 G n' m' (by decide)]; exact g6
    · rw [pz_F_31 G n' m' (by decide)]; exact g8
    · rw [pz_F_31 G n' m' (by decide)]; exact g5
    · rw [pz_F_31 G n' m' (by decide)]; exact g4
    · intro k hk
      rw [pz_F_33 G hk, oG 35 (by decide), k5 k hk, F678 7 (by omega), show (7 : Nat) = 6 + 1 from rfl, cK k hk]
    · intro k hk
      rw [pz_F_34 G hk, oG 36 (by decide), k6 k hk, F678 8 (by omega), show (8 : Nat) = 6 + 2 from rfl, cZ k hk]
    · intro k hk
      rw [cgF, cgP k hk]
    · rw [F3, g31 17 (by decide) (by decide) (by decide) (by decide), k4]
    · rw [F4, g31 10 (by decide) (by decide) (by decide) (by decide), v10]
    · rw [rF 19 (by omega) (by omega) (by omega) (by omega) (by omega) (by omega) (by omega) (by omega)]; exact p19.1
    · rw [rF 19 (by omega) (by omega) (by omega) (by omega) (by omega) (by omega) (by omega) (by omega)]; exact p19.2
    · rw [rF 0 (by omega) (by omega) (by omega) (by omega) (by omega) (by omega) (by omega) (by omega)]; exact p06
    · exact rFh 1 (by omega) (by omega) (by omega) (by omega) (by omega) (by omega) (by omega) (by omega) (by omega) (by omega) (by omega)
    · exact rFh 2 (by omega) (by omega) (by omega) (by omega) (by omega) (by omega) (by omega) (by omega) (by omega) (by omega) (by omega)
    · exact rFh 32 (by omega) (by omega) (by omega) (by omega) (by omega) (by omega) (by omega) (by omega) (by omega) (by omega) (by omega)
    · rw [pz_F_31 G n' m' (by decide), g31 2 (by decide) (by decide) (by decide) (by decide), e31 2 (by decide) (by decide), oPh 31 (by omega) (by omega) (by decide) (by decide)]
    · intro i y
      exact rFh i (by omega) (by omega) (by omega) (by omega) (by omega) (by omega) (by omega) (by omega) (by omega) (by omega) (by omega)
    · rw [pz_F_31 G n' m' (by decide), g31 24 (by decide) (by decide) (by decide) (by decide), e31 24 (by decide) (by decide), oPh 31 (by omega) (by omega) (by decide) (by decide)]
    · rw [pz_F_2, G2]
  · have e2 : pq_eq h (zw_up h3 31 0 0) := pq_eq_tr e1 (pq_eq_up h3 0 (by decide))
    obtain ⟨H', b1, b2, b3⟩ := a4 (zw_up h3 31 0 0) ⟨by rw [e2.1 31 2 (by decide)]; exact t2, fun k hk => by rw [e2.1 32 k (pq_rl_t k (by omega) (by omega) (by omega) (by omega))]; exact (t3 k hk).1⟩
    refine ⟨-3, h3, H', n, m, ?_, ?_, pq_I_le (Nat.le_succ B) (pq_I_eq hI (pq_eq_tr e2 b2))⟩
    · unfold M_X8_night
      rw [a1]
      simp only [Option.bind_some]
      rw [if_neg r9]
    · unfold M_X9_night
      refine pq_nmG (fun y0 e0 => ?_)
      subst e0
      rw [b1]
      simp only [Option.bind_some]
      rw [if_neg r9]
