/-! the parts of a night, of both -/
noncomputable def pz_itC (t N : Nat) (w : Int32 × zw_Hp) : Option (Int32 × zw_Hp) := zw_it (fun (k22 : (Int32 × zw_Hp) → Option (Int32 × zw_Hp)) (w : Int32 × zw_Hp) => B_X2_readFrom_22 t k22 (w.1) (w.2)) N w
noncomputable def pz_itM (N : Nat) (H : zw_Hp) : Option (Int32 × zw_Hp) := zw_it (fun (k57 : zw_Hp → Option (Int32 × zw_Hp)) (w : zw_Hp) => B_X9_readNight_57 k57 (w)) N H
theorem pz_itC_s (t N : Nat) (x : Int32) (h : zw_Hp) : pz_itC t (N + 1) (x, h) = B_X2_readFrom_22 t (pz_itC t N) x h := rfl
theorem pz_itM_s (N : Nat) (H : zw_Hp) : pz_itM (N + 1) H = B_X9_readNight_57 (pz_itM N) H := rfl
def pz_Out (t x p : Nat) (X : pq_Pg) (n m q : Nat) (K Z : pq_Pg) (h : zw_Hp) (N : Nat) : Prop := ∃ (r : Int32) (h' : zw_Hp) (n' m' q' : Nat) (K' Z' : pq_Pg), pz_itC t N (nI p, h) = some (r, h') ∧ pz_gC t h h' ∧ (r = -9 → n' ≤ 5 ∧ m' ≤ 4 ∧ q' < 2 ^ m' ∧ (∀ k, k < m' → pq_s9 (Z' k)) ∧ pz_C t 5 n' m' q' K' Z' h') ∧ ∀ (H : zw_Hp) (N' : Nat), x < p + N' → pz_TM x X H → pz_M p n m q K Z H → ∃ H', pz_itM N' H = some (r, H') ∧ pz_gM H H' ∧ (r = -9 → ∃ p', pz_M p' n' m' q' K' Z' H')
theorem pz_fail {t x p : Nat} {X : pq_Pg} {n m q : Nat} {K Z : pq_Pg} {h : zw_Hp} {N : Nat} {j : Nat} (hj : j ≤ 36) {h' : zw_Hp} (e1 : pz_itC t N (nI p, h) = some (nI j, h')) (e2 : pz_gC t h h') (e3 : ∀ (H : zw_Hp) (N' : Nat), pz_TM x X H → pz_M p n m q K Z H → ∃ H', pz_itM (N' + 1) H = some (nI j, H') ∧ pz_gM H H') (hp : p ≤ x) : pz_Out t x p X n m q K Z h N := by
  refine ⟨nI j, h', 0, 0, 0, K, Z, e1, e2, fun z => absurd z (pz_ne9 (by omega)), fun H N' a b c => ?_⟩
  obtain ⟨N2, rfl⟩ : ∃ N2, N' = N2 + 1 := ⟨N' - 1, by omega⟩
  obtain ⟨H', f1, f2⟩ := e3 H N2 b c
  exact ⟨H', f1, f2, fun z => absurd z (pz_ne9 (by omega))⟩
theorem pz_next {t x p : Nat} {X : pq_Pg} {n m q : Nat} {K Z : pq_Pg} {h : zw_Hp} {N : Nat} {p2 n2 m2 q2 : Nat} {K2 Z2 : pq_Pg} {h2 : zw_Hp} {N2 : Nat} (e1 : pz_itC t N (nI p, h) = pz_itC t N2 (nI p2, h2)) (e2 : pz_gC t h h2) (hp2 : p + 2 ≤ p2) (hp : p ≤ x) (e3 : ∀ (H : zw_Hp) (N' : Nat), pz_TM x X H → pz_M p n m q K Z H → ∃ H2, pz_itM (N' + 1) H = pz_itM N' H2 ∧ pz_gM H H2 ∧ pz_TM x X H2 ∧ pz_M p2 n2 m2 q2 K2 Z2 H2) (ih : pz_Out t x p2 X n2 m2 q2 K2 Z2 h2 N2) : pz_Out t x p X n m q K Z h N := by
  obtain ⟨r, h', n', m', q', K', Z', a1, a2, a3, a4⟩ := ih
  refine ⟨r, h', n', m', q', K', Z', e1.trans a1, pz_gC_tr e2 a2, a3, fun H N' b1 b2 b3 => ?_⟩
  obtain ⟨N3, rfl⟩ : ∃ N3, N' = N3 + 1 := ⟨N' - 1, by omega⟩
  obtain ⟨H2, c1, c2, c3, c4⟩ := e3 H N3 b2 b3
  obtain ⟨H', d1, d2, d3⟩ := a4 H2 N3 (by omega) c3 c4
  exact ⟨H', c1.trans d1, pz_gM_tr c2 d2, d3⟩
theorem pz_or0 : ∀ m : Fin 4, ∀ q : Fin 16, ∀ b : Fin 2, q.val < 2 ^ m.val → ∃ r : Fin 32, r.val < 2 ^ (m.val + 1) ∧ nI q.val ||| (nI b.val <<< (nI m.val &&& 31)) = nI r.val := by decide +kernel
theorem pz_loop {t x : Nat} (ht : t = 3 ∨ t = 6) {X : pq_Pg} (hx : x ≤ 36) : ∀ (d N p n m q : Nat) (K Z : pq_Pg) (h : zw_Hp), p ≤ x → x ≤ p + d → x < p + N → n ≤ 5 → m ≤ 4 → q < 2 ^ m → (∀ k, k < m → pq_s9 (Z k)) → pz_T x X h → pz_C t 5 n m q K Z h → pz_Out t x p X n m q K Z h N := by
  intro d
  induction d with
  | zero =>
    intro N p n m q K Z h hp hd hN hn hm hq hZ hT hC
    have epx : p = x := by omega
    subst epx
    obtain ⟨N1, rfl⟩ : ∃ N1, N = N1 + 1 := ⟨N - 1, by omega⟩
    refine ⟨-9, h, n, m, q, K, Z, ?_, pz_gC_rf t h, fun _ => ⟨hn, hm, hq, hZ, hC⟩, fun H N' b1 b2 b3 => ?_⟩
    · rw [pz_itC_s, pz_fin hT hx, hC.1, if_pos (show nI 5 = 5 from rfl)]
    · obtain ⟨N2, rfl⟩ : ∃ N2, N' = N2 + 1 := ⟨N' - 1, by omega⟩
      refine ⟨H, ?_, pz_gM_rf H, fun _ => ⟨p, b3⟩⟩
      rw [pz_itM_s]
      unfold B_X9_readNight_57
      rw [b2.1, b3.1, if_pos (nI_le (Nat.le_refl p) (by omega))]
  | succ d ih =>
    intro N p n m q K Z h hp hd hN hn hm hq hZ hT hC
    by_cases epx : p = x
    · subst epx
      obtain ⟨N1, rfl⟩ : ∃ N1, N = N1 + 1 := ⟨N - 1, by omega⟩
      refine ⟨-9, h, n, m, q, K, Z, ?_, pz_gC_rf t h, fun _ => ⟨hn, hm, hq, hZ, hC⟩, fun H N' b1 b2 b3 => ?_⟩
      · rw [pz_itC_s, pz_fin hT hx, hC.1, if_pos (show nI 5 = 5 from rfl)]
      · obtain ⟨N2, rfl⟩ : ∃ N2, N' = N2 + 1 := ⟨N' - 1, by omega⟩
        refine ⟨H, ?_, pz_gM_rf H, fun _ => ⟨p, b3⟩⟩
        rw [pz_itM_s]
        unfold B_X9_readNight_57
        rw [b2.1, b3.1, if_pos (nI_le (Nat.le_refl p) (by omega))]
    · have hpx : p < x := by omega
      obtain ⟨N1, rfl⟩ : ∃ N1, N = N1 + 1 := ⟨N - 1, by omega⟩
      obtain ⟨N2, rfl⟩ : ∃ N2, N1 = N2 + 1 := ⟨N1 - 1, by omega⟩
      have c8 : h.1 t 8 = 5 := hC.1
      by_cases cP : X p = 80 ∧ n < 5
      · -- a person
        obtain ⟨cP1, n5⟩ := cP
        have s1 : pz_itC t (N2 + 1 + 1) (nI p, h) = pz_itC t (N2 + 1) (nI (p + 1), zw_up h t 8 6) := by
          rw [pz_itC_s, pz_stp hT hx hpx, cP1, pz_l5P c8 hC.2.1 n5]
          simp +decide only [Option.bind_some, if_false]
        have g1 : pz_gC t h (zw_up h t 8 6) := pz_gC_up (pz_gC_rf t h) 8 6 (by omega)
        have hT1 := pz_T_of ht hT g1.1
        have q8 : (zw_up h t 8 6).1 t 8 = 6 := by rw [pq_up_at, if_pos ⟨rfl, rfl⟩]
        have q2 : (zw_up h t 8 6).1 t 2 = nI n := by rw [pq_up_at, if_neg (by omega)]; exact hC.2.1
        have mp : ∀ H, pz_TM x X H → pz_M p n m q K Z H → M_X9_readPart H = (if p + 1 < x ∧ 0 ≤ X (p + 1) - 48 ∧ X (p + 1) - 48 ≤ 3 then some (1, zw_up (zw_up (zw_up (zw_up H 31 3 (nI (p + 1))) 31 3 (nI (p + 1 + 1))) 35 n (X (p + 1) - 48)) 31 13 (nI (n + 1))) else some (0, zw_up H 31 3 (nI (p + 1)))) := by
          intro H b2 b3
          rw [pz_pt b2 b3 hx hpx, if_pos cP1, if_neg (show ¬ (5 : Int32) ≤ nI n from nI_ge (a := n) (b := 5) n5 (by decide)), pz_rP (pz_TM_up b2 _ (by decide) (by decide)) hx (show p + 1 ≤ x by omega) (by rw [pq_up_at, if_pos ⟨rfl, rfl⟩]) (n := n) (by rw [pq_up_at, if_neg (by decide)]; exact b3.2.1) n5]
          split
          · simp +decide only [Option.bind_some, or_true, if_true]
          · simp +decide only [Option.bind_some, true_or, if_true]
        by_cases y : p + 1 < x ∧ 0 ≤ X (p + 1) - 48 ∧ X (p + 1) - 48 ≤ 3
        · obtain ⟨y1, y2⟩ := y
          have s2 : pz_itC t (N2 + 1) (nI (p + 1), zw_up h t 8 6) = pz_itC t N2 (nI (p + 2), zw_up (zw_up (zw_up (zw_up h t 8 6) (t + 1) n (X (p + 1) - 48)) t 2 (nI (n + 1))) t 8 5) := by
            rw [pz_itC_s, pz_stp hT1 hx y1, pz_l6 _ q8 q2 n5, if_pos y2]
            simp +decide only [Option.bind_some, if_false]
          have g2 : pz_gC t h (zw_up (zw_up (zw_up (zw_up h t 8 6) (t + 1) n (X (p + 1) - 48)) t 2 (nI (n + 1))) t 8 5) := pz_gC_up (pz_gC_up (pz_gC_up g1 _ _ (by omega)) _ _ (by omega)) _ _ (by omega)
          refine pz_next (s1.trans s2) g2 (by omega) hp (fun H N' b2 b3 => ?_) (ih N2 (p + 2) (n + 1) m q (upd K n (X (p + 1) - 48)) Z _ (by omega) (by omega) (by omega) (by omega) hm hq hZ (pz_T_of ht hT g2.1) ?_)
          · refine ⟨zw_up (zw_up (zw_up (zw_up H 31 3 (nI (p + 1))) 31 3 (nI (p + 1 + 1))) 35 n (X (p + 1) - 48)) 31 13 (nI (n + 1)), ?_, ?_, ?_, ?_⟩
            · rw [pz_itM_s, pz_mst b2 b3 hx hpx, mp H b2 b3, if_pos ⟨y1, y2⟩]
              simp +decide only [Option.bind_some, if_false]
            · exact pz_gM_up (pz_gM_up (pz_gM_up (pz_gM_up (pz_gM_rf H) _ (by decide) (by decide)) _ (by decide) (by decide)) _ (pz_rl35 n) (fun z => absurd z (by decide))) _ (by decide) (by decide)
            · exact pz_TM_up (pz_TM_up (pz_TM_up (pz_TM_up b2 _ (by decide) (by decide)) _ (by decide) (by decide)) _ (by decide) (fun z => absurd z (by decide))) _ (by decide) (by decide)
            · obtain ⟨b31, b32, b33, b34, b35, b36⟩ := b3
              refine ⟨?_, ?_, ?_, ?_, fun k hk => ?_, fun k hk => ?_⟩
              · rw [pq_up_at, if_neg (by decide), pq_up_off _ (by decide), pq_up_at, if_pos ⟨rfl, rfl⟩]
              · rw [pq_up_at, if_pos ⟨rfl, rfl⟩]
              · rw [pq_up_at, if_neg (by decide), pq_up_off _ (by decide), pq_up_at, if_neg (by decide), pq_up_at, if_neg (by decide)]; exact b33
              · rw [pq_up_at, if_neg (by decide), pq_up_off _ (by decide), pq_up_at, if_neg (by decide), pq_up_at, if_neg (by decide)]; exact b34
              · rw [pq_up_off _ (by decide), pq_up_at, pq_up_off _ (by decide), pq_up_off _ (by decide)]
                by_cases kn : k = n
                · rw [if_pos ⟨rfl, kn⟩, kn, pq_upd_eq]
                · rw [if_neg (fun z => kn z.2), pq_upd_ne kn]; exact b35 k (by omega)
              · rw [pq_up_off _ (by decide), pq_up_off _ (by decide), pq_up_off _ (by decide), pq_up_off _ (by decide)]; exact b36 k hk
          · obtain ⟨b31, b32, b33, b34, b35, b36⟩ := hC
            refine ⟨?_, ?_, ?_, ?_, fun k hk => ?_, fun k hk => ?_⟩
            · rw [pq_up_at, if_pos ⟨rfl, rfl⟩]; rfl
            · rw [pq_up_at, if_neg (by omega), pq_up_at, if_pos ⟨rfl, rfl⟩]
            · rw [pq_up_at, if_neg (by omega), pq_up_at, if_neg (by omega), pq_up_at, if_neg (by omega), pq_up_at, if_neg (by omega)]; exact b33
            · rw [pq_up_at, if_neg (by omega), pq_up_at, if_neg (by omega), pq_up_at, if_neg (by omega), pq_up_at, if_neg (by omega)]; exact b34
            · rw [pq_up_at, if_neg (by omega), pq_up_at, if_neg (by omega), pq_up_at]
              by_cases kn : k = n
              · rw [if_pos ⟨rfl, kn⟩, kn, pq_upd_eq]
              · rw [if_neg (fun z => kn z.2), pq_upd_ne kn, pq_up_at, if_neg (by omega)]; exact b35 k (by omega)
            · rw [pq_up_at, if_neg (by omega), pq_up_at, if_neg (by omega), pq_up_at, if_neg (by omega), pq_up_at, if_neg (by omega)]; exact b36 k hk
        · refine pz_fail (j := p + 1) (by omega) (h' := zw_up h t 8 6) (s1.trans ?_) g1 (fun H N' b2 b3 => ⟨zw_up H 31 3 (nI (p + 1)), ?_, pz_gM_up (pz_gM_rf H) _ (by decide) (by decide)⟩) hp
          · by_cases p1 : p + 1 < x
            · rw [pz_itC_s, pz_stp hT1 hx p1, pz_l6 _ q8 q2 n5, if_neg (fun z => y ⟨p1, z⟩)]
              simp +decide only [Option.bind_some, if_true]
            · have e1 : p + 1 = x := by omega
              rw [pz_itC_s, e1, pz_fin hT1 hx, q8, if_neg (by decide)]
          · rw [pz_itM_s, pz_mst b2 b3 hx hpx, mp H b2 b3, if_neg y]
            simp +decide only [Option.bind_some, if_true]
            rw [pq_up_at, if_pos ⟨rfl, rfl⟩]
      · by_cases cB : X p = 66 ∧ m < 4
        · -- a bucket
          obtain ⟨cB1, m4⟩ := cB
          have s1 : pz_itC t (N2 + 1 + 1) (nI p, h) = pz_itC t (N2 + 1) (nI (p + 1), zw_up h t 8 7) := by
            rw [pz_itC_s, pz_stp hT hx hpx, cB1, pz_l5B c8 hC.2.2.1 m4]
            simp +decide only [Option.bind_some, if_false]
          have g1 : pz_gC t h (zw_up h t 8 7) := pz_gC_up (pz_gC_rf t h) 8 7 (by omega)
          have hT1 := pz_T_of ht hT g1.1
          have q8 : (zw_up h t 8 7).1 t 8 = 7 := by rw [pq_up_at, if_pos ⟨rfl, rfl⟩]
          have q3 : (zw_up h t 8 7).1 t 3 = nI m := by rw [pq_up_at, if_neg (by omega)]; exact hC.2.2.1
          have mp : ∀ H, pz_TM x X H → pz_M p n m q K Z H → M_X9_readPart H = (if p + 1 < x ∧ 1 ≤ X (p + 1) - 48 ∧ X (p + 1) - 48 ≤ 9 then (if p + 1 + 1 < x ∧ 0 ≤ X (p + 1 + 1) - 48 ∧ X (p + 1 + 1) - 48 ≤ 1 then some (1, zw_up (zw_up (zw_up (zw_up (zw_up (zw_up H 31 3 (nI (p + 1))) 31 3 (nI (p + 1 + 1))) 31 3 (nI (p + 1 + 1 + 1))) 36 m (X (p + 1) - 48)) 31 17 (nI q ||| ((X (p + 1 + 1) - 48) <<< (nI m &&& 31)))) 31 15 (nI (m + 1))) else some (0, zw_up (zw_up H 31 3 (nI (p + 1))) 31 3 (nI (p + 1 + 1)))) else some (0, zw_up H 31 3 (nI (p + 1)))) := by
            intro H b2 b3
            rw [pz_pt b2 b3 hx hpx, if_neg (show ¬ X p = 80 by rw [cB1]; decide)]
            unfold B_X9_readPart_39
            rw [if_pos cB1, show (zw_up H 31 3 (nI (p + 1))).1 31 15 = nI m by rw [pq_up_at, if_neg (by decide)]; exact b3.2.2.1, if_neg (show ¬ (4 : Int32) ≤ nI m from nI_ge (a := m) (b := 4) m4 (by decide)), pz_rB (pz_TM_up b2 _ (by decide) (by decide)) hx (show p + 1 ≤ x by omega) (by rw [pq_up_at, if_pos ⟨rfl, rfl⟩]) (m := m) (q := q) (by rw [pq_up_at, if_neg (by decide)]; exact b3.2.2.1) (by rw [pq_up_at, if_neg (by decide)]; exact b3.2.2.2.1) m4]
            split
            · split
              · simp +decide only [Option.bind_some, or_true, if_true]
              · simp +decide only [Option.bind_some, true_or, if_true]
            · simp +decide only [Option.bind_some, true_or, if_true]
          by_cases y : p + 1 < x ∧ 1 ≤ X (p + 1) - 48 ∧ X (p + 1) - 48 ≤ 9
          · obtain ⟨y1, y2⟩ := y
            have s2 : pz_itC t (N2 + 1) (nI (p + 1), zw_up h t 8 7) = pz_itC t N2 (nI (p + 1 + 1), zw_up (zw_up (zw_up h t 8 7) (t + 2) m (X (p + 1) - 48)) t 8 8) := by
              rw [pz_itC_s, pz_stp hT1 hx y1, pz_l7 _ q8 q3 m4, if_pos y2]
              simp +decide only [Option.bind_some, if_false]
            have g2 : pz_gC t h (zw_up (zw_up (zw_up h t 8 7) (t + 2) m (X (p + 1) - 48)) t 8 8) := pz_gC_up (pz_gC_up g1 _ _ (by omega)) _ _ (by omega)
            have hT2 := pz_T_of ht hT g2.1
            obtain ⟨N3, rfl⟩ : ∃ N3, N2 = N3 + 1 := ⟨N2 - 1, by omega⟩
            have r8 : (zw_up (zw_up (zw_up h t 8 7) (t + 2) m (X (p + 1) - 48)) t 8 8).1 t 8 = 8 := by rw [pq_up_at, if_pos ⟨rfl, rfl⟩]
            have r3 : (zw_up (zw_up (zw_up h t 8 7) (t + 2) m (X (p + 1) - 48)) t 8 8).1 t 3 = nI m := by rw [pq_up_at, if_neg (by omega), pq_up_at, if_neg (by omega)]; exact q3
            have r4 : (zw_up (zw_up (zw_up h t 8 7) (t + 2) m (X (p + 1) - 48)) t 8 8).1 t 4 = nI q := by rw [pq_up_at, if_neg (by omega), pq_up_at, if_neg (by omega), pq_up_at, if_neg (by omega)]; exact hC.2.2.2.1
            by_cases u : p + 1 + 1 < x ∧ 0 ≤ X (p + 1 + 1) - 48 ∧ X (p + 1 + 1) - 48 ≤ 1
            · obtain ⟨u1, u2⟩ := u
              have s3 := (show pz_itC t (N3 + 1) (nI (p + 1 + 1), zw_up (zw_up (zw_up h t 8 7) (t + 2) m (X (p + 1) - 48)) t 8 8) = pz_itC t N3 (nI (p + 3), zw_up (zw_up (zw_up (zw_up (zw_up (zw_up h t 8 7) (t + 2) m (X (p + 1) - 48)) t 8 8) t 4 (nI q ||| ((X (p + 1 + 1) - 48) <<< (nI m &&& 31)))) t 3 (nI (m + 1))) t 8 5) by
                rw [pz_itC_s, pz_stp hT2 hx u1, pz_l8 _ r8 r3 r4, if_pos u2]
                simp +decide only [Option.bind_some, if_false])
              have g3 : pz_gC t h (zw_up (zw_up (zw_up (zw_up (zw_up (zw_up h t 8 7) (t + 2) m (X (p + 1) - 48)) t 8 8) t 4 (nI q ||| ((X (p + 1 + 1) - 48) <<< (nI m &&& 31)))) t 3 (nI (m + 1))) t 8 5) := pz_gC_up (pz_gC_up (pz_gC_up g2 _ _ (by omega)) _ _ (by omega)) _ _ (by omega)
              obtain ⟨j, j0, j1, ej, -⟩ := (pq_rng (X (p + 1 + 1) - 48) (a := 0) (b := 1) (by decide) (by decide)).resolve_left (fun z => z.1 u2)
              obtain ⟨q2, q21, q22⟩ : ∃ q2, q2 < 2 ^ (m + 1) ∧ nI q ||| ((X (p + 1 + 1) - 48) <<< (nI m &&& 31)) = nI q2 := by
                have hq16 : q < 16 := Nat.lt_of_lt_of_le hq (pq_p16 hm)
                obtain ⟨r, r1, r2⟩ := pz_or0 ⟨m, m4⟩ ⟨q, hq16⟩ ⟨j, by omega⟩ hq
                exact ⟨r.val, r1, by rw [ej]; exact r2⟩
              have hs9 : pq_s9 (X (p + 1) - 48) := by
                obtain ⟨i, i0, i1, ei, -⟩ := (pq_rng (X (p + 1) - 48) (a := 1) (b := 9) (by decide) (by decide)).resolve_left (fun z => z.1 y2)
                exact ⟨i, i1, ei⟩
              rw [q22] at s3 g3
              refine pz_next ((s1.trans s2).trans s3) g3 (by omega) hp (fun H N' b2 b3 => ?_) (ih N3 (p + 3) n (m + 1) q2 K (upd Z m (X (p + 1) - 48)) _ (by omega) (by omega) (by omega) hn (by omega) q21 (fun k hk => ?_) (pz_T_of ht hT g3.1) ?_)
              · refine ⟨zw_up (zw_up (zw_up (zw_up (zw_up (zw_up H 31 3 (nI (p + 1))) 31 3 (nI (p + 1 + 1))) 31 3 (nI (p + 1 + 1 + 1))) 36 m (X (p + 1) - 48)) 31 17 (nI q2)) 31 15 (nI (m + 1)), ?_, ?_, ?_, ?_⟩
                · rw [pz_itM_s, pz_mst b2 b3 hx hpx, mp H b2 b3, if_pos ⟨y1, y2⟩, if_pos ⟨u1, u2⟩, q22]
                  simp +decide only [Option.bind_some, if_false]
                · exact pz_gM_up (pz_gM_up (pz_gM_up (pz_gM_up (pz_gM_up (pz_gM_up (pz_gM_rf H) _ (by decide) (by decide)) _ (by decide) (by decide)) _ (by decide) (by decide)) _ (pz_rl36 m) (fun z => absurd z (by decide))) _ (by decide) (by decide)) _ (by decide) (by decide)
                · exact pz_TM_up (pz_TM_up (pz_TM_up (pz_TM_up (pz_TM_up (pz_TM_up b2 _ (by decide) (by decide)) _ (by decide) (by decide)) _ (by decide) (by decide)) _ (by decide) (fun z => absurd z (by decide))) _ (by decide) (by decide)) _ (by decide) (by decide)
                · obtain ⟨b31, b32, b33, b34, b35, b36⟩ := b3
                  refine ⟨?_, ?_, ?_, ?_, fun k hk => ?_, fun k hk => ?_⟩
                  · rw [pq_up_at, if_neg (by decide), pq_up_at, if_neg (by decide), pq_up_off _ (by decide), pq_up_at, if_pos ⟨rfl, rfl⟩]
                  · rw [pq_up_at, if_neg (by decide), pq_up_at, if_neg (by decide), pq_up_off _ (by decide), pq_up_at, if_neg (by decide), pq_up_at, if_neg (by decide), pq_up_at, if_neg (by decide)]; exact b32
                  · rw [pq_up_at, if_pos ⟨rfl, rfl⟩]
                  · rw [pq_up_at, if_neg (by decide), pq_up_at, if_pos ⟨rfl, rfl⟩]
                  · rw [pq_up_off _ (by decide), pq_up_off _ (by decide), pq_up_off _ (by decide), pq_up_off _ (by decide), pq_up_off _ (by decide), pq_up_off _ (by decide)]; exact b35 k hk
                  · rw [pq_up_off _ (by decide), pq_up_off _ (by decide), pq_up_at, pq_up_off _ (by decide), pq_up_off _ (by decide), pq_up_off _ (by decide)]
                    by_cases kn : k = m
                    · rw [if_pos ⟨rfl, kn⟩, kn, pq_upd_eq]
                    · rw [if_neg (fun z => kn z.2), pq_upd_ne kn]; exact b36 k (by omega)
              · by_cases km : k = m
                · rw [km, pq_upd_eq]; exact hs9
                · rw [pq_upd_ne km]; exact hZ k (by omega)
              · obtain ⟨b31, b32, b33, b34, b35, b36⟩ := hC
                refine ⟨?_, ?_, ?_, ?_, fun k hk => ?_, fun k hk => ?_⟩
                · rw [pq_up_at, if_pos ⟨rfl, rfl⟩]; rfl
                · rw [pq_up_at, if_neg (by omega), pq_up_at, if_neg (by omega), pq_up_at, if_neg (by omega), pq_up_at, if_neg (by omega), pq_up_at, if_neg (by omega), pq_up_at, if_neg (by omega)]; exact b32
                · rw [pq_up_at, if_neg (by omega), pq_up_at, if_pos ⟨rfl, rfl⟩]
                · rw [pq_up_at, if_neg (by omega), pq_up_at, if_neg (by omega), pq_up_at, if_pos ⟨rfl, rfl⟩]
                · rw [pq_up_at, if_neg (by omega), pq_up_at, if_neg (by omega), pq_up_at, if_neg (by omega), pq_up_at, if_neg (by omega), pq_up_at, if_neg (by omega), pq_up_at, if_neg (by omega)]; exact b35 k hk
                · rw [pq_up_at, if_neg (by omega), pq_up_at, if_neg (by omega), pq_up_at, if_neg (by omega), pq_up_at, if_neg (by omega), pq_up_at]
                  by_cases kn : k = m
                  · rw [if_pos ⟨rfl, kn⟩, kn, pq_upd_eq]
                  · rw [if_neg (fun z => kn z.2), pq_upd_ne kn, pq_up_at, if_neg (by omega)]; exact b36 k (by omega)
            · refine pz_fail (j := p + 1 + 1) (by omega) ((s1.trans s2).trans ?_) g2 (fun H N' b2 b3 => ⟨zw_up (zw_up H 31 3 (nI (p + 1))) 31 3 (nI (p + 1 + 1)), ?_, pz_gM_up (pz_gM_up (pz_gM_rf H) _ (by decide) (by decide)) _ (by decide) (by decide)⟩) hp
              · by_cases p1 : p + 1 + 1 < x
                · rw [pz_itC_s, pz_stp hT2 hx p1, pz_l8 _ r8 r3 r4, if_neg (fun z => u ⟨p1, z⟩)]
                  simp +decide only [Option.bind_some, if_true]
                · have e1 : p + 1 + 1 = x := by omega
                  rw [pz_itC_s, e1, pz_fin hT2 hx, r8, if_neg (by decide)]
              · rw [pz_itM_s, pz_mst b2 b3 hx hpx, mp H b2 b3, if_pos ⟨y1, y2⟩, if_neg u]
                simp +decide only [Option.bind_some, if_true]
                rw [pq_up_at, if_pos ⟨rfl, rfl⟩]
          · refine pz_fail (j := p + 1) (by omega) (h' := zw_up h t 8 7) (s1.trans ?_) g1 (fun H N' b2 b3 => ⟨zw_up H 31 3 (nI (p + 1)), ?_, pz_gM_up (pz_gM_rf H) _ (by decide) (by decide)⟩) hp
            · by_cases p1 : p + 1 < x
              · rw [pz_itC_s, pz_stp hT1 hx p1, pz_l7 _ q8 q3 m4, if_neg (fun z => y ⟨p1, z⟩)]
                simp +decide only [Option.bind_some, if_true]
              · have e1 : p + 1 = x := by omega
                rw [pz_itC_s, e1, pz_fin hT1 hx, q8, if_neg (by decide)]
            · rw [pz_itM_s, pz_mst b2 b3 hx hpx, mp H b2 b3, if_neg y]
              simp +decide only [Option.bind_some, if_true]
              rw [pq_up_at, if_pos ⟨rfl, rfl⟩]
        · -- neither
          refine pz_fail (j := p) (by omega) (h' := h) ?_ (pz_gC_rf t h) (fun H N' b2 b3 => ⟨zw_up (zw_up H 31 3 (nI (p + 1))) 31 3 (nI p), ?_, pz_gM_up (pz_gM_up (pz_gM_rf H) _ (by decide) (by decide)) _ (by decide) (by decide)⟩) hp
          · rw [pz_itC_s, pz_stp hT hx hpx, pz_l5N _ c8 hC.2.1 hC.2.2.1 hn hm cP cB]
            simp +decide only [Option.bind_some, if_true]
          · have w : B_X9_readPart_39 (X p) (zw_up H 31 3 (nI (p + 1))) = some (0, zw_up (zw_up H 31 3 (nI (p + 1))) 31 3 (nI p)) := by
              unfold B_X9_readPart_39
              have e3 : (zw_up H 31 3 (nI (p + 1))).1 31 3 - 1 = nI p := by rw [pq_up_at, if_pos ⟨rfl, rfl⟩, nI_pred]
              simp only [zw_nm]
              rw [e3, show (zw_up H 31 3 (nI (p + 1))).1 31 15 = nI m by rw [pq_up_at, if_neg (by decide)]; exact b3.2.2.1]
              by_cases q66 : X p = 66
              · have m4 : ¬ m < 4 := fun z => cB ⟨q66, z⟩
                rw [if_pos q66, if_pos (show (4 : Int32) ≤ nI m from nI_le (a := 4) (b := m) (by omega) (by omega))]
              · rw [if_neg q66]
            have w2 : M_X9_readPart H = some (0, zw_up (zw_up H 31 3 (nI (p + 1))) 31 3 (nI p)) := by
              rw [pz_pt b2 b3 hx hpx, w]
              by_cases q80 : X p = 80
              · have n5 : ¬ n < 5 := fun z => cP ⟨q80, z⟩
                rw [if_pos q80, if_pos (show (5 : Int32) ≤ nI n from nI_le (a := 5) (b := n) (by omega) (by omega))]
              · rw [if_neg q80]
            rw [pz_itM_s, pz_mst b2 b3 hx hpx, w2]
            simp +decide only [Option.bind_some, if_true]
            rw [pq_up_at, if_pos ⟨rfl, rfl⟩]
