theorem pq_upd_sw {g : pq_Pg} {i j : Nat} (x y : Int32) (hij : i ≠ j) : upd (upd g i x) j y = upd (upd g j y) i x := by
  funext k
  by_cases h1 : k = i
  · subst h1; rw [pq_upd_ne hij, pq_upd_eq, pq_upd_eq]
  · rw [pq_upd_ne (i := i) h1]
    by_cases h2 : k = j
    · subst h2; rw [pq_upd_eq, pq_upd_eq]
    · rw [pq_upd_ne h2, pq_upd_ne h2, pq_upd_ne h1]
def pq_dn (g : pq_Pg) (v : Int32) : Nat → Nat → Nat
  | 0, f => f
  | j + 1, f => pq_dn g v j (if g (j + 5) = v then j else f)
theorem pq_dn_no {g : pq_Pg} {v : Int32} : ∀ (m f : Nat), (∀ j, j < m → g (j + 5) ≠ v) → pq_dn g v m f = f := by
  intro m
  induction m with
  | zero => intro f _; rfl
  | succ m ih =>
    intro f h
    show pq_dn g v m (if g (m + 5) = v then m else f) = f
    rw [if_neg (h m (by omega))]
    exact ih f (fun j hj => h j (by omega))
theorem pq_dn_at {g : pq_Pg} {v : Int32} {b : Nat} (hb : g (b + 5) = v) (hl : ∀ j, j < b → g (j + 5) ≠ v) : ∀ (m f : Nat), b < m → pq_dn g v m f = b := by
  intro m
  induction m with
  | zero => intro f h; omega
  | succ m ih =>
    intro f h
    show pq_dn g v m (if g (m + 5) = v then m else f) = b
    by_cases q : b = m
    · subst q
      rw [if_pos hb]
      exact pq_dn_no _ _ hl
    · exact ih _ (by omega)
theorem pq_lb_min {c : pq_Pg} {v : Int32} : ∀ j, j < pq_lb c v → c (j + 5) ≠ v := by
  unfold pq_lb
  intro j
  repeat' split
  all_goals (intro hj; first | omega | (rcases (show j = 0 ∨ j = 1 ∨ j = 2 ∨ j = 3 by omega) with rfl | rfl | rfl | rfl <;> first | assumption | omega))
theorem pq_dn_le {g : pq_Pg} {v : Int32} : ∀ (m f : Nat), m ≤ 4 → f ≤ 4 → pq_dn g v m f ≤ 4 := by
  intro m
  induction m with
  | zero => intro f _ h; exact h
  | succ m ih =>
    intro f h1 h2
    exact ih _ (by omega) (by split <;> omega)
theorem pq_dn_lb {r : Nat} {w : Int32} {n m : Nat} (hn : n ≤ 5) (hm : m ≤ 4) {c g : pq_Pg} (hP : pq_WP n m c) (hR : pq_R r w n m c g) : pq_dn g 8 m (pq_hf g 8 m) = pq_lb c 8 := by
  have eqv : ∀ b, b < m → (g (b + 5) = 8 ↔ c (b + 5) = 8) := by
    intro b hb
    by_cases q : b = r
    · obtain ⟨h1, -, -, h2⟩ := (hR.2.1 b hb).1 q
      rw [h1, h2]
      exact ⟨fun e => absurd e (by decide), fun e => absurd e (by decide)⟩
    · rcases ((hR.2.1 b hb).2 q).1 with e | ⟨e1, e2⟩
      · rw [e]
      · rw [e1, e2]
        exact ⟨fun e => absurd e (by decide), fun e => absurd e (by decide)⟩
  by_cases h4 : pq_lb c 8 = 4
  · have hno : ∀ j, j < m → g (j + 5) ≠ 8 := fun j hj e => pq_lb_4 h4 j (by omega) ((eqv j hj).mp e)
    rw [h4, pq_dn_no _ _ hno, pq_hf_4 m hno]
  · have h1 := pq_lb_at h4
    have h2 := pq_lb_lt h4
    have h3 := pq_lt_m hn hP h2 (by rw [h1]; decide)
    exact pq_dn_at ((eqv _ h3).mpr h1) (fun j hj e => pq_lb_min j hj ((eqv j (by omega)).mp e)) m _ h3
theorem pq_sub1 (x : Int32) : x + -1 = x - 1 := (Int32.sub_eq_add_neg x 1).symm
section
variable {pp r : Nat} {w gr : Int32} {n m : Nat} {K Z : Nat → Int32} {h : zw_Hp} {c g : pq_Pg} {sm : Int32}
theorem pq_fillLoop (hpp : pp = 37 ∨ pp = 38) : ∀ (j N f : Nat), j < N → j ≤ 4 →
    zw_it (fun (k15 : (Int32 × Int32 × zw_Hp) → Option (zw_Hp)) (w : Int32 × Int32 × zw_Hp) => B_X9_fill_15 pp k15 (w.1) (w.2.1) (w.2.2)) N (pq_bi f, nI j - 1, zw_upR h pp g) = B_X9_fill_15 pp (fun _ => none) (pq_bi (pq_dn g 8 j f)) (-1) (zw_upR h pp g) := by
  intro j
  induction j with
  | zero =>
    intro N f hN _
    obtain ⟨N', rfl⟩ : ∃ N', N = N' + 1 := ⟨N - 1, by omega⟩
    rw [pq_it_s]
    simp only []
    unfold B_X9_fill_15
    rw [if_pos (show nI 0 - 1 < 0 by decide), if_pos (show (-1 : Int32) < 0 by decide)]
    rfl
  | succ j ih =>
    intro N f hN hj
    obtain ⟨N', rfl⟩ : ∃ N', N = N' + 1 := ⟨N - 1, by omega⟩
    rw [pq_it_s]
    simp only []
    rw [nI_pred, B_X9_fill_15, if_neg (nI_pos (by omega)), if_pos (pq_a5 (by omega)).2, (pq_a5 (show j < 4 by omega)).1, pq_mp]
    simp only [B_X9_fill_34, zw_nm, pq_sub1]
    by_cases h1 : g (j + 5) = 8
    · rw [if_pos h1]
      have := ih N' j (by omega) (by omega)
      rw [pq_bi_lt (show j < 4 by omega)] at this
      refine this.trans ?_
      show _ = B_X9_fill_15 pp _ (pq_bi (pq_dn g 8 j (if g (j + 5) = 8 then j else f))) _ _
      rw [if_pos h1]
    · rw [if_neg h1]
      refine (ih N' f (by omega) (by omega)).trans ?_
      show _ = B_X9_fill_15 pp _ (pq_bi (pq_dn g 8 j (if g (j + 5) = 8 then j else f))) _ _
      rw [if_neg h1]
theorem pq_mfill (hpp : pp = 37 ∨ pp = 38) (hn : n ≤ 5) (hm : m ≤ 4) (hC : pq_C n m K Z w gr h) (hZ : ∀ b, b < m → pq_s9 (Z b)) (hW : pq_WW n c) (hP : pq_WP n m c) (hR : pq_R r w n m c g) :
    ∃ g', M_X9_fill pp (zw_upR h pp g) = some (zw_upR h pp g') ∧ pq_R r w n m (pq_fil K Z n c) g' := by
  unfold M_X9_fill L_X9_fill_15
  rw [pq_heldAt hpp hm h g hC.2.1]
  simp only [Option.bind_some, zw_nm]
  rw [pq_mo hpp h g (by decide), hC.2.1, pq_fillLoop hpp m 600 _ (by omega) hm, pq_dn_lb hn hm hP hR]
  unfold B_X9_fill_15 pq_fil
  rw [if_pos (show (-1 : Int32) < 0 by decide), pq_mo hpp h g (by decide), hC.1]
  by_cases h0 : n = 0
  · subst h0
    rw [if_pos (show nI 0 = 0 from rfl), if_pos rfl]
    exact ⟨g, rfl, hR⟩
  · rw [if_neg h0, if_neg (nI_ne0 (by omega) (by omega)), show (0 : Int32) = nI 0 from rfl, pq_heldAt hpp hm h g hC.2.1, pq_hf_lb hn hm hP hR (by decide)]
    simp only [Option.bind_some]
    generalize hb : pq_lb c 8 = b
    by_cases h4 : b = 4
    · subst h4
      rw [pq_bi_4, if_pos rfl, if_pos rfl]
      split
      · exact ⟨g, rfl, hR⟩
      · exact ⟨g, rfl, hR⟩
    · have hb4 : b < 4 := by
        have := pq_lb_le c 8
        omega
      have hbs := pq_lb_at2 hb h4
      have hbm : b < m := pq_lt_m hn hP hb4 (by rw [hbs]; decide)
      have hbr : b ≠ r := fun e => by
        have := ((hR.2.1 b hbm).1 e).1
        rw [hbs] at this
        exact absurd this (by decide)
      rw [pq_bi_lt hb4, if_neg (pq_bi_ne hb4), if_neg h4]
      generalize hb2 : pq_lb c (nI 0) = b2
      by_cases h42 : b2 = 4
      · subst h42
        rw [pq_bi_4, if_pos rfl, if_pos rfl, if_pos (pq_a5 hb4).2, (pq_a5 hb4).1, pq_mu]
        simp only [zw_nm]
        have hmn := (pq_mn2_s9 (hZ b hbm)).2
        rw [pq_isChild (r := r) hpp hn hC hW (fun s hs => by rw [pq_upd_ne (by omega)]; exact hR.1 s hs) (show 0 < n by omega)]
        refine ⟨upd (upd g (b + 9) (if pq_kd K c 0 = 3 then pq_mn2 (Z b) else Z b)) (b + 5) (nI 0), ?_, pq_R_move hR hn hm hbm hbr _ _⟩
        simp only [Option.bind_some, B_X9_fill_100, B_X9_fill_106, zw_nm, pq_ok_nI hb4 (show (4 : Nat) < 2 ^ 31 by decide), (pq_a9 hb4).1, (pq_a9 hb4).2, if_true, nI_clamp (show b < 2 ^ 31 by omega), pq_mu]
        rw [pq_mo hpp h _ (by decide), hC.2.2.2.2.2 b hbm, hmn]
        by_cases k3 : pq_kd K c 0 = 3
        · rw [if_pos k3, if_pos k3, if_neg (show ¬ ((1 : Int32) = nI 0) by decide)]
          split
          · rw [pq_upd_sw _ _ (by omega)]
          · rw [pq_upd_sw _ _ (by omega)]
        · rw [if_neg k3, if_neg k3, if_pos (show (0 : Int32) = nI 0 from rfl), pq_upd_sw _ _ (by omega)]
      · have hb24 : b2 < 4 := by
          have := pq_lb_le c (nI 0)
          omega
        rw [pq_bi_lt hb24, if_neg (pq_bi_ne hb24), if_neg h42]
        exact ⟨g, rfl, hR⟩
theorem pq_mleak1 (hpp : pp = 37 ∨ pp = 38) (hn : n ≤ 5) (hm : m ≤ 4) (hC : pq_C n m K Z w gr h) (hP : pq_WP n m c) (hR : pq_R r w n m c g) {j : Nat} (hj : j < m) (k : (Int32 × zw_Hp) → Option zw_Hp) :
    ∃ g', B_X9_leak_2 pp k (nI j) (zw_upR h pp g) = k (nI (j + 1), zw_upR h pp g') ∧ pq_R r w n m (pq_lk1 c j) g' := by
  have hj4 : j < 4 := by omega
  have same : upd g (j + 9) (g (j + 9) - 0) = g := by
    funext q
    by_cases e : q = j + 9
    · subst e; rw [pq_upd_eq, Int32.sub_zero]
    · rw [pq_upd_ne e]
  unfold B_X9_leak_2 pq_lk1 M_X9_has
  rw [pq_mo hpp h g (by decide), hC.2.1, if_neg (nI_ge hj (by omega)), if_pos (pq_a9 hj4).2, if_pos (pq_a5 hj4).2, (pq_a5 hj4).1, (pq_a9 hj4).1, pq_mp]
  simp only [B_X9_leak_50, B_X9_leak_51, zw_nm, (pq_a9 hj4).1, (pq_a9 hj4).2, if_true, pq_mu, nI_1, same, show zw_ok (17 : Int32) 21 = true by decide, show (17 : Int32).toNatClampNeg = 17 from rfl, hR.2.2 17 (by omega) (by omega)]
  by_cases q : j = r
  · obtain ⟨h1, -, -, h2⟩ := (hR.2.1 j hj).1 q
    rw [h1, h2, if_pos (by decide), if_pos (by decide)]
    exact ⟨g, rfl, hR⟩
  · obtain ⟨g1, g2, g3⟩ := (hR.2.1 j hj).2 q
    have e5 : (5 ≤ g (j + 5)) ↔ (5 ≤ c (j + 5)) := by
      rcases g1 with e | ⟨e1, e2⟩
      · rw [e]
      · rw [e1, e2]; decide
    by_cases h5 : 5 ≤ c (j + 5)
    · rw [if_pos h5, if_pos (e5.mpr h5)]
      exact ⟨g, rfl, hR⟩
    · rw [if_neg h5, if_neg (fun e => h5 (e5.mp e))]
      by_cases h17 : ((c 17 >>> (nI j &&& 31)) &&& 1) = 1
      · rw [if_pos h17, if_pos h17]
        simp only [Option.bind_some]
        rw [if_neg pq_10, g2]
        have hmx := (pq_mx_s9 (hP.2.2.2 j hj4) (d := 1) (Or.inr rfl)).2
        rw [hmx]
        have key : ∀ v, pq_R r w n m (upd c (j + 9) v) (upd g (j + 9) v) := by
          intro v
          have := pq_R_move hR hn hm hj q (c (j + 5)) v
          have e1 : upd (upd c (j + 5) (c (j + 5))) (j + 9) v = upd c (j + 9) v := by
            funext z
            by_cases e : z = j + 9
            · subst e; rw [pq_upd_eq, pq_upd_eq]
            · rw [pq_upd_ne e, pq_upd_ne e]
              by_cases e' : z = j + 5
              · subst e'; rw [pq_upd_eq]
              · rw [pq_upd_ne e']
          rw [e1] at this
          obtain ⟨t1, t2, t3⟩ := this
          refine ⟨fun s hs => ?_, fun b hb => ⟨fun e => ?_, fun e => ?_⟩, fun z hz hz2 => ?_⟩
          · rw [pq_upd_ne (by omega), pq_upd_ne (by omega)]; exact hR.1 s hs
          · rw [pq_upd_ne (by omega), pq_upd_ne (by omega), pq_upd_ne (by omega), pq_upd_ne (by omega)]; exact (hR.2.1 b hb).1 e
          · obtain ⟨a1, a2, a3⟩ := (hR.2.1 b hb).2 e
            refine ⟨?_, ?_, ?_⟩
            · rw [pq_upd_ne (by omega), pq_upd_ne (by omega)]; exact a1
            · by_cases z : b = j
              · subst z; rw [pq_upd_eq, pq_upd_eq]
              · rw [pq_upd_ne (by omega), pq_upd_ne (by omega)]; exact a2
            · rw [pq_upd_ne (by omega), pq_upd_ne (by omega)]; exact a3
          · rw [pq_upd_ne (by omega), pq_upd_ne (by omega)]; exact hR.2.2 z hz hz2
        by_cases h0 : c (j + 9) ≤ 0
        · rw [if_pos h0, if_neg (fun z => z.2 h0)]
          refine ⟨g, rfl, ?_⟩
          have := key (c (j + 9))
          have e2 : upd g (j + 9) (c (j + 9)) = g := by
            funext z
            by_cases e : z = j + 9
            · subst e; rw [pq_upd_eq, g2]
            · rw [pq_upd_ne e]
          rw [e2] at this
          exact this
        · rw [if_neg h0, if_pos ⟨rfl, h0⟩]
          exact ⟨_, rfl, key _⟩
      · rw [if_neg h17, if_neg h17]
        exact ⟨g, rfl, hR⟩
end
