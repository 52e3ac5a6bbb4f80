/-! the model's page methods: pp is the row (37 or 38), g what it holds, c the class's page that it stands for -/
def pq_C (n m : Nat) (K Z : Nat → Int32) (w gr : Int32) (h : zw_Hp) : Prop := h.1 31 6 = nI n ∧ h.1 31 8 = nI m ∧ h.1 31 5 = w ∧ h.1 31 4 = gr ∧ (∀ k, k < n → h.1 33 k = K k) ∧ (∀ k, k < m → h.1 34 k = Z k)
def pq_pr (x y : Int32) : Prop := y = x ∨ (x = 10 ∧ y = 7)
def pq_R (r : Nat) (w : Int32) (n m : Nat) (c g : pq_Pg) : Prop := (∀ s, s < n → g s = c s) ∧ (∀ b, b < m → (b = r → c (b + 5) = 9 ∧ c (b + 9) = 0 ∧ c (b + 13) = w ∧ g (b + 5) = 7) ∧ (b ≠ r → pq_pr (c (b + 5)) (g (b + 5)) ∧ g (b + 9) = c (b + 9) ∧ g (b + 13) = c (b + 13))) ∧ (∀ k, 17 ≤ k → k ≤ 20 → g k = c k)
theorem pq_mo {pp i : Nat} (hpp : pp = 37 ∨ pp = 38) (h : zw_Hp) (g : pq_Pg) (hi : i < 37) : (zw_upR h pp g).1 i = h.1 i := if_neg (by omega)
theorem pq_mp {pp : Nat} (h : zw_Hp) (g : pq_Pg) : (zw_upR h pp g).1 pp = g := if_pos rfl
theorem pq_mu {pp k : Nat} (h : zw_Hp) (g : pq_Pg) (v : Int32) : zw_up (zw_upR h pp g) pp k v = zw_upR h pp (upd g k v) := by
  refine pq_hext (fun a b => ?_) rfl
  rw [pq_up_at, pq_upR_at, pq_upR_at]
  by_cases h1 : a = pp
  · subst h1
    rw [if_pos rfl, if_pos rfl]
    by_cases h2 : b = k <;> simp [upd, h2]
  · rw [if_neg h1, if_neg h1, if_neg (fun q => h1 q.1)]
theorem pq_a5 {b : Nat} (hb : b < 4) : ((5 : Int32) + nI b).toNatClampNeg = b + 5 ∧ zw_ok ((5 : Int32) + nI b) 21 = true := by
  have e : (5 : Int32) + nI b = nI (b + 5) := by rw [show (5 : Int32) = nI 5 from rfl, nI_add, Nat.add_comm]
  rw [e]
  exact ⟨nI_clamp (by omega), pq_ok_nI (by omega) (by decide)⟩
theorem pq_a9 {b : Nat} (hb : b < 4) : ((9 : Int32) + nI b).toNatClampNeg = b + 9 ∧ zw_ok ((9 : Int32) + nI b) 21 = true := by
  have e : (9 : Int32) + nI b = nI (b + 9) := by rw [show (9 : Int32) = nI 9 from rfl, nI_add, Nat.add_comm]
  rw [e]
  exact ⟨nI_clamp (by omega), pq_ok_nI (by omega) (by decide)⟩
theorem pq_a13 {b : Nat} (hb : b < 4) : ((13 : Int32) + nI b).toNatClampNeg = b + 13 ∧ zw_ok ((13 : Int32) + nI b) 21 = true := by
  have e : (13 : Int32) + nI b = nI (b + 13) := by rw [show (13 : Int32) = nI 13 from rfl, nI_add, Nat.add_comm]
  rw [e]
  exact ⟨nI_clamp (by omega), pq_ok_nI (by omega) (by decide)⟩
def pq_hf (g : pq_Pg) (v : Int32) : Nat → Nat
  | 0 => 4
  | j + 1 => if g (j + 5) = v then j else pq_hf g v j
theorem pq_hf_le (g : pq_Pg) (v : Int32) : ∀ j, j ≤ 4 → pq_hf g v j ≤ 4 := by
  intro j
  induction j with
  | zero => intro _; exact Nat.le_refl 4
  | succ j ih =>
    intro hj
    show (if g (j + 5) = v then j else pq_hf g v j) ≤ 4
    split
    · omega
    · exact ih (by omega)
theorem pq_heldLoop {pp m : Nat} (hpp : pp = 37 ∨ pp = 38) (hm : m ≤ 4) (h : zw_Hp) (g : pq_Pg) (hM : h.1 31 8 = nI m) (v : Int32) : ∀ (d N j : Nat), j + d = m → d < N →
    zw_it (fun (k6 : (Int32 × Int32 × Int32) → Option (Int32)) (w : Int32 × Int32 × Int32) => B_X9_heldAt_6 pp (zw_upR h pp g) k6 (w.1) (w.2.1) (w.2.2)) N (v, pq_bi (pq_hf g v j), nI j) = some (pq_bi (pq_hf g v m)) := by
  intro d
  induction d with
  | zero =>
    intro N j hj hN
    obtain ⟨N', rfl⟩ : ∃ N', N = N' + 1 := ⟨N - 1, by omega⟩
    rw [pq_it_s]
    simp only []
    rw [B_X9_heldAt_6, pq_mo hpp h g (by decide), hM, show j = m by omega, if_pos (Int32.le_refl _)]
  | succ d ih =>
    intro N j hj hN
    obtain ⟨N', rfl⟩ : ∃ N', N = N' + 1 := ⟨N - 1, by omega⟩
    rw [pq_it_s]
    simp only []
    rw [B_X9_heldAt_6, pq_mo hpp h g (by decide), hM, if_neg (nI_ge (by omega) (by omega)), if_pos (pq_a5 (by omega)).2, (pq_a5 (show j < 4 by omega)).1, pq_mp]
    have ih2 := ih N' (j + 1) (by omega) (by omega)
    simp only [B_X9_heldAt_31, zw_nm, nI_1]
    by_cases hg : g (j + 5) = v
    · rw [if_pos hg]
      have e : pq_hf g v (j + 1) = j := if_pos hg
      rw [e, pq_bi_lt (by omega)] at ih2
      exact ih2
    · rw [if_neg hg]
      have e : pq_hf g v (j + 1) = pq_hf g v j := if_neg hg
      rw [e] at ih2
      exact ih2
theorem pq_heldAt {pp m : Nat} (hpp : pp = 37 ∨ pp = 38) (hm : m ≤ 4) (h : zw_Hp) (g : pq_Pg) (hM : h.1 31 8 = nI m) (v : Int32) : M_X9_heldAt pp v (zw_upR h pp g) = some (pq_bi (pq_hf g v m)) := by
  unfold M_X9_heldAt L_X9_heldAt_6
  exact pq_heldLoop hpp hm h g hM v m 600 0 (by omega) (by omega)
theorem pq_hf_4 {g : pq_Pg} {v : Int32} : ∀ m, (∀ j, j < m → g (j + 5) ≠ v) → pq_hf g v m = 4 := by
  intro m
  induction m with
  | zero => intro _; rfl
  | succ m ih =>
    intro h
    show (if g (m + 5) = v then m else pq_hf g v m) = 4
    rw [if_neg (h m (by omega))]
    exact ih (fun j hj => h j (by omega))
theorem pq_hf_at {g : pq_Pg} {v : Int32} {b : Nat} (hb : g (b + 5) = v) : ∀ m, b < m → (∀ j, j < m → j ≠ b → g (j + 5) ≠ v) → pq_hf g v m = b := by
  intro m
  induction m with
  | zero => intro h; omega
  | succ m ih =>
    intro hbm h
    show (if g (m + 5) = v then m else pq_hf g v m) = b
    by_cases q : m = b
    · subst q; rw [if_pos hb]
    · rw [if_neg (h m (by omega) q)]
      exact ih (by omega) (fun j hj => h j (by omega))
/-- at a stand both find the same -/
theorem pq_hf_lb {r : Nat} {w : Int32} {n m : Nat} (hn : n ≤ 5) (hm : m ≤ 4) {c g : pq_Pg} (hP : pq_WP n m c) (hR : pq_R r w n m c g) {s : Nat} (hs : s < 5) : pq_hf g (nI s) m = pq_lb c (nI s) := by
  have n7 : (7 : Int32) ≠ nI s := fun e => by
    have := (nI_eq (a := 7) (b := s) (by decide) (by omega)).mp e
    omega
  have n10 : (10 : Int32) ≠ nI s := fun e => by
    have := (nI_eq (a := 10) (b := s) (by decide) (by omega)).mp e
    omega
  have n9 : (9 : Int32) ≠ nI s := fun e => by
    have := (nI_eq (a := 9) (b := s) (by decide) (by omega)).mp e
    omega
  have eqv : ∀ b, b < m → (g (b + 5) = nI s ↔ c (b + 5) = nI s) := by
    intro b hb
    by_cases q : b = r
    · obtain ⟨h1, -, -, h2⟩ := (hR.2.1 b hb).1 q
      rw [h1, h2]
      exact ⟨fun e => absurd e n7, fun e => absurd e n9⟩
    · rcases ((hR.2.1 b hb).2 q).1 with e | ⟨e1, e2⟩
      · rw [e]
      · rw [e1, e2]
        exact ⟨fun e => absurd e n7, fun e => absurd e n10⟩
  by_cases h4 : pq_lb c (nI s) = 4
  · rw [h4]
    exact pq_hf_4 m (fun j hj e => pq_lb_4 h4 j (by omega) ((eqv j hj).mp e))
  · have h1 := pq_lb_at h4
    have h2 := pq_lb_lt h4
    have h3 := pq_lt_m hn hP h2 (by rw [h1]; exact Ne.symm n10)
    refine pq_hf_at ((eqv _ h3).mpr h1) m h3 (fun j hj hne e => ?_)
    have h5 := hP.2.2.1 j _ (by omega) h2 hne (((eqv j hj).mp e).trans h1.symm)
    rw [(eqv j hj).mp e, pq_le5 (by omega)] at h5
    omega
theorem pq_par (q : Nat) (hq : q < 2 ^ 31) : (nI q - nI q / 2 * 2 = 0) ↔ (nI q &&& 1 = 0) := by
  have e1 : nI q - nI q / 2 * 2 = nI (q % 2) := pk_rem (a := q) (d := 2) hq (by decide) (by decide)
  have e2 : nI q &&& 1 = nI (q % 2 ^ 1) := pk_andN (by omega) 1 (by decide)
  rw [e1, e2]
def pq_msk (n : Nat) (a sm : Int32) : Prop := ∀ w, w < n → ((((a >>> (nI w &&& 31)) &&& 1) = 1) ↔ ¬ (((sm >>> (nI w &&& 31)) &&& 1) = 1))
theorem pq_works {pp r : Nat} {w gr : Int32} {n m : Nat} {K Z : Nat → Int32} (hpp : pp = 37 ∨ pp = 38) (hn : n ≤ 5) {h : zw_Hp} {c g : pq_Pg} (hC : pq_C n m K Z w gr h) (hW : pq_WW n c) (hR : pq_R r w n m c g) {sm : Int32} (hsm : pq_msk n (c 21) sm) (hB : ∃ q, q < 2 ^ 31 ∧ c 20 = nI q) {s : Nat} (hs : s < n) :
    M_X9_works pp (nI s) sm (zw_upR h pp g) = some (if pq_wk K c s = true then 1 else 0) := by
  obtain ⟨σ, s1, s2, s3⟩ := hW
  obtain ⟨q, hq1, hq2⟩ := hB
  have es := (s1 s (by omega)).1
  have hw := s3 s hs
  unfold M_X9_works M_X9_has
  rw [if_pos (pq_ok_nI (by omega) (by decide)), nI_clamp (by omega), pq_mp, hR.1 s hs, es]
  simp only [zw_nm]
  rw [if_pos (pq_ok_nI (by omega) (by decide)), nI_clamp (by omega), pq_mo hpp h g (by decide), hC.2.2.2.2.1 _ hw, if_pos (show zw_ok (20 : Int32) 21 = true by decide), show (20 : Int32).toNatClampNeg = 20 from rfl, hR.2.2 20 (by omega) (by omega), hq2]
  have hk : pq_kd K c s = K (σ s) := by
    unfold pq_kd
    rw [es, nI_clamp (by omega)]
  unfold pq_wk
  rw [hk, es]
  have hm1 := hsm (σ s) hw
  by_cases a1 : ((sm >>> (nI (σ s) &&& 31)) &&& 1) = 1
  · have a2 : ¬ (((c 21 >>> (nI (σ s) &&& 31)) &&& 1) = 1) := fun e => hm1.mp e a1
    rw [if_pos a1]
    simp only [Option.bind_some]
    rw [if_neg pq_10]
    by_cases a3 : K (σ s) = 2
    · rw [if_pos a3]
      by_cases a4 : (nI q &&& 1) = 0
      · rw [if_pos ((pq_par q hq1).mpr a4)]
        simp [a2, a3, hq2, a4]
      · rw [if_neg (fun e => a4 ((pq_par q hq1).mp e))]
        simp [a2, a3, hq2, a4]
    · rw [if_neg a3]
      simp [a2, a3]
  · have a2 : (((c 21 >>> (nI (σ s) &&& 31)) &&& 1) = 1) := hm1.mpr a1
    rw [if_neg a1]
    simp [a2]
theorem pq_isChild {pp r : Nat} {w gr : Int32} {n m : Nat} {K Z : Nat → Int32} (hpp : pp = 37 ∨ pp = 38) (hn : n ≤ 5) {h : zw_Hp} {c g : pq_Pg} (hC : pq_C n m K Z w gr h) (hW : pq_WW n c) (hgc : ∀ s, s < n → g s = c s) {s : Nat} (hs : s < n) :
    M_X9_isChild pp (nI s) (zw_upR h pp g) = some (if pq_kd K c s = 3 then 1 else 0) := by
  obtain ⟨σ, s1, s2, s3⟩ := hW
  have es := (s1 s (by omega)).1
  have hw := s3 s hs
  unfold M_X9_isChild pq_kd
  rw [if_pos (pq_ok_nI (by omega) (by decide)), nI_clamp (by omega), pq_mp, hgc s hs, es, if_pos (pq_ok_nI (by omega) (by decide)), nI_clamp (by omega), pq_mo hpp h g (by decide), hC.2.2.2.2.1 _ hw]
  split <;> rfl
theorem pq_msend {pp : Nat} {w gr : Int32} {n m : Nat} {K Z : Nat → Int32} (hpp : pp = 37 ∨ pp = 38) {h : zw_Hp} {g : pq_Pg} (hC : pq_C n m K Z w gr h) {b : Nat} (hb : b < 4) :
    M_X9_sendBack pp (nI b) (zw_upR h pp g) = some (zw_upR h pp (upd (upd (upd g (b + 9) 0) (b + 13) w) (b + 5) (if w = 0 then 8 else 9))) := by
  unfold M_X9_sendBack
  simp only [zw_nm, (pq_a9 hb).1, (pq_a9 hb).2, (pq_a13 hb).1, (pq_a13 hb).2, if_true, B_X9_sendBack_35, (pq_a5 hb).1, (pq_a5 hb).2, pq_mu]
  rw [pq_mo hpp h _ (by decide), pq_mo hpp h _ (by decide), hC.2.2.1]
  split <;> rfl
