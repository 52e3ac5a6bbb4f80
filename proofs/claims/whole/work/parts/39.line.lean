/-! orders of all -/
def pq_tb0 : List Nat := [1234]
def pq_tb1 : List Nat := [1234]
def pq_tb2 : List Nat := [1234, 10234]
def pq_tb3 : List Nat := [1234, 2134, 10234, 12034, 20134, 21034]
def pq_tb4 : List Nat := [1234, 1324, 2134, 2314, 3124, 3214, 10234, 10324, 12034, 12304, 13024, 13204, 20134, 20314, 21034, 21304, 23014, 23104, 30124, 30214, 31024, 31204, 32014, 32104]
def pq_tb5 : List Nat := [1234, 1243, 1324, 1342, 1423, 1432, 2134, 2143, 2314, 2341, 2413, 2431, 3124, 3142, 3214, 3241, 3412, 3421, 4123, 4132, 4213, 4231, 4312, 4321, 10234, 10243, 10324, 10342, 10423, 10432, 12034, 12043, 12304, 12340, 12403, 12430, 13024, 13042, 13204, 13240, 13402, 13420, 14023, 14032, 14203, 14230, 14302, 14320, 20134, 20143, 20314, 20341, 20413, 20431, 21034, 21043, 21304, 21340, 21403, 21430, 23014, 23041, 23104, 23140, 23401, 23410, 24013, 24031, 24103, 24130, 24301, 24310, 30124, 30142, 30214, 30241, 30412, 30421, 31024, 31042, 31204, 31240, 31402, 31420, 32014, 32041, 32104, 32140, 32401, 32410, 34012, 34021, 34102, 34120, 34201, 34210, 40123, 40132, 40213, 40231, 40312, 40321, 41023, 41032, 41203, 41230, 41302, 41320, 42013, 42031, 42103, 42130, 42301, 42310, 43012, 43021, 43102, 43120, 43201, 43210]

def pq_tb (n : Nat) : List Nat := if n = 0 then pq_tb0 else if n = 1 then pq_tb1 else if n = 2 then pq_tb2 else if n = 3 then pq_tb3 else if n = 4 then pq_tb4 else pq_tb5
def pq_nf_ (n : Nat) : Nat := if n ≤ 1 then 1 else if n = 2 then 2 else if n = 3 then 6 else if n = 4 then 24 else 120
def pq_T (n k s : Nat) : Nat := (pq_tb n).getD k 0 / 10 ^ (4 - s) % 10
def pq_rw (n k : Nat) : pq_Pg := fun s => nI (pq_T n k s)
def pq_pv (f : pq_Pg) : Nat → Option Nat
  | 0 => none
  | k + 1 => if f k ≤ f (k + 1) then some k else pq_pv f k
def pq_sc (f : pq_Pg) (p : Nat) : Nat → Nat
  | 0 => 0
  | i + 1 => if f p ≤ f (i + 1) then i + 1 else pq_sc f p i
def pq_sq (f : pq_Pg) (a b : Nat) : pq_Pg := upd (upd f a (f b)) b (f a)
def pq_rv : Nat → Nat → Nat → pq_Pg → pq_Pg
  | 0, _, _, f => f
  | d + 1, a, b, f => if b ≤ a then f else pq_rv d (a + 1) (b - 1) (pq_sq f a b)
def pq_nxt (n : Nat) (f : pq_Pg) : Option pq_Pg := match pq_pv f (n - 1) with
  | none => none
  | some p => some (pq_rv 5 (p + 1) (n - 1) (pq_sq f p (pq_sc f p (n - 1))))
def pq_ck (n k : Nat) : Bool := match pq_nxt n (pq_rw n k) with
  | none => k + 1 == pq_nf_ n
  | some g => decide (k + 1 < pq_nf_ n) && decide (g 0 = pq_rw n (k + 1) 0) && decide (g 1 = pq_rw n (k + 1) 1) && decide (g 2 = pq_rw n (k + 1) 2) && decide (g 3 = pq_rw n (k + 1) 3) && decide (g 4 = pq_rw n (k + 1) 4)
theorem pq_ck0 : ∀ k : Fin 1, pq_ck 0 k.val = true := by decide +kernel
theorem pq_ck1 : ∀ k : Fin 1, pq_ck 1 k.val = true := by decide +kernel
theorem pq_ck2 : ∀ k : Fin 2, pq_ck 2 k.val = true := by decide +kernel
theorem pq_ck3 : ∀ k : Fin 6, pq_ck 3 k.val = true := by decide +kernel
theorem pq_ck4 : ∀ k : Fin 24, pq_ck 4 k.val = true := by decide +kernel
theorem pq_ck5 : ∀ k : Fin 120, pq_ck 5 k.val = true := by decide +kernel
theorem pq_ckn {n k : Nat} (hn : n ≤ 5) (hk : k < pq_nf_ n) : pq_ck n k = true := by
  rcases (show n = 0 ∨ n = 1 ∨ n = 2 ∨ n = 3 ∨ n = 4 ∨ n = 5 by omega) with rfl | rfl | rfl | rfl | rfl | rfl
  · exact pq_ck0 ⟨k, hk⟩
  · exact pq_ck1 ⟨k, hk⟩
  · exact pq_ck2 ⟨k, hk⟩
  · exact pq_ck3 ⟨k, hk⟩
  · exact pq_ck4 ⟨k, hk⟩
  · exact pq_ck5 ⟨k, hk⟩
theorem pq_nxt_T {n k : Nat} (hn : n ≤ 5) (hk : k < pq_nf_ n) : (pq_nxt n (pq_rw n k) = none ∧ k + 1 = pq_nf_ n) ∨ ∃ g, pq_nxt n (pq_rw n k) = some g ∧ k + 1 < pq_nf_ n ∧ ∀ s, s < 5 → g s = pq_rw n (k + 1) s := by
  have h := pq_ckn hn hk
  unfold pq_ck at h
  cases e : pq_nxt n (pq_rw n k) with
  | none =>
    rw [e] at h
    simp only [beq_iff_eq] at h
    exact Or.inl ⟨rfl, h⟩
  | some g =>
    rw [e] at h
    simp only [Bool.and_eq_true, decide_eq_true_eq] at h
    obtain ⟨⟨⟨⟨⟨h1, h2⟩, h3⟩, h4⟩, h5⟩, h6⟩ := h
    refine Or.inr ⟨g, rfl, h1, fun s hs => ?_⟩
    rcases (show s = 0 ∨ s = 1 ∨ s = 2 ∨ s = 3 ∨ s = 4 by omega) with rfl | rfl | rfl | rfl | rfl
    · exact h2
    · exact h3
    · exact h4
    · exact h5
    · exact h6
def pq_cw (n k : Nat) : Bool := decide (∀ s : Fin 5, pq_T n k s.val < 5 ∧ (s.val < n → pq_T n k s.val < n) ∧ ∀ t : Fin 5, pq_T n k s.val = pq_T n k t.val → s = t)
theorem pq_cw0 : ∀ k : Fin 1, pq_cw 0 k.val = true := by decide +kernel
theorem pq_cw1 : ∀ k : Fin 1, pq_cw 1 k.val = true := by decide +kernel
theorem pq_cw2 : ∀ k : Fin 2, pq_cw 2 k.val = true := by decide +kernel
theorem pq_cw3 : ∀ k : Fin 6, pq_cw 3 k.val = true := by decide +kernel
theorem pq_cw4 : ∀ k : Fin 24, pq_cw 4 k.val = true := by decide +kernel
theorem pq_cw5 : ∀ k : Fin 120, pq_cw 5 k.val = true := by decide +kernel
theorem pq_cwn {n k : Nat} (hn : n ≤ 5) (hk : k < pq_nf_ n) : ∀ s : Fin 5, pq_T n k s.val < 5 ∧ (s.val < n → pq_T n k s.val < n) ∧ ∀ t : Fin 5, pq_T n k s.val = pq_T n k t.val → s = t := by
  have h : pq_cw n k = true := by
    rcases (show n = 0 ∨ n = 1 ∨ n = 2 ∨ n = 3 ∨ n = 4 ∨ n = 5 by omega) with rfl | rfl | rfl | rfl | rfl | rfl
    · exact pq_cw0 ⟨k, hk⟩
    · exact pq_cw1 ⟨k, hk⟩
    · exact pq_cw2 ⟨k, hk⟩
    · exact pq_cw3 ⟨k, hk⟩
    · exact pq_cw4 ⟨k, hk⟩
    · exact pq_cw5 ⟨k, hk⟩
  unfold pq_cw at h
  exact of_decide_eq_true h
theorem pq_rw_0 {n : Nat} (hn : n ≤ 5) : ∀ s, s < 5 → pq_rw n 0 s = nI s := by
  intro s hs
  have h : ∀ n : Fin 6, ∀ s : Fin 5, pq_T n.val 0 s.val = s.val := by decide +kernel
  unfold pq_rw
  rw [h ⟨n, by omega⟩ ⟨s, hs⟩]
/-! rows that agree for the first n -/
def pq_ag (n : Nat) (f g : pq_Pg) : Prop := ∀ s, s < n → f s = g s
theorem pq_pv_ag {n : Nat} {f g : pq_Pg} (h : pq_ag n f g) : ∀ k, k < n ∨ k = 0 → pq_pv f k = pq_pv g k := by
  intro k
  induction k with
  | zero => intro _; rfl
  | succ k ih =>
    intro hk
    unfold pq_pv
    rw [h k (by omega), h (k + 1) (by omega), ih (by omega)]
theorem pq_pv_lt {f : pq_Pg} : ∀ {k p : Nat}, pq_pv f k = some p → p < k := by
  intro k
  induction k with
  | zero => intro p h; cases h
  | succ k ih =>
    intro p h
    unfold pq_pv at h
    split at h
    · cases h; omega
    · have := ih h; omega
theorem pq_sc_ag {n : Nat} {f g : pq_Pg} (h : pq_ag n f g) {p : Nat} (hp : p < n) : ∀ i, i < n → pq_sc f p i = pq_sc g p i := by
  intro i
  induction i with
  | zero => intro _; rfl
  | succ i ih =>
    intro hi
    unfold pq_sc
    rw [h p hp, h (i + 1) hi, ih (by omega)]
theorem pq_sc_le {f : pq_Pg} {p : Nat} : ∀ i, pq_sc f p i ≤ i := by
  intro i
  induction i with
  | zero => exact Nat.le_refl _
  | succ i ih =>
    unfold pq_sc
    split <;> omega
theorem pq_sq_ag {n : Nat} {f g : pq_Pg} (h : pq_ag n f g) {a b : Nat} (ha : a < n) (hb : b < n) : pq_ag n (pq_sq f a b) (pq_sq g a b) := by
  intro s hs
  unfold pq_sq upd
  rw [h a ha, h b hb, h s hs]
theorem pq_rv_ag {n : Nat} : ∀ (d : Nat) {a b : Nat} {f g : pq_Pg}, b < n → pq_ag n f g → pq_ag n (pq_rv d a b f) (pq_rv d a b g) := by
  intro d
  induction d with
  | zero => intro a b f g _ h; exact h
  | succ d ih =>
    intro a b f g hb h
    unfold pq_rv
    split
    · exact h
    · exact ih (by omega) (pq_sq_ag h (by omega) hb)
theorem pq_nxt_ag {n : Nat} {f g : pq_Pg} (h : pq_ag n f g) : (pq_nxt n f = none ∧ pq_nxt n g = none) ∨ ∃ f' g', pq_nxt n f = some f' ∧ pq_nxt n g = some g' ∧ pq_ag n f' g' := by
  unfold pq_nxt
  rw [pq_pv_ag h (n - 1) (by omega)]
  cases e : pq_pv g (n - 1) with
  | none => exact Or.inl ⟨rfl, rfl⟩
  | some p =>
    have hp := pq_pv_lt e
    have hs := pq_sc_le (f := g) (p := p) (n - 1)
    simp only []
    rw [pq_sc_ag h (show p < n by omega) (n - 1) (by omega)]
    exact Or.inr ⟨_, _, rfl, rfl, pq_rv_ag 5 (by omega) (pq_sq_ag h (by omega) (by omega))⟩
/-! the class's next order -/
theorem pq_o29 (h : zw_Hp) (f : pq_Pg) {i : Nat} (hi : i ≠ 29) : (zw_upR h 29 f).1 i = h.1 i := if_neg hi
theorem pq_exo {a b : Nat} (ha : a < 5) (hb : b < 5) (h : zw_Hp) (f : pq_Pg) : M_X4_exchangeInOrder (nI a) (nI b) (zw_upR h 29 f) = some (zw_upR h 29 (pq_sq f a b)) := by
  unfold M_X4_exchangeInOrder
  rw [if_neg (nI_pos (by omega)), if_neg (show ¬ (5 : Int32) ≤ nI a from nI_ge (a := a) (b := 5) ha (by decide)), if_neg (nI_pos (by omega)), if_pos (show nI b < 5 from nI_lt (a := b) (b := 5) hb (by decide))]
  simp only [zw_nm, pq_ok_nI ha (show 5 < 2 ^ 31 by decide), pq_ok_nI hb (show 5 < 2 ^ 31 by decide), if_true, nI_clamp (show a < 2 ^ 31 by omega), nI_clamp (show b < 2 ^ 31 by omega), pq_mp, pq_mu]
  rfl
theorem pq_rvL (h : zw_Hp) : ∀ (d N a b : Nat) (f : pq_Pg), b ≤ a + 2 * d → d < N → b < 5 → a ≤ 5 →
    zw_it (fun (k99 : (Int32 × Int32 × zw_Hp) → Option (Int32 × zw_Hp)) (w : Int32 × Int32 × zw_Hp) => B_X4_toNextOrder_99 k99 (w.1) (w.2.1) (w.2.2)) N (nI b, nI a, zw_upR h 29 f) = some (1, zw_upR h 29 (pq_rv d a b f)) := by
  intro d
  induction d with
  | zero =>
    intro N a b f hd hN hb ha
    obtain ⟨N', rfl⟩ : ∃ N', N = N' + 1 := ⟨N - 1, by omega⟩
    rw [pq_it_s]
    simp only []
    rw [B_X4_toNextOrder_99, if_pos (nI_le (by omega) (by omega))]
    rfl
  | succ d ih =>
    intro N a b f hd hN hb ha
    obtain ⟨N', rfl⟩ : ∃ N', N = N' + 1 := ⟨N - 1, by omega⟩
    rw [pq_it_s]
    simp only []
    unfold pq_rv
    by_cases q : b ≤ a
    · rw [B_X4_toNextOrder_99, if_pos (nI_le (by omega) (by omega)), if_pos q]
    · obtain ⟨b', rfl⟩ : ∃ b', b = b' + 1 := ⟨b - 1, by omega⟩
      rw [B_X4_toNextOrder_99, if_neg (nI_ge (by omega) (by omega)), if_neg q, pq_exo (by omega) hb]
      simp only [Option.bind_some, zw_nm, nI_1, pk_m1]
      exact ih N' (a + 1) b' _ (by omega) (by omega) (by omega) (by omega)
theorem pq_scL (h : zw_Hp) (f : pq_Pg) {n p : Nat} (hn : n ≤ 5) : ∀ (d N i : Nat), p + d = i → d < N → i < n →
    zw_it (fun (k57 : (Int32 × Int32 × Int32 × zw_Hp) → Option (Int32 × zw_Hp)) (w : Int32 × Int32 × Int32 × zw_Hp) => B_X4_toNextOrder_57 k57 (w.1) (w.2.1) (w.2.2.1) (w.2.2.2)) N (nI n, nI p, nI i, zw_upR h 29 f) = some (1, zw_upR h 29 (pq_rv 5 (p + 1) (n - 1) (pq_sq f p (pq_sc f p i)))) := by
  have fin : ∀ i, i < n → p < n → B_X4_toNextOrder_83 (nI n) (nI p) (nI i) (zw_upR h 29 f) = some (1, zw_upR h 29 (pq_rv 5 (p + 1) (n - 1) (pq_sq f p i))) := by
    intro i hi hp
    unfold B_X4_toNextOrder_83
    rw [pq_exo (by omega) (by omega)]
    simp only [Option.bind_some, zw_nm, nI_1]
    rw [show (1 : Int32) = nI 1 from rfl, pk_sub (show 1 ≤ n by omega)]
    unfold L_X4_toNextOrder_99
    exact pq_rvL h 5 600 (p + 1) (n - 1) _ (by omega) (by omega) (by omega) (by omega)
  intro d
  induction d with
  | zero =>
    intro N i hi hN hin
    obtain ⟨N', rfl⟩ : ∃ N', N = N' + 1 := ⟨N - 1, by omega⟩
    have e : p = i := by omega
    subst e
    have es : pq_sc f p p = p := by
      cases p with
      | zero => rfl
      | succ p => unfold pq_sc; rw [if_pos (Int32.le_refl _)]
    rw [pq_it_s]
    simp only []
    rw [B_X4_toNextOrder_57, if_pos (Int32.le_refl _), es]
    exact fin p hin hin
  | succ d ih =>
    intro N i hi hN hin
    obtain ⟨N', rfl⟩ : ∃ N', N = N' + 1 := ⟨N - 1, by omega⟩
    obtain ⟨i', rfl⟩ : ∃ i', i = i' + 1 := ⟨i - 1, by omega⟩
    rw [pq_it_s]
    simp only []
    rw [B_X4_toNextOrder_57, if_neg (nI_ge (by omega) (by omega)), if_pos (pq_ok_nI (by omega) (by decide)), if_pos (pq_ok_nI (by omega) (by decide)), nI_clamp (by omega), nI_clamp (by omega), pq_mp]
    unfold pq_sc
    by_cases q : f p ≤ f (i' + 1)
    · rw [if_pos q, if_pos q]
      exact fin (i' + 1) hin (by omega)
    · rw [if_neg q, if_neg q]
      simp only [zw_nm, pk_m1]
      exact ih N' i' (by omega) (by omega) (by omega)
theorem pq_pvL (h : zw_Hp) (f : pq_Pg) {n : Nat} (hn : n ≤ 5) : ∀ (k N : Nat) (x2 : Int32), k < N → (k = 0 → x2 < 0) → (0 < k → x2 = nI (k - 1)) → k < n ∨ k = 0 →
    zw_it (fun (k20 : (Int32 × Int32 × zw_Hp) → Option (Int32 × zw_Hp)) (w : Int32 × Int32 × zw_Hp) => B_X4_toNextOrder_20 k20 (w.1) (w.2.1) (w.2.2)) N (nI n, x2, zw_upR h 29 f) = match pq_pv f k with
      | none => some (0, zw_upR h 29 f)
      | some p => some (1, zw_upR h 29 (pq_rv 5 (p + 1) (n - 1) (pq_sq f p (pq_sc f p (n - 1))))) := by
  intro k
  induction k with
  | zero =>
    intro N x2 hN h0 _ _
    obtain ⟨N', rfl⟩ : ∃ N', N = N' + 1 := ⟨N - 1, by omega⟩
    rw [pq_it_s]
    simp only []
    rw [B_X4_toNextOrder_20, if_pos (h0 rfl), B_X4_toNextOrder_47, if_neg (Int32.not_le.mpr (h0 rfl))]
    rfl
  | succ k ih =>
    intro N x2 hN _ h1 hk
    obtain ⟨N', rfl⟩ : ∃ N', N = N' + 1 := ⟨N - 1, by omega⟩
    have e2 : x2 = nI k := h1 (by omega)
    subst e2
    rw [pq_it_s]
    simp only []
    rw [B_X4_toNextOrder_20, if_neg (nI_pos (by omega)), nI_1, if_pos (pq_ok_nI (by omega) (by decide)), if_pos (pq_ok_nI (by omega) (by decide)), nI_clamp (by omega), nI_clamp (by omega), pq_mp]
    unfold pq_pv
    by_cases q : f k ≤ f (k + 1)
    · rw [if_pos q, if_pos q, B_X4_toNextOrder_47, if_pos (nI_pos' (by omega))]
      simp only [zw_nm]
      rw [show (1 : Int32) = nI 1 from rfl, pk_sub (show 1 ≤ n by omega)]
      unfold L_X4_toNextOrder_57
      exact pq_scL h f hn (n - 1 - k) 600 (n - 1) (by omega) (by omega) (by omega)
    · rw [if_neg q, if_neg q]
      simp only [zw_nm]
      refine ih N' _ (by omega) (fun e => ?_) (fun e => ?_) (by omega)
      · subst e; decide
      · obtain ⟨k', rfl⟩ : ∃ k', k = k' + 1 := ⟨k - 1, by omega⟩
        rw [pk_m1]; rfl
theorem pq_next {n : Nat} (hn : n ≤ 5) (h : zw_Hp) (f : pq_Pg) (h6 : h.1 6 2 = nI n) : M_X4_toNextOrder (zw_upR h 29 f) = match pq_nxt n f with
      | none => some (0, zw_upR h 29 f)
      | some g => some (1, zw_upR h 29 g) := by
  unfold M_X4_toNextOrder
  rw [pq_o29 h f (show (6 : Nat) ≠ 29 by decide), h6, if_neg (show ¬ (5 : Int32) < nI n from nI_nlt (a := 5) (b := n) hn (by decide))]
  simp only [zw_nm]
  unfold L_X4_toNextOrder_20
  rw [pq_pvL h f hn (n - 1) 600 _ (by omega) (fun e => ?_) (fun e => ?_) (by omega)]
  · unfold pq_nxt
    cases pq_pv f (n - 1) <;> rfl
  · rcases (show n = 0 ∨ n = 1 by omega) with rfl | rfl <;> decide
  · rw [pq_m2 (by omega)]
    rfl
/-! the model's next line -/
theorem pq_tln {a b : Nat} (ha : a < 5) (hb : b < 5) (h : zw_Hp) (f : pq_Pg) : M_X9_turnLine (nI a) (nI b) (zw_upR h 47 f) = some (zw_upR h 47 (pq_sq f a b)) := by
  unfold M_X9_turnLine
  simp only [zw_nm, pq_ok_nI ha (show 5 < 2 ^ 31 by decide), pq_ok_nI hb (show 5 < 2 ^ 31 by decide), if_true, nI_clamp (show a < 2 ^ 31 by omega), nI_clamp (show b < 2 ^ 31 by omega), pq_mp, pq_mu]
  rfl
theorem pq_mrvL (h : zw_Hp) : ∀ (d N a b : Nat) (f : pq_Pg), b ≤ a + 2 * d → d < N → b < 5 → a ≤ 5 →
    zw_it (fun (k86 : (Int32 × Int32 × zw_Hp) → Option (Int32 × zw_Hp)) (w : Int32 × Int32 × zw_Hp) => B_X9_nextLine_86 k86 (w.1) (w.2.1) (w.2.2)) N (nI a, nI b, zw_upR h 47 f) = some (1, zw_upR h 47 (pq_rv d a b f)) := by
  intro d
  induction d with
  | zero =>
    intro N a b f hd hN hb ha
    obtain ⟨N', rfl⟩ : ∃ N', N = N' + 1 := ⟨N - 1, by omega⟩
    rw [pq_it_s]
    simp only []
    rw [B_X9_nextLine_86, if_pos (nI_le (by omega) (by omega))]
    rfl
  | succ d ih =>
    intro N a b f hd hN hb ha
    obtain ⟨N', rfl⟩ : ∃ N', N = N' + 1 := ⟨N - 1, by omega⟩
    rw [pq_it_s]
    simp only []
    unfold pq_rv
    by_cases q : b ≤ a
    · rw [B_X9_nextLine_86, if_pos (nI_le (by omega) (by omega)), if_pos q]
    · obtain ⟨b', rfl⟩ : ∃ b', b = b' + 1 := ⟨b - 1, by omega⟩
      rw [B_X9_nextLine_86, if_neg (nI_ge (by omega) (by omega)), if_neg q, pq_tln (by omega) hb]
      simp only [Option.bind_some, zw_nm, nI_1, pk_m1]
      exact ih N' (a + 1) b' _ (by omega) (by omega) (by omega) (by omega)
theorem pq_mscL (h : zw_Hp) (f : pq_Pg) {n p : Nat} (hn : n ≤ 5) (h6 : h.1 31 6 = nI n) : ∀ (d N i : Nat), p + d = i → d < N → i < n →
    zw_it (fun (k47 : (Int32 × Int32 × zw_Hp) → Option (Int32 × zw_Hp)) (w : Int32 × Int32 × zw_Hp) => B_X9_nextLine_47 k47 (w.1) (w.2.1) (w.2.2)) N (nI p, nI i, zw_upR h 47 f) = some (1, zw_upR h 47 (pq_rv 5 (p + 1) (n - 1) (pq_sq f p (pq_sc f p i)))) := by
  have h6' : ∀ f, (zw_upR h 47 f).1 31 6 = nI n := fun f => by rw [pq_upR_off h f (show (31 : Nat) ≠ 47 by decide)]; exact h6
  have fin : ∀ i, i < n → p < n → ((M_X9_turnLine (nI p) (nI i) (zw_upR h 47 f)).bind fun z15 => zw_nm (nI p + 1) fun y17 => zw_nm (z15.1 31 6 - 1) fun y19 => L_X9_nextLine_86 (y17, y19, z15)) = some (1, zw_upR h 47 (pq_rv 5 (p + 1) (n - 1) (pq_sq f p i))) := by
    intro i hi hp
    rw [pq_tln (by omega) (by omega)]
    simp only [Option.bind_some, zw_nm, nI_1]
    rw [h6', show (1 : Int32) = nI 1 from rfl, pk_sub (show 1 ≤ n by omega)]
    unfold L_X9_nextLine_86
    exact pq_mrvL h 5 600 (p + 1) (n - 1) _ (by omega) (by omega) (by omega) (by omega)
  intro d
  induction d with
  | zero =>
    intro N i hi hN hin
    obtain ⟨N', rfl⟩ : ∃ N', N = N' + 1 := ⟨N - 1, by omega⟩
    have e : p = i := by omega
    subst e
    have es : pq_sc f p p = p := by
      cases p with
      | zero => rfl
      | succ p => unfold pq_sc; rw [if_pos (Int32.le_refl _)]
    rw [pq_it_s]
    simp only []
    rw [B_X9_nextLine_47, if_pos (pq_ok_nI (by omega) (by decide)), if_pos (pq_ok_nI (by omega) (by decide)), if_pos (Int32.le_refl _), es]
    exact fin p hin hin
  | succ d ih =>
    intro N i hi hN hin
    obtain ⟨N', rfl⟩ : ∃ N', N = N' + 1 := ⟨N - 1, by omega⟩
    obtain ⟨i', rfl⟩ : ∃ i', i = i' + 1 := ⟨i - 1, by omega⟩
    rw [pq_it_s]
    simp only []
    rw [B_X9_nextLine_47, if_pos (pq_ok_nI (by omega) (by decide)), if_pos (pq_ok_nI (by omega) (by decide)), nI_clamp (by omega), nI_clamp (by omega), pq_mp]
    unfold pq_sc
    by_cases q : f p ≤ f (i' + 1)
    · rw [if_pos q, if_pos q]
      exact fin (i' + 1) hin (by omega)
    · rw [if_neg q, if_neg q]
      simp only [zw_nm, pk_m1]
      exact ih N' i' (by omega) (by omega) (by omega)
theorem pq_mpvL (h : zw_Hp) (f : pq_Pg) {n : Nat} (hn : n ≤ 5) (h6 : h.1 31 6 = nI n) : ∀ (k N : Nat) (x2 : Int32), k < N → (k = 0 → x2 < 0) → (0 < k → x2 = nI (k - 1)) → k < n ∨ k = 0 →
    zw_it (fun (k7 : (Int32 × zw_Hp) → Option (Int32 × zw_Hp)) (w : Int32 × zw_Hp) => B_X9_nextLine_7 k7 (w.1) (w.2)) N (x2, zw_upR h 47 f) = match pq_pv f k with
      | none => some (0, zw_upR h 47 f)
      | some p => some (1, zw_upR h 47 (pq_rv 5 (p + 1) (n - 1) (pq_sq f p (pq_sc f p (n - 1))))) := by
  intro k
  induction k with
  | zero =>
    intro N x2 hN h0 _ _
    obtain ⟨N', rfl⟩ : ∃ N', N = N' + 1 := ⟨N - 1, by omega⟩
    rw [pq_it_s]
    simp only []
    rw [B_X9_nextLine_7, if_pos (h0 rfl), B_X9_nextLine_34, if_neg (Int32.not_le.mpr (h0 rfl))]
    rfl
  | succ k ih =>
    intro N x2 hN _ h1 hk
    obtain ⟨N', rfl⟩ : ∃ N', N = N' + 1 := ⟨N - 1, by omega⟩
    have e2 : x2 = nI k := h1 (by omega)
    subst e2
    rw [pq_it_s]
    simp only []
    rw [B_X9_nextLine_7, if_neg (nI_pos (by omega)), nI_1, if_pos (pq_ok_nI (by omega) (by decide)), if_pos (pq_ok_nI (by omega) (by decide)), nI_clamp (by omega), nI_clamp (by omega), pq_mp]
    unfold pq_pv
    by_cases q : f k ≤ f (k + 1)
    · rw [if_pos q, if_pos q, B_X9_nextLine_34, if_pos (nI_pos' (by omega))]
      simp only [zw_nm]
      rw [pq_upR_off h f (show (31 : Nat) ≠ 47 by decide), h6, show (1 : Int32) = nI 1 from rfl, pk_sub (show 1 ≤ n by omega)]
      unfold L_X9_nextLine_47
      exact pq_mscL h f hn h6 (n - 1 - k) 600 (n - 1) (by omega) (by omega) (by omega)
    · rw [if_neg q, if_neg q]
      simp only [zw_nm]
      refine ih N' _ (by omega) (fun e => ?_) (fun e => ?_) (by omega)
      · subst e; decide
      · obtain ⟨k', rfl⟩ : ∃ k', k = k' + 1 := ⟨k - 1, by omega⟩
        rw [pk_m1]; rfl
theorem pq_mnext {n : Nat} (hn : n ≤ 5) (h : zw_Hp) (f : pq_Pg) (h6 : h.1 31 6 = nI n) : M_X9_nextLine (zw_upR h 47 f) = match pq_nxt n f with
      | none => some (0, zw_upR h 47 f)
      | some g => some (1, zw_upR h 47 g) := by
  unfold M_X9_nextLine
  rw [pq_upR_off h f (show (31 : Nat) ≠ 47 by decide), h6]
  simp only [zw_nm]
  unfold L_X9_nextLine_7
  rw [pq_mpvL h f hn h6 (n - 1) 600 _ (by omega) (fun e => ?_) (fun e => ?_) (by omega)]
  · unfold pq_nxt
    cases pq_pv f (n - 1) <;> rfl
  · rcases (show n = 0 ∨ n = 1 by omega) with rfl | rfl <;> decide
  · rw [pq_m2 (by omega)]
    rfl
