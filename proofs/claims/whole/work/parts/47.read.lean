/-! reading a night: letters of the class, figures of the model -/
def pz_T (x : Nat) (X : pq_Pg) (h : zw_Hp) : Prop := h.1 1 1 = nI x ∧ ∀ k, k < x → h.1 2 k = X k
def pz_TM (x : Nat) (X : pq_Pg) (h : zw_Hp) : Prop := h.1 31 2 = nI x ∧ ∀ k, k < x → h.1 32 k = X k
def pz_C (t wt n m q : Nat) (K Z : pq_Pg) (h : zw_Hp) : Prop := h.1 t 8 = nI wt ∧ h.1 t 2 = nI n ∧ h.1 t 3 = nI m ∧ h.1 t 4 = nI q ∧ (∀ k, k < n → h.1 (t + 1) k = K k) ∧ (∀ k, k < m → h.1 (t + 2) k = Z k)
def pz_M (p n m q : Nat) (K Z : pq_Pg) (h : zw_Hp) : Prop := h.1 31 3 = nI p ∧ h.1 31 13 = nI n ∧ h.1 31 15 = nI m ∧ h.1 31 17 = nI q ∧ (∀ k, k < n → h.1 35 k = K k) ∧ (∀ k, k < m → h.1 36 k = Z k)
def pz_fC (t : Nat) (h h' : zw_Hp) : Prop := (∀ i, i ≠ t → i ≠ t + 1 → i ≠ t + 2 → h'.1 i = h.1 i) ∧ h'.2 = h.2
def pz_gC (t : Nat) (h h' : zw_Hp) : Prop := pz_fC t h h' ∧ h'.1 t 5 = h.1 t 5 ∧ h'.1 t 6 = h.1 t 6 ∧ h'.1 t 7 = h.1 t 7
def pz_gM (h h' : zw_Hp) : Prop := pq_eq h h' ∧ h'.1 31 10 = h.1 31 10 ∧ h'.1 31 11 = h.1 31 11 ∧ h'.1 31 12 = h.1 31 12
theorem pz_fC_rf (t : Nat) (h : zw_Hp) : pz_fC t h h := ⟨fun _ _ _ _ => rfl, rfl⟩
theorem pz_fC_tr {t : Nat} {h h' h'' : zw_Hp} (a : pz_fC t h h') (b : pz_fC t h' h'') : pz_fC t h h'' := ⟨fun i x y z => (b.1 i x y z).trans (a.1 i x y z), b.2.trans a.2⟩
theorem pz_gC_rf (t : Nat) (h : zw_Hp) : pz_gC t h h := ⟨pz_fC_rf t h, rfl, rfl, rfl⟩
theorem pz_gC_tr {t : Nat} {h h' h'' : zw_Hp} (a : pz_gC t h h') (b : pz_gC t h' h'') : pz_gC t h h'' := ⟨pz_fC_tr a.1 b.1, b.2.1.trans a.2.1, b.2.2.1.trans a.2.2.1, b.2.2.2.trans a.2.2.2⟩
theorem pz_gM_rf (h : zw_Hp) : pz_gM h h := ⟨pq_eq_rf h, rfl, rfl, rfl⟩
theorem pz_gM_tr {h h' h'' : zw_Hp} (a : pz_gM h h') (b : pz_gM h' h'') : pz_gM h h'' := ⟨pq_eq_tr a.1 b.1, b.2.1.trans a.2.1, b.2.2.1.trans a.2.2.1, b.2.2.2.trans a.2.2.2⟩
theorem pz_fC_up {t : Nat} {h h' : zw_Hp} (a : pz_fC t h h') {i : Nat} (k : Nat) (v : Int32) (hi : i = t ∨ i = t + 1 ∨ i = t + 2) : pz_fC t h (zw_up h' i k v) := by
  refine ⟨fun j x y z => ?_, a.2⟩
  rw [pq_up_off _ (by omega)]
  exact a.1 j x y z
theorem pz_gC_up {t : Nat} {h h' : zw_Hp} (a : pz_gC t h h') {i : Nat} (k : Nat) (v : Int32) (hi : (i = t ∧ k ≠ 5 ∧ k ≠ 6 ∧ k ≠ 7) ∨ i = t + 1 ∨ i = t + 2) : pz_gC t h (zw_up h' i k v) := by
  refine ⟨pz_fC_up a.1 k v (by omega), ?_, ?_, ?_⟩
  · rw [pq_up_at, if_neg (by omega)]; exact a.2.1
  · rw [pq_up_at, if_neg (by omega)]; exact a.2.2.1
  · rw [pq_up_at, if_neg (by omega)]; exact a.2.2.2
theorem pz_gM_up {h h' : zw_Hp} (a : pz_gM h h') {i k : Nat} (v : Int32) (hr : pq_rl i k = false) (hk : i = 31 → k ≠ 10 ∧ k ≠ 11 ∧ k ≠ 12) : pz_gM h (zw_up h' i k v) := by
  refine ⟨pq_eq_tr a.1 (pq_eq_up h' v hr), ?_, ?_, ?_⟩
  · rw [pq_up_at, if_neg (by omega)]; exact a.2.1
  · rw [pq_up_at, if_neg (by omega)]; exact a.2.2.1
  · rw [pq_up_at, if_neg (by omega)]; exact a.2.2.2
theorem pz_TM_up {x : Nat} {X : pq_Pg} {h : zw_Hp} (a : pz_TM x X h) {i k : Nat} (v : Int32) (hi : i ≠ 32) (hk : i = 31 → k ≠ 2) : pz_TM x X (zw_up h i k v) := by
  refine ⟨?_, fun j hj => ?_⟩
  · rw [pq_up_at, if_neg (by omega)]; exact a.1
  · rw [pq_up_off _ (Ne.symm hi)]; exact a.2 j hj
theorem pz_T_of {t x : Nat} (ht : t = 3 ∨ t = 6) {X : pq_Pg} {h h' : zw_Hp} (a : pz_T x X h) (e : pz_fC t h h') : pz_T x X h' := by
  refine ⟨?_, fun j hj => ?_⟩
  · rw [e.1 1 (by omega) (by omega) (by omega)]; exact a.1
  · rw [e.1 2 (by omega) (by omega) (by omega)]; exact a.2 j hj
theorem pz_rl35 (k : Nat) : pq_rl 35 k = false := by simp [pq_rl]
theorem pz_rl36 (k : Nat) : pq_rl 36 k = false := by simp [pq_rl]
theorem pz_ne9 {p : Nat} (hp : p < 2 ^ 31) : ¬ nI p = -9 := fun e => absurd (e ▸ (by decide : (-9 : Int32) < 0)) (nI_pos hp)
theorem pz_y9 {y : Int32} (hy : 0 ≤ y) : ¬ y = -9 := fun e => absurd hy (by rw [e]; decide)
theorem pz_rg {α : Type} (y lo hi : Int32) (A B : α) : (if y < lo then A else if hi < y then A else B) = if lo ≤ y ∧ y ≤ hi then B else A := by
  by_cases h1 : y < lo
  · rw [if_pos h1, if_neg (fun q => absurd q.1 (Int32.not_le.mpr h1))]
  · rw [if_neg h1]
    by_cases h2 : hi < y
    · rw [if_pos h2, if_neg (fun q => absurd q.2 (Int32.not_le.mpr h2))]
    · rw [if_neg h2, if_pos ⟨Int32.not_lt.mp h1, Int32.not_lt.mp h2⟩]
/-! a letter of the class, by what is wanted -/
theorem pz_l1 {t : Nat} {h : zw_Hp} (c : Int32) (e8 : h.1 t 8 = 1) : M_X2_takeLetter t c h = if 0 ≤ c - 48 ∧ c - 48 ≤ 9 then some (1, zw_up (zw_up h t 5 (10 * (c - 48))) t 8 2) else some (0, h) := by
  unfold M_X2_takeLetter M_X2_leastFigure M_X2_mostFigure M_X2_takeFigure
  rw [e8]
  simp +decide only [if_true, if_false, zw_nm, Option.bind_some, pz_rg]
theorem pz_l2 {t : Nat} {h : zw_Hp} (c : Int32) (e8 : h.1 t 8 = 2) : M_X2_takeLetter t c h = if 0 ≤ c - 48 ∧ c - 48 ≤ 9 then some (1, zw_up (zw_up h t 5 (h.1 t 5 + (c - 48))) t 8 3) else some (0, h) := by
  unfold M_X2_takeLetter M_X2_leastFigure M_X2_mostFigure M_X2_takeFigure
  rw [e8]
  simp +decide only [if_true, if_false, zw_nm, Option.bind_some, pz_rg]
theorem pz_l3 {t : Nat} {h : zw_Hp} (c : Int32) (e8 : h.1 t 8 = 3) : M_X2_takeLetter t c h = if 0 ≤ c - 48 ∧ c - 48 ≤ 9 then some (1, zw_up (zw_up h t 6 (c - 48)) t 8 4) else some (0, h) := by
  unfold M_X2_takeLetter M_X2_leastFigure M_X2_mostFigure M_X2_takeFigure
  rw [e8]
  simp +decide only [if_true, if_false, zw_nm, Option.bind_some, pz_rg]
theorem pz_l4 {t : Nat} {h : zw_Hp} (c : Int32) (e8 : h.1 t 8 = 4) : M_X2_takeLetter t c h = if 0 ≤ c - 48 ∧ c - 48 ≤ 9 then some (1, zw_up (zw_up h t 7 (c - 48)) t 8 5) else some (0, h) := by
  unfold M_X2_takeLetter M_X2_leastFigure M_X2_mostFigure M_X2_takeFigure
  rw [e8]
  simp +decide only [if_true, if_false, zw_nm, Option.bind_some, pz_rg]
theorem pz_l6 {t n : Nat} {h : zw_Hp} (c : Int32) (e8 : h.1 t 8 = 6) (e2 : h.1 t 2 = nI n) (hn : n < 5) : M_X2_takeLetter t c h = if 0 ≤ c - 48 ∧ c - 48 ≤ 3 then some (1, zw_up (zw_up (zw_up h (t + 1) n (c - 48)) t 2 (nI (n + 1))) t 8 5) else some (0, h) := by
  have w : M_X2_addPerson t (c - 48) h = some (1, zw_up (zw_up (zw_up h (t + 1) n (c - 48)) t 2 (nI (n + 1))) t 8 5) := by
    unfold M_X2_addPerson
    rw [e2, if_neg (nI_pos (by omega)), if_pos (show nI n < 5 from nI_lt (a := n) (b := 5) hn (by decide)), if_pos (pq_ok_nI hn (by decide)), nI_clamp (by omega)]
    simp only [zw_nm]
    rw [pq_up_off _ (show t ≠ t + 1 by omega), e2, nI_1]
  unfold M_X2_takeLetter M_X2_leastFigure M_X2_mostFigure M_X2_takeFigure
  rw [e8]
  simp +decide only [if_true, if_false, zw_nm, Option.bind_some, pz_rg, w]
theorem pz_l7 {t m : Nat} {h : zw_Hp} (c : Int32) (e8 : h.1 t 8 = 7) (e3 : h.1 t 3 = nI m) (hm : m < 4) : M_X2_takeLetter t c h = if 1 ≤ c - 48 ∧ c - 48 ≤ 9 then some (1, zw_up (zw_up h (t + 2) m (c - 48)) t 8 8) else some (0, h) := by
  have w : M_X2_startBucket t (c - 48) h = some (1, zw_up (zw_up h (t + 2) m (c - 48)) t 8 8) := by
    unfold M_X2_startBucket
    rw [e3, if_neg (nI_pos (by omega)), if_pos (show nI m < 4 from nI_lt (a := m) (b := 4) hm (by decide)), if_pos (pq_ok_nI hm (by decide)), nI_clamp (by omega)]
    simp only [zw_nm]
  unfold M_X2_takeLetter M_X2_leastFigure M_X2_mostFigure M_X2_takeFigure
  rw [e8]
  simp +decide only [if_true, if_false, zw_nm, Option.bind_some, pz_rg, w]
theorem pz_l8 {t m q : Nat} {h : zw_Hp} (c : Int32) (e8 : h.1 t 8 = 8) (e3 : h.1 t 3 = nI m) (e4 : h.1 t 4 = nI q) : M_X2_takeLetter t c h = if 0 ≤ c - 48 ∧ c - 48 ≤ 1 then some (1, zw_up (zw_up (zw_up h t 4 (nI q ||| ((c - 48) <<< (nI m &&& 31)))) t 3 (nI (m + 1))) t 8 5) else some (0, h) := by
  have w : M_X2_endBucket t (c - 48) h = some (1, zw_up (zw_up (zw_up h t 4 (nI q ||| ((c - 48) <<< (nI m &&& 31)))) t 3 (nI (m + 1))) t 8 5) := by
    unfold M_X2_endBucket
    simp only [zw_nm]
    rw [pq_up_at, if_neg (by omega), e3, e4, nI_1]
  unfold M_X2_takeLetter M_X2_leastFigure M_X2_mostFigure M_X2_takeFigure
  rw [e8]
  simp +decide only [if_true, if_false, zw_nm, Option.bind_some, pz_rg, w]
theorem pz_l5P {t n : Nat} {h : zw_Hp} (e8 : h.1 t 8 = 5) (e2 : h.1 t 2 = nI n) (hn : n < 5) : M_X2_takeLetter t 80 h = some (1, zw_up h t 8 6) := by
  unfold M_X2_takeLetter M_X2_openPart
  rw [e8, if_neg (by decide), if_pos rfl, if_pos rfl, e2, if_neg (show ¬ (5 : Int32) ≤ nI n from nI_ge (a := n) (b := 5) hn (by decide))]
  simp +decide only [if_true, if_false, zw_nm, Option.bind_some]
theorem pz_l5B {t m : Nat} {h : zw_Hp} (e8 : h.1 t 8 = 5) (e3 : h.1 t 3 = nI m) (hm : m < 4) : M_X2_takeLetter t 66 h = some (1, zw_up h t 8 7) := by
  unfold M_X2_takeLetter M_X2_openPart B_X2_openPart_26
  rw [e8, if_neg (by decide), if_pos rfl, if_neg (by decide), if_pos rfl, e3, if_neg (show ¬ (4 : Int32) ≤ nI m from nI_ge (a := m) (b := 4) hm (by decide))]
  simp +decide only [if_true, if_false, zw_nm, Option.bind_some]
theorem pz_l5N {t n m : Nat} {h : zw_Hp} (c : Int32) (e8 : h.1 t 8 = 5) (e2 : h.1 t 2 = nI n) (e3 : h.1 t 3 = nI m) (hn : n ≤ 5) (hm : m ≤ 4) (h1 : ¬ (c = 80 ∧ n < 5)) (h2 : ¬ (c = 66 ∧ m < 4)) : M_X2_takeLetter t c h = some (0, h) := by
  have w : B_X2_openPart_26 t c h = some (0, h) := by
    unfold B_X2_openPart_26
    by_cases q : c = 66
    · have m4 : ¬ m < 4 := fun z => h2 ⟨q, z⟩
      rw [if_pos q, e3, if_pos (show (4 : Int32) ≤ nI m from nI_le (a := 4) (b := m) (by omega) (by omega))]
    · rw [if_neg q]
  unfold M_X2_takeLetter M_X2_openPart
  rw [e8, if_neg (by decide), if_pos rfl, w]
  by_cases q : c = 80
  · have n5 : ¬ n < 5 := fun z => h1 ⟨q, z⟩
    rw [if_pos q, e2, if_pos (show (5 : Int32) ≤ nI n from nI_le (a := 5) (b := n) (by omega) (by omega))]
    simp +decide only [if_true, if_false, zw_nm, Option.bind_some]
  · rw [if_neg q]
    simp +decide only [if_true, if_false, zw_nm, Option.bind_some]
theorem pz_stp {t x p : Nat} {X : pq_Pg} {h : zw_Hp} (hT : pz_T x X h) (hx : x ≤ 36) (hp : p < x) (k : (Int32 × zw_Hp) → Option (Int32 × zw_Hp)) : B_X2_readFrom_22 t k (nI p) h = (M_X2_takeLetter t (X p) h).bind (fun z12 => if z12.1 = 0 then some (nI p, z12.2) else k (nI (p + 1), z12.2)) := by
  unfold B_X2_readFrom_22
  rw [hT.1, if_neg (nI_ge hp (by omega)), if_neg (show ¬ (36 : Int32) ≤ nI p from nI_ge (a := p) (b := 36) (by omega) (by decide)), if_pos (pq_ok_nI (by omega) (by decide)), nI_clamp (by omega), hT.2 p hp]
  simp only [zw_nm, nI_1]
theorem pz_fin {t x : Nat} {X : pq_Pg} {h : zw_Hp} (hT : pz_T x X h) (hx : x ≤ 36) (k : (Int32 × zw_Hp) → Option (Int32 × zw_Hp)) : B_X2_readFrom_22 t k (nI x) h = if h.1 t 8 = 5 then some (-9, h) else some (nI x, h) := by
  unfold B_X2_readFrom_22 B_X2_readFrom_60
  rw [hT.1, if_pos (nI_le (Nat.le_refl x) (by omega))]
/-! figures of the model -/
theorem pz_fig {x p : Nat} {X : pq_Pg} {h : zw_Hp} (hT : pz_TM x X h) (hx : x ≤ 36) (hp : p ≤ x) (h3 : h.1 31 3 = nI p) (lo hi : Int32) : M_X9_figure lo hi h = if p < x ∧ lo ≤ X p - 48 ∧ X p - 48 ≤ hi then some (X p - 48, zw_up h 31 3 (nI (p + 1))) else some (-9, h) := by
  unfold M_X9_figure
  rw [h3, hT.1]
  by_cases q : p < x
  · rw [if_neg (fun z => by have := (nI_eq (by omega) (by omega)).mp z; omega), if_pos (pq_ok_nI (by omega) (by decide)), nI_clamp (by omega), hT.2 p q, pq_in]
    simp only [Option.bind_some, zw_nm, nI_1]
    by_cases w : lo ≤ X p - 48 ∧ X p - 48 ≤ hi
    · have e1 : (zw_up h 31 3 (nI (p + 1))).1 31 3 - 1 = nI p := by rw [pq_up_at, if_pos ⟨rfl, rfl⟩, nI_pred]
      rw [if_pos w, if_neg pq_10, if_pos (show p < x ∧ lo ≤ X p - 48 ∧ X p - 48 ≤ hi from ⟨q, w⟩), e1, if_pos (pq_ok_nI (by omega) (by decide)), nI_clamp (by omega), pq_up_off _ (by decide), hT.2 p q]
    · rw [if_neg w, if_pos rfl, if_neg (fun z => w z.2)]
  · rw [if_pos (congrArg nI (by omega)), if_neg (fun z => q z.1)]
theorem pz_rP {x p n : Nat} {X : pq_Pg} {h : zw_Hp} (hT : pz_TM x X h) (hx : x ≤ 36) (hp : p ≤ x) (h3 : h.1 31 3 = nI p) (h13 : h.1 31 13 = nI n) (hn : n < 5) : M_X9_readPerson h = if p < x ∧ 0 ≤ X p - 48 ∧ X p - 48 ≤ 3 then some (1, zw_up (zw_up (zw_up h 31 3 (nI (p + 1))) 35 n (X p - 48)) 31 13 (nI (n + 1))) else some (0, h) := by
  unfold M_X9_readPerson
  rw [pz_fig hT hx hp h3]
  by_cases q : p < x ∧ 0 ≤ X p - 48 ∧ X p - 48 ≤ 3
  · rw [if_pos q, if_pos q]
    simp only [Option.bind_some, zw_nm]
    have e13 : (zw_up h 31 3 (nI (p + 1))).1 31 13 = nI n := by rw [pq_up_at, if_neg (by decide)]; exact h13
    rw [if_neg (pz_y9 q.2.1), e13, if_pos (pq_ok_nI hn (by decide)), nI_clamp (by omega), pq_up_off _ (show (31 : Nat) ≠ 35 by decide), e13, nI_1]
  · rw [if_neg q, if_neg q]
    simp +decide only [Option.bind_some, zw_nm, if_true]
theorem pz_rB {x p m q : Nat} {X : pq_Pg} {h : zw_Hp} (hT : pz_TM x X h) (hx : x ≤ 36) (hp : p ≤ x) (h3 : h.1 31 3 = nI p) (h15 : h.1 31 15 = nI m) (h17 : h.1 31 17 = nI q) (hm : m < 4) : M_X9_readBucket h = if p < x ∧ 1 ≤ X p - 48 ∧ X p - 48 ≤ 9 then (if p + 1 < x ∧ 0 ≤ X (p + 1) - 48 ∧ X (p + 1) - 48 ≤ 1 then some (1, zw_up (zw_up (zw_up (zw_up (zw_up h 31 3 (nI (p + 1))) 31 3 (nI (p + 1 + 1))) 36 m (X p - 48)) 31 17 (nI q ||| ((X (p + 1) - 48) <<< (nI m &&& 31)))) 31 15 (nI (m + 1))) else some (0, zw_up h 31 3 (nI (p + 1)))) else some (0, h) := by
  unfold M_X9_readBucket
  rw [pz_fig hT hx hp h3]
  by_cases a : p < x ∧ 1 ≤ X p - 48 ∧ X p - 48 ≤ 9
  · rw [if_pos a, if_pos a]
    simp only [Option.bind_some, zw_nm]
    have y0 : 0 ≤ X p - 48 := Int32.le_trans (by decide) a.2.1
    rw [if_neg (pz_y9 y0), pz_fig (pz_TM_up hT _ (by decide) (by decide)) hx (show p + 1 ≤ x by omega) (by rw [pq_up_at, if_pos ⟨rfl, rfl⟩])]
    by_cases b : p + 1 < x ∧ 0 ≤ X (p + 1) - 48 ∧ X (p + 1) - 48 ≤ 1
    · rw [if_pos b, if_pos b]
      simp only [Option.bind_some]
      unfold B_X9_readBucket_25
      have e15 : (zw_up (zw_up h 31 3 (nI (p + 1))) 31 3 (nI (p + 1 + 1))).1 31 15 = nI m := by rw [pq_up_at, if_neg (by decide), pq_up_at, if_neg (by decide)]; exact h15
      have e17 : (zw_up (zw_up h 31 3 (nI (p + 1))) 31 3 (nI (p + 1 + 1))).1 31 17 = nI q := by rw [pq_up_at, if_neg (by decide), pq_up_at, if_neg (by decide)]; exact h17
      rw [if_neg (pz_y9 b.2.1), e15, if_pos (pq_ok_nI hm (by decide)), nI_clamp (by omega)]
      simp only [zw_nm]
      rw [pq_up_at _ 31 17, if_neg (by decide), pq_up_off _ (show (31 : Nat) ≠ 36 by decide), e15, e17, nI_1]
    · rw [if_neg b, if_neg b]
      simp only [Option.bind_some]
      unfold B_X9_readBucket_25
      rw [if_pos rfl]
  · rw [if_neg a, if_neg a]
    simp only [Option.bind_some, zw_nm, if_true]
    unfold B_X9_readBucket_25
    rw [if_pos rfl]
theorem pz_mst {x p n m q : Nat} {X K Z : pq_Pg} {H : zw_Hp} (hT : pz_TM x X H) (hM : pz_M p n m q K Z H) (hx : x ≤ 36) (hp : p < x) (k : zw_Hp → Option (Int32 × zw_Hp)) : B_X9_readNight_57 k H = (M_X9_readPart H).bind (fun z18 => if z18.1 = 0 then some (z18.2.1 31 3, z18.2) else k z18.2) := by
  unfold B_X9_readNight_57
  rw [hT.1, hM.1, if_neg (nI_ge hp (by omega))]
theorem pz_pt {x p n m q : Nat} {X K Z : pq_Pg} {H : zw_Hp} (hT : pz_TM x X H) (hM : pz_M p n m q K Z H) (hx : x ≤ 36) (hp : p < x) : M_X9_readPart H = if X p = 80 then (if 5 ≤ nI n then B_X9_readPart_39 (X p) (zw_up H 31 3 (nI (p + 1))) else (M_X9_readPerson (zw_up H 31 3 (nI (p + 1)))).bind (fun z8 => if z8.1 = 0 ∨ z8.1 = 1 then some (z8.1, z8.2) else none)) else B_X9_readPart_39 (X p) (zw_up H 31 3 (nI (p + 1))) := by
  unfold M_X9_readPart
  rw [hM.1, if_pos (pq_ok_nI (by omega) (by decide)), nI_clamp (by omega), hT.2 p hp, nI_1]
  simp only [zw_nm]
  rw [show (zw_up H 31 3 (nI (p + 1))).1 31 13 = nI n by rw [pq_up_at, if_neg (by decide)]; exact hM.2.1]
