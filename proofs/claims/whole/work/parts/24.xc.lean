/-! plain facts to paste, each family by itself; over the kit's nI, lN and upd -/
/-! ===== drawers: more things than places ===== -/
theorem fb_holes : ∀ (m n : Nat) (f : Nat → Nat), (∀ i, i < n → f i < m) → (∀ i j, i < j → j < n → f i ≠ f j) → n ≤ m := by
  intro m
  induction m with
  | zero =>
    intro n f h1 _
    rcases Nat.eq_zero_or_pos n with h | h
    · omega
    · exact absurd (h1 0 h) (Nat.not_lt_zero _)
  | succ m ih =>
    intro n f h1 h2
    by_cases hx : ∃ i, i < n ∧ f i = m
    · obtain ⟨a, ha, hfa⟩ := hx
      have hg := ih (n - 1) (fun i => if i < a then f i else f (i + 1)) (by
        intro i hi
        by_cases q : i < a
        · simp only [if_pos q]
          have b1 := h1 i (by omega)
          have b2 := h2 i a q ha
          omega
        · simp only [if_neg q]
          have b1 := h1 (i + 1) (by omega)
          have b2 := h2 a (i + 1) (by omega) (by omega)
          omega) (by
        intro i j hij hj
        by_cases q : i < a
        · by_cases r : j < a
          · simp only [if_pos q, if_pos r]
            exact h2 i j hij (by omega)
          · simp only [if_pos q, if_neg r]
            exact h2 i (j + 1) (by omega) (by omega)
        · have r : ¬ j < a := by omega
          simp only [if_neg q, if_neg r]
          exact h2 (i + 1) (j + 1) (by omega) (by omega))
      omega
    · have hg := ih n f (fun i hi => by
        have b1 := h1 i hi
        have b2 : f i ≠ m := fun e => hx ⟨i, hi, e⟩
        omega) h2
      omega
/-- two of them in one place -/
theorem fb_twice {m n : Nat} {f : Nat → Nat} (h : ∀ i, i < n → f i < m) (hm : m < n) : ∃ i j, i < j ∧ j < n ∧ f i = f j := by
  refine Classical.byContradiction fun hx => ?_
  have := fb_holes m n f h (fun i j hij hj e => hx ⟨i, j, hij, hj, e⟩)
  omega
/-- as many as places, none twice: each place is taken -/
theorem fb_onto {n : Nat} {f : Nat → Nat} (h : ∀ i, i < n → f i < n) (h2 : ∀ i j, i < j → j < n → f i ≠ f j) {y : Nat} (hy : y < n) : ∃ i, i < n ∧ f i = y := by
  refine Classical.byContradiction fun hx => ?_
  have hne : ∀ i, i < n → f i ≠ y := fun i hi e => hx ⟨i, hi, e⟩
  have := fb_holes (n - 1) n (fun i => if f i < y then f i else f i - 1) (by
    intro i hi
    have b1 := h i hi
    have b2 := hne i hi
    by_cases q : f i < y
    · simp only [if_pos q]; omega
    · simp only [if_neg q]; omega) (by
    intro i j hij hj
    have b1 := hne i (by omega)
    have b2 := hne j hj
    have b3 := h2 i j hij hj
    by_cases q : f i < y
    · by_cases r : f j < y
      · simp only [if_pos q, if_pos r]; exact b3
      · simp only [if_pos q, if_neg r]; omega
    · by_cases r : f j < y
      · simp only [if_neg q, if_pos r]; omega
      · simp only [if_neg q, if_neg r]; omega)
  omega
/-! who stands where; two change -/
def pq_so (c : pq_Pg) (x : Int32) : Nat := if c 0 = x then 0 else if c 1 = x then 1 else if c 2 = x then 2 else if c 3 = x then 3 else if c 4 = x then 4 else 5
def pq_si (k : Nat) : Int32 := if k < 5 then nI k else -9
theorem pq_so_le (c : pq_Pg) (x : Int32) : pq_so c x ≤ 5 := by
  unfold pq_so
  repeat' split
  all_goals omega
theorem pq_standOf (t : Nat) (x : Int32) (c : pq_Pg) (h : zw_Hp) : M_X3_standOf t x (pq_cp t c h) = some (pq_si (pq_so c x)) := by
  unfold M_X3_standOf L_X3_standOf_2
  obtain ⟨K, hK⟩ := pq_u6 (fun (k2 : (Int32 × Int32) → Option (Int32)) (w : Int32 × Int32) => B_X3_standOf_2 t (pq_cp t c h) k2 (w.1) (w.2)) (x, (0 : Int32))
  rw [hK]
  simp only [B_X3_standOf_2, zw_nm]
  have e0 : (pq_cp t c h).1 (t + 1) 0 = c 0 := pq_cp_1 c h (by decide)
  have e1 : (pq_cp t c h).1 (t + 1) 1 = c 1 := pq_cp_1 c h (by decide)
  have e2 : (pq_cp t c h).1 (t + 1) 2 = c 2 := pq_cp_1 c h (by decide)
  have e3 : (pq_cp t c h).1 (t + 1) 3 = c 3 := pq_cp_1 c h (by decide)
  have e4 : (pq_cp t c h).1 (t + 1) 4 = c 4 := pq_cp_1 c h (by decide)
  simp [zw_ok, e0, e1, e2, e3, e4]
  unfold pq_so
  repeat' split
  all_goals first | rfl | (simp_all [pq_si]; done)
theorem pq_so_at {c : pq_Pg} {x : Int32} {s : Nat} (hs : s < 5) (hx : c s = x) (hu : ∀ a, a < 5 → c a = x → a = s) : pq_so c x = s := by
  unfold pq_so
  rcases (show s = 0 ∨ s = 1 ∨ s = 2 ∨ s = 3 ∨ s = 4 by omega) with rfl | rfl | rfl | rfl | rfl
  · rw [if_pos hx]
  · rw [if_neg (fun e => absurd (hu 0 (by omega) e) (by decide)), if_pos hx]
  · rw [if_neg (fun e => absurd (hu 0 (by omega) e) (by decide)), if_neg (fun e => absurd (hu 1 (by omega) e) (by decide)), if_pos hx]
  · rw [if_neg (fun e => absurd (hu 0 (by omega) e) (by decide)), if_neg (fun e => absurd (hu 1 (by omega) e) (by decide)), if_neg (fun e => absurd (hu 2 (by omega) e) (by decide)), if_pos hx]
  · rw [if_neg (fun e => absurd (hu 0 (by omega) e) (by decide)), if_neg (fun e => absurd (hu 1 (by omega) e) (by decide)), if_neg (fun e => absurd (hu 2 (by omega) e) (by decide)), if_neg (fun e => absurd (hu 3 (by omega) e) (by decide)), if_pos hx]
/-- every one of n has a stand, one of n, and only one -/
theorem pq_WW.stand {n : Nat} (hn : n ≤ 5) {c : pq_Pg} (h : pq_WW n c) {a : Nat} (ha : a < n) : pq_so c (nI a) < n ∧ c (pq_so c (nI a)) = nI a ∧ ∀ s, s < 5 → c s = nI a → s = pq_so c (nI a) := by
  obtain ⟨σ, h1, h2, h3⟩ := h
  obtain ⟨s, hs, e⟩ := fb_onto (n := n) (f := σ) h3 (fun i j hij hj e => by have := h2 i j (by omega) (by omega) e; omega) ha
  have hcs : c s = nI a := by rw [(h1 s (by omega)).1, e]
  have hu : ∀ b, b < 5 → c b = nI a → b = s := by
    intro b hb eb
    refine h2 b s hb (by omega) ?_
    rw [(h1 b hb).1] at eb
    have := (nI_eq (a := σ b) (b := a) (by have := (h1 b hb).2; omega) (by omega)).mp eb
    rw [this, e]
  have hso := pq_so_at (by omega) hcs hu
  rw [hso]
  exact ⟨hs, hcs, hu⟩
def pq_xc (c : pq_Pg) (x y : Int32) : pq_Pg := upd (upd c (pq_so c x) y) (pq_so c y) x
theorem pq_exchange {t : Nat} {n : Nat} (hn : n ≤ 5) {c : pq_Pg} (hW : pq_WW n c) {a b : Nat} (ha : a < n) (hb : b < n) (h : zw_Hp) : M_X3_exchange t (nI a) (nI b) (pq_cp t c h) = some (pq_cp t (pq_xc c (nI a) (nI b)) h) := by
  unfold M_X3_exchange pq_xc
  obtain ⟨a1, a2, a3⟩ := hW.stand hn ha
  obtain ⟨b1, b2, b3⟩ := hW.stand hn hb
  rw [pq_standOf, pq_standOf]
  simp only [Option.bind_some]
  have ea : pq_si (pq_so c (nI a)) = nI (pq_so c (nI a)) := if_pos (by omega)
  have eb : pq_si (pq_so c (nI b)) = nI (pq_so c (nI b)) := if_pos (by omega)
  rw [ea, eb, if_neg (nI_pos (by omega)), if_pos (nI_pos' (by omega))]
  simp only [zw_nm, pq_ok_nI (show pq_so c (nI a) < 5 by omega) (show (5 : Nat) < 2 ^ 31 by decide), pq_ok_nI (show pq_so c (nI b) < 5 by omega) (show (5 : Nat) < 2 ^ 31 by decide), if_true, nI_clamp (show pq_so c (nI a) < 2 ^ 31 by omega), nI_clamp (show pq_so c (nI b) < 2 ^ 31 by omega)]
  rw [pq_cp_u1 c h _ (by omega), pq_cp_u1 _ h _ (by omega)]
theorem pq_xc_hi {c : pq_Pg} {x y : Int32} {k : Nat} (hx : pq_so c x < 5) (hy : pq_so c y < 5) (hk : 5 ≤ k) : pq_xc c x y k = c k := by
  unfold pq_xc
  rw [pq_upd_ne (by omega), pq_upd_ne (by omega)]
theorem pq_WW_xc {n : Nat} (hn : n ≤ 5) {c : pq_Pg} (hW : pq_WW n c) {a b : Nat} (ha : a < n) (hb : b < n) (hab : a ≠ b) : pq_WW n (pq_xc c (nI a) (nI b)) := by
  obtain ⟨a1, a2, a3⟩ := hW.stand hn ha
  obtain ⟨b1, b2, b3⟩ := hW.stand hn hb
  unfold pq_xc
  generalize pq_so c (nI a) = sa at a1 a2 a3 ⊢
  generalize pq_so c (nI b) = sb at b1 b2 b3 ⊢
  obtain ⟨σ, h1, h2, h3⟩ := hW
  have ea : σ sa = a := by
    have := (h1 sa (by omega)).1
    rw [a2] at this
    exact ((nI_eq (by omega) (by have := (h1 sa (by omega)).2; omega)).mp this).symm
  have eb : σ sb = b := by
    have := (h1 sb (by omega)).1
    rw [b2] at this
    exact ((nI_eq (by omega) (by have := (h1 sb (by omega)).2; omega)).mp this).symm
  have hne : sa ≠ sb := fun e => hab (by rw [← ea, ← eb, e])
  refine ⟨fun s => if s = sb then a else if s = sa then b else σ s, fun s hs => ?_, fun s s' hs hs' e => ?_, fun s hs => ?_⟩
  · show _ = nI (if s = sb then a else if s = sa then b else σ s) ∧ (if s = sb then a else if s = sa then b else σ s) < 5
    by_cases q : s = sb
    · subst q
      rw [if_pos rfl]
      exact ⟨pq_upd_eq, by omega⟩
    · rw [if_neg q, pq_upd_ne q]
      by_cases q2 : s = sa
      · subst q2
        rw [if_pos rfl]
        exact ⟨pq_upd_eq, by omega⟩
      · rw [if_neg q2, pq_upd_ne q2]
        exact h1 s hs
  · have key : ∀ s, s < 5 → s ≠ sa → s ≠ sb → σ s ≠ a ∧ σ s ≠ b := fun s hs n1 n2 => ⟨fun e => n1 (h2 s sa hs (by omega) (by rw [e, ea])), fun e => n2 (h2 s sb hs (by omega) (by rw [e, eb]))⟩
    simp only at e
    by_cases q : s = sb
    · by_cases q' : s' = sb
      · omega
      · rw [if_pos q, if_neg q'] at e
        by_cases q2 : s' = sa
        · rw [if_pos q2] at e; exact absurd e hab
        · rw [if_neg q2] at e; exact absurd e.symm (key s' hs' q2 q').1
    · rw [if_neg q] at e
      by_cases q2 : s = sa
      · rw [if_pos q2] at e
        by_cases q' : s' = sb
        · rw [if_pos q'] at e; exact absurd e.symm hab
        · rw [if_neg q'] at e
          by_cases q3 : s' = sa
          · omega
          · rw [if_neg q3] at e; exact absurd e.symm (key s' hs' q3 q').2
      · rw [if_neg q2] at e
        by_cases q' : s' = sb
        · rw [if_pos q'] at e; exact absurd e (key s hs q2 q).1
        · rw [if_neg q'] at e
          by_cases q3 : s' = sa
          · rw [if_pos q3] at e; exact absurd e (key s hs q2 q).2
          · rw [if_neg q3] at e; exact h2 s s' hs hs' e
  · simp only
    split
    · exact ha
    · split
      · exact hb
      · exact h3 s hs
theorem pq_WP_hi {n m : Nat} {c d : pq_Pg} (h : pq_WP n m c) (e : ∀ k, 5 ≤ k → d k = c k) : pq_WP n m d := by
  obtain ⟨h1, h2, h3, h4⟩ := h
  exact ⟨fun b hb => by rw [e _ (by omega)]; exact h1 b hb, fun b hb hm => by rw [e _ (by omega)]; exact h2 b hb hm, fun a b ha hb hne heq => by rw [e _ (by omega)] at heq ⊢; rw [e _ (by omega)] at heq; exact h3 a b ha hb hne heq, fun b hb => by rw [e _ (by omega)]; exact h4 b hb⟩
theorem pq_Wb_xc {n m B : Nat} (hn : n ≤ 5) {c : pq_Pg} (h : pq_Wb n m B c) {a b : Nat} (ha : a < n) (hb : b < n) (hab : a ≠ b) : pq_Wb n m B (pq_xc c (nI a) (nI b)) := by
  obtain ⟨a1, -, -⟩ := h.1.stand hn ha
  obtain ⟨b1, -, -⟩ := h.1.stand hn hb
  have e : ∀ k, 5 ≤ k → pq_xc c (nI a) (nI b) k = c k := fun k hk => pq_xc_hi (by omega) (by omega) hk
  refine ⟨pq_WW_xc hn h.1 ha hb hab, pq_WP_hi h.2.1 e, ?_, ?_⟩
  · unfold pq_WF; rw [e 17 (by omega), e 18 (by omega)]; exact h.2.2.1
  · unfold pq_WN; rw [e 19 (by omega), e 20 (by omega)]; exact h.2.2.2
/-! the model's own -/
def pq_sf (g : pq_Pg) (v : Int32) : Nat → Nat
  | 0 => 5
  | j + 1 => if g j = v then j else pq_sf g v j
theorem pq_sf_at {g : pq_Pg} {v : Int32} {b : Nat} (hb : g b = v) : ∀ m, b < m → (∀ j, j < m → j ≠ b → g j ≠ v) → pq_sf g v m = b := by
  intro m
  induction m with
  | zero => intro h; omega
  | succ m ih =>
    intro hbm h
    show (if g m = v then m else pq_sf g v m) = b
    by_cases q : m = b
    · subst q; rw [if_pos hb]
    · rw [if_neg (h m (by omega) q)]
      exact ih (by omega) (fun j hj => h j (by omega))
theorem pq_mstandOf {pp n : Nat} (hpp : pp = 37 ∨ pp = 38) (hn : n ≤ 5) (h : zw_Hp) (g : pq_Pg) (v : Int32) : M_X9_standOf pp v (nI n) (zw_upR h pp g) = some (pq_si (pq_sf g v n)) := by
  unfold M_X9_standOf L_X9_standOf_6
  have key : ∀ (d N j : Nat), j + d = n → d < N → zw_it (fun (k6 : (Int32 × Int32 × Int32 × Int32) → Option (Int32)) (w : Int32 × Int32 × Int32 × Int32) => B_X9_standOf_6 pp (zw_upR h pp g) k6 (w.1) (w.2.1) (w.2.2.1) (w.2.2.2)) N (v, nI n, pq_si (pq_sf g v j), nI j) = some (pq_si (pq_sf g v n)) := by
    intro d
    induction d with
    | zero =>
      intro N j hj hN
      obtain ⟨N', rfl⟩ : ∃ N', N = N' + 1 := ⟨N - 1, by omega⟩
      rw [pq_it_s]
      simp only []
      rw [B_X9_standOf_6, show j = n by omega, if_pos (Int32.le_refl _)]
    | succ d ih =>
      intro N j hj hN
      obtain ⟨N', rfl⟩ : ∃ N', N = N' + 1 := ⟨N - 1, by omega⟩
      rw [pq_it_s]
      simp only []
      rw [B_X9_standOf_6, if_neg (nI_ge (by omega) (by omega)), if_pos (pq_ok_nI (by omega) (by decide)), nI_clamp (by omega), pq_mp]
      have ih2 := ih N' (j + 1) (by omega) (by omega)
      simp only [B_X9_standOf_26, zw_nm, nI_1]
      by_cases hg : g j = v
      · rw [if_pos hg]
        have e : pq_sf g v (j + 1) = j := if_pos hg
        rw [e] at ih2
        have e2 : pq_si j = nI j := if_pos (by omega)
        rw [e2] at ih2
        exact ih2
      · rw [if_neg hg]
        have e : pq_sf g v (j + 1) = pq_sf g v j := if_neg hg
        rw [e] at ih2
        exact ih2
  exact key n 600 0 (by omega) (by omega)
theorem pq_sf_so {n : Nat} (hn : n ≤ 5) {c g : pq_Pg} (hW : pq_WW n c) (hg : ∀ s, s < n → g s = c s) {a : Nat} (ha : a < n) : pq_sf g (nI a) n = pq_so c (nI a) := by
  obtain ⟨a1, a2, a3⟩ := hW.stand hn ha
  refine pq_sf_at (by rw [hg _ a1]; exact a2) n a1 (fun j hj hne e => hne (a3 j (by omega) ?_))
  rw [← hg j hj]; exact e
theorem pq_goChange {pp n m : Nat} {K Z : Nat → Int32} {w gr : Int32} (hpp : pp = 37 ∨ pp = 38) (hn : n ≤ 5) {h : zw_Hp} (hC : pq_C n m K Z w gr h) {c g : pq_Pg} (hW : pq_WW n c) (hR : pq_R 4 w n m c g) {a b : Nat} (ha : a < n) (hb : b < n) :
    ∃ g', M_X9_goChange pp (nI a) (nI b) (zw_upR h pp g) = some (zw_upR h pp g') ∧ pq_R 4 w n m (pq_xc c (nI a) (nI b)) g' := by
  obtain ⟨a1, a2, a3⟩ := hW.stand hn ha
  obtain ⟨b1, b2, b3⟩ := hW.stand hn hb
  unfold M_X9_goChange
  rw [pq_mo hpp h g (by decide), hC.1, pq_mstandOf hpp hn, pq_mstandOf hpp hn, pq_sf_so hn hW hR.1 ha, pq_sf_so hn hW hR.1 hb]
  simp only [Option.bind_some]
  have ea : pq_si (pq_so c (nI a)) = nI (pq_so c (nI a)) := if_pos (by omega)
  have eb : pq_si (pq_so c (nI b)) = nI (pq_so c (nI b)) := if_pos (by omega)
  rw [ea, eb]
  simp only [zw_nm, pq_ok_nI (show pq_so c (nI a) < 21 by omega) (show (21 : Nat) < 2 ^ 31 by decide), pq_ok_nI (show pq_so c (nI b) < 21 by omega) (show (21 : Nat) < 2 ^ 31 by decide), if_true, nI_clamp (show pq_so c (nI a) < 2 ^ 31 by omega), nI_clamp (show pq_so c (nI b) < 2 ^ 31 by omega)]
  rw [pq_mu, pq_mu]
  refine ⟨_, rfl, ?_⟩
  unfold pq_xc
  obtain ⟨h1, h2, h3⟩ := hR
  refine ⟨fun s hs => ?_, fun x hx => ⟨fun q => (((h2 x hx).1 q)).1 ▸ ?_, fun q => ?_⟩, fun k hk hk2 => ?_⟩
  · unfold upd
    split
    · rfl
    · split
      · rfl
      · exact h1 s hs
  · rw [pq_upd_ne (by omega), pq_upd_ne (by omega), pq_upd_ne (by omega), pq_upd_ne (by omega), pq_upd_ne (by omega), pq_upd_ne (by omega), pq_upd_ne (by omega), pq_upd_ne (by omega)]
    exact ⟨rfl, ((h2 x hx).1 q).2⟩
  · rw [pq_upd_ne (by omega), pq_upd_ne (by omega), pq_upd_ne (by omega), pq_upd_ne (by omega), pq_upd_ne (by omega), pq_upd_ne (by omega), pq_upd_ne (by omega), pq_upd_ne (by omega), pq_upd_ne (by omega), pq_upd_ne (by omega), pq_upd_ne (by omega), pq_upd_ne (by omega)]
    exact (h2 x hx).2 q
  · rw [pq_upd_ne (by omega), pq_upd_ne (by omega), pq_upd_ne (by omega), pq_upd_ne (by omega)]; exact h3 k hk hk2
