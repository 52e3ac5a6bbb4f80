/-! sets of buckets -/
def pq_ac (P : Nat → Bool) : Nat → Int32
  | 0 => 0
  | k + 1 => pq_ac P k ||| (if P k = true then (1 : Int32) <<< (nI k &&& 31) else 0)
theorem pq_ac_s (P : Nat → Bool) (k : Nat) : pq_ac P (k + 1) = pq_ac P k ||| (if P k = true then (1 : Int32) <<< (nI k &&& 31) else 0) := rfl
def pq_hm (P : Nat → Bool) : Nat := (P 0).toNat + 2 * (P 1).toNat + 4 * (P 2).toNat + 8 * (P 3).toNat
theorem pq_hm_lt (P : Nat → Bool) : pq_hm P < 16 := by
  unfold pq_hm
  have := (P 0).toNat_le
  have := (P 1).toNat_le
  have := (P 2).toNat_le
  have := (P 3).toNat_le
  omega
theorem pq_ac_ext {P Q : Nat → Bool} : ∀ k, (∀ b, b < k → P b = Q b) → pq_ac P k = pq_ac Q k := by
  intro k
  induction k with
  | zero => intro _; rfl
  | succ k ih =>
    intro h
    unfold pq_ac
    rw [ih (fun b hb => h b (by omega)), h k (by omega)]
theorem pq_ac_m {P : Nat → Bool} {m : Nat} (hP : ∀ b, m ≤ b → b < 4 → P b = false) : ∀ d, m + d ≤ 4 → pq_ac P (m + d) = pq_ac P m := by
  intro d
  induction d with
  | zero => intro _; rfl
  | succ d ih =>
    intro hd
    have e : pq_ac P (m + d + 1) = pq_ac P (m + d) ||| (if P (m + d) = true then (1 : Int32) <<< (nI (m + d) &&& 31) else 0) := rfl
    show pq_ac P (m + d + 1) = _
    rw [e, hP (m + d) (by omega) (by omega), if_neg (by decide), ih (by omega), Int32.or_zero]
theorem pq_ac4 (P : Nat → Bool) : pq_ac P 4 = nI (pq_hm P) := by
  unfold pq_hm
  simp only [pq_ac]
  generalize P 0 = b0
  generalize P 1 = b1
  generalize P 2 = b2
  generalize P 3 = b3
  revert b0 b1 b2 b3
  decide +kernel
theorem pq_mbat {pp m : Nat} (hpp : pp = 37 ∨ pp = 38) (hm : m ≤ 4) (h : zw_Hp) (g : pq_Pg) (hM : h.1 31 8 = nI m) (lo hi : Int32) : M_X9_bucketsAt pp lo hi (zw_upR h pp g) = some (pq_ac (fun b => decide (lo ≤ g (b + 5) ∧ g (b + 5) ≤ hi)) m) := by
  unfold M_X9_bucketsAt L_X9_bucketsAt_6
  have key : ∀ (d N k : Nat), k + d = m → d < N → zw_it (fun (k6 : (Int32 × Int32 × Int32 × Int32) → Option (Int32)) (w : Int32 × Int32 × Int32 × Int32) => B_X9_bucketsAt_6 pp (zw_upR h pp g) k6 (w.1) (w.2.1) (w.2.2.1) (w.2.2.2)) N (lo, hi, pq_ac (fun b => decide (lo ≤ g (b + 5) ∧ g (b + 5) ≤ hi)) k, nI k) = some (pq_ac (fun b => decide (lo ≤ g (b + 5) ∧ g (b + 5) ≤ hi)) m) := by
    intro d
    induction d with
    | zero =>
      intro N k hk hN
      obtain ⟨N', rfl⟩ : ∃ N', N = N' + 1 := ⟨N - 1, by omega⟩
      rw [pq_it_s]
      simp only []
      rw [B_X9_bucketsAt_6, pq_mo hpp h g (by decide), hM, show k = m by omega, if_pos (Int32.le_refl _)]
    | succ d ih =>
      intro N k hk hN
      obtain ⟨N', rfl⟩ : ∃ N', N = N' + 1 := ⟨N - 1, by omega⟩
      have ih' := ih N' (k + 1) (by omega) (by omega)
      rw [pq_ac_s] at ih'
      rw [pq_it_s]
      simp only []
      rw [B_X9_bucketsAt_6, pq_mo hpp h g (by decide), hM, if_neg (nI_ge (by omega) (by omega)), if_pos (pq_a5 (show k < 4 by omega)).2, (pq_a5 (show k < 4 by omega)).1, pq_mp, pq_in]
      simp only [Option.bind_some, B_X9_bucketsAt_42, zw_nm, nI_1]
      by_cases q : lo ≤ g (k + 5) ∧ g (k + 5) ≤ hi
      · rw [if_pos q, if_neg pq_10]
        rw [if_pos (by simpa using q)] at ih'
        exact ih'
      · rw [if_neg q, if_pos rfl]
        rw [if_neg (by simpa using q)] at ih'
        exact ih'
  exact key m 600 0 (by omega) (by omega)
/-! buckets that are dropped by chance -/
def pq_hd (m : Nat) (c : pq_Pg) (b : Nat) : Bool := decide (b < m ∧ ¬ 5 ≤ c (b + 5))
theorem pq_hd_hi {m : Nat} {c : pq_Pg} : ∀ b, m ≤ b → b < 4 → pq_hd m c b = false := by
  intro b h1 _
  unfold pq_hd
  simp
  omega
def pq_b4 (b0 b1 b2 b3 : Bool) (k : Nat) : Bool := if k = 0 then b0 else if k = 1 then b1 else if k = 2 then b2 else b3
theorem pq_b4_eq (P : Nat → Bool) {k : Nat} (hk : k < 4) : pq_b4 (P 0) (P 1) (P 2) (P 3) k = P k := by
  rcases (show k = 0 ∨ k = 1 ∨ k = 2 ∨ k = 3 by omega) with rfl | rfl | rfl | rfl <;> rfl
def pq_ws (P : Nat → Bool) (S : Nat) (x : Int32) (s : Int32) (b : Nat) : Int32 := if P b = true then s * (if pq_off S b then 10 - x else x) else if pq_off S b then s else 0
def pq_wt (P : Nat → Bool) (S : Nat) (x : Int32) : Int32 := pq_ws P S x (pq_ws P S x (pq_ws P S x (pq_ws P S x 1 0) 1) 2) 3
abbrev pq_sub (S q : Nat) : Prop := (nI S &&& (nI q ^^^ -1)) = 0
theorem pq_wt0 : ∀ b0 b1 b2 b3 : Bool, ∀ S : Fin 16, ∀ x : Fin 11, (if pq_sub S.val (pq_hm (pq_b4 b0 b1 b2 b3)) then pq_wt (pq_b4 b0 b1 b2 b3) S.val (nI x.val) = pq_pwr (nI x.val) (pq_pop S.val) * pq_pwr (10 - nI x.val) (pq_pop (pq_hm (pq_b4 b0 b1 b2 b3)) - pq_pop S.val) else pq_wt (pq_b4 b0 b1 b2 b3) S.val (nI x.val) = 0) ∧ (pq_wt (pq_b4 b0 b1 b2 b3) S.val (nI x.val) ≤ 0 → pq_wt (pq_b4 b0 b1 b2 b3) S.val (nI x.val) = 0) ∧ (pq_sub S.val (pq_hm (pq_b4 b0 b1 b2 b3)) → pq_pop S.val ≤ pq_pop (pq_hm (pq_b4 b0 b1 b2 b3))) := by decide +kernel
theorem pq_sb0 : ∀ b0 b1 b2 b3 : Bool, ∀ S : Fin 16, ∀ k : Fin 4, pq_sub S.val (pq_hm (pq_b4 b0 b1 b2 b3)) → ¬ pq_off S.val k.val → pq_b4 b0 b1 b2 b3 k.val = true := by decide +kernel
theorem pq_sh0 : ∀ S : Fin 16, ∀ m : Fin 5, S.val < 2 ^ m.val ∨ ∃ k : Fin 4, m.val ≤ k.val ∧ ¬ pq_off S.val k.val := by decide +kernel
theorem pq_so0 : ∀ S : Fin 16, ∀ k : Fin 4, S.val < 2 ^ k.val → pq_off S.val k.val := by decide +kernel
theorem pq_bl0 : ∀ b0 b1 b2 b3 : Bool, (if b3 = true then (if b2 = true then (if b1 = true then (if b0 = true then (1 : Int32) * 10 else 1) * 10 else (if b0 = true then (1 : Int32) * 10 else 1)) * 10 else (if b1 = true then (if b0 = true then (1 : Int32) * 10 else 1) * 10 else (if b0 = true then (1 : Int32) * 10 else 1))) * 10 else (if b2 = true then (if b1 = true then (if b0 = true then (1 : Int32) * 10 else 1) * 10 else (if b0 = true then (1 : Int32) * 10 else 1)) * 10 else (if b1 = true then (if b0 = true then (1 : Int32) * 10 else 1) * 10 else (if b0 = true then (1 : Int32) * 10 else 1)))) = pq_pwr 10 (pq_pop (pq_hm (pq_b4 b0 b1 b2 b3))) := by decide +kernel
theorem pq_wt_f (P : Nat → Bool) {S x : Nat} (hS : S < 16) (hx : x ≤ 10) : (if pq_sub S (pq_hm P) then pq_wt P S (nI x) = pq_pwr (nI x) (pq_pop S) * pq_pwr (10 - nI x) (pq_pop (pq_hm P) - pq_pop S) else pq_wt P S (nI x) = 0) ∧ (pq_wt P S (nI x) ≤ 0 → pq_wt P S (nI x) = 0) ∧ (pq_sub S (pq_hm P) → pq_pop S ≤ pq_pop (pq_hm P)) :=
  pq_wt0 (P 0) (P 1) (P 2) (P 3) ⟨S, hS⟩ ⟨x, by omega⟩
theorem pq_sb_f (P : Nat → Bool) {S k : Nat} (hS : S < 16) (hk : k < 4) (h1 : pq_sub S (pq_hm P)) (h2 : ¬ pq_off S k) : P k = true := by
  have := pq_sb0 (P 0) (P 1) (P 2) (P 3) ⟨S, hS⟩ ⟨k, hk⟩ h1 h2
  rw [pq_b4_eq P hk] at this
  exact this
theorem pq_held9 {n m B : Nat} {h : zw_Hp} (hI : pq_I n m B h) {H : zw_Hp} (e : pq_cg 9 H = pq_cg 9 h) {b : Nat} (hb : b < 4) : M_X3_isHeld 9 (nI b) H = some (if pq_hd m (pq_cg 9 h) b = true then 1 else 0) := by
  have e1 : H = pq_cp 9 (pq_cg 9 h) H := by rw [← e, pq_cp_cg]
  rw [e1, pq_isHeldN hI.1.2.1 hI.1.2.2.1 (by omega) hI.now.1.2.1]
  unfold pq_hd
  by_cases q : b < m ∧ ¬ 5 ≤ pq_cg 9 h (b + 5)
  · rw [if_pos q, if_pos (by simpa using q)]
  · rw [if_neg q, if_neg (by simpa using q)]
theorem pq_weight {n m B : Nat} {h : zw_Hp} (hI : pq_I n m B h) {H : zw_Hp} (e : pq_cg 9 H = pq_cg 9 h) (S : Nat) (x : Int32) : M_X1_weightOfFalling (nI S) x H = some (pq_wt (pq_hd m (pq_cg 9 h)) S x) := by
  unfold M_X1_weightOfFalling L_X1_weightOfFalling_5
  have step : ∀ (k5 : (Int32 × Int32 × Int32 × Int32) → Option Int32) (s : Int32) (b : Nat), b < 4 → B_X1_weightOfFalling_5 H k5 (nI S) x s (nI b) = k5 (nI S, x, pq_ws (pq_hd m (pq_cg 9 h)) S x s b, nI (b + 1)) := by
    intro k5 s b hb
    rw [B_X1_weightOfFalling_5, if_neg (show ¬ (4 : Int32) ≤ nI b from nI_ge (a := b) (b := 4) hb (by decide))]
    simp only [B_X1_weightOfFalling_26, B_X1_weightOfFalling_54, B_X1_weightOfFalling_66, zw_nm, nI_1]
    rw [pq_held9 hI e hb]
    simp only [Option.bind_some]
    unfold pq_ws
    by_cases q : pq_off S b
    · have q1 : ¬ ((nI S >>> (nI b &&& 31)) &&& 1) = 1 := fun z => (pq_off1 S b).mpr z q
      rw [if_neg q1, if_pos q, if_pos q]
      by_cases p : pq_hd m (pq_cg 9 h) b = true
      · rw [if_pos p, if_neg pq_10, if_pos trivial, if_pos p]
      · rw [if_neg p, if_pos rfl, if_pos trivial, if_neg p]
    · have q1 : ((nI S >>> (nI b &&& 31)) &&& 1) = 1 := (pq_off1 S b).mp q
      rw [if_pos q1, if_neg q, if_neg q]
      by_cases p : pq_hd m (pq_cg 9 h) b = true
      · rw [if_pos p, if_neg pq_10, if_neg pq_10, if_pos p]
      · rw [if_neg p, if_pos rfl, if_neg pq_10, if_neg p]
  obtain ⟨K, hK⟩ := pq_u5 (fun (k5 : (Int32 × Int32 × Int32 × Int32) → Option (Int32)) (w : Int32 × Int32 × Int32 × Int32) => B_X1_weightOfFalling_5 H k5 (w.1) (w.2.1) (w.2.2.1) (w.2.2.2)) (nI S, x, (1 : Int32), (0 : Int32))
  rw [hK]
  simp only []
  have s0 := fun k5 s => step k5 s 0 (by omega)
  rw [show nI 0 = 0 from rfl] at s0
  rw [s0]
  simp only []
  rw [step _ _ 1 (by omega)]
  simp only []
  rw [step _ _ 2 (by omega)]
  simp only []
  rw [step _ _ 3 (by omega)]
  simp only []
  rw [B_X1_weightOfFalling_5, if_pos (by decide)]
  rfl
def pq_fln (w : Int32) (c : pq_Pg) (S : Nat) : Nat → pq_Pg
  | 0 => c
  | k + 1 => if pq_off S k then pq_fln w c S k else pq_fall w (pq_fln w c S k) k
theorem pq_fln_s (w : Int32) (c : pq_Pg) (S k : Nat) : pq_fln w c S (k + 1) = if pq_off S k then pq_fln w c S k else pq_fall w (pq_fln w c S k) k := rfl
theorem pq_fln_keep {n m B : Nat} (hn : n ≤ 5) {w : Int32} {c : pq_Pg} (h : pq_Wb n m B c) (S : Nat) : ∀ k, k ≤ 4 → pq_Wb n m B (pq_fln w c S k) ∧ (∀ i, 17 ≤ i → pq_fln w c S k i = c i) ∧ ∀ j, k ≤ j → j < 4 → pq_fln w c S k (j + 5) = c (j + 5) := by
  intro k
  induction k with
  | zero => intro _; exact ⟨h, fun i _ => rfl, fun j _ _ => rfl⟩
  | succ k ih =>
    intro hk
    obtain ⟨i1, i2, i3⟩ := ih (by omega)
    rw [pq_fln_s]
    split
    · exact ⟨i1, i2, fun j j1 j2 => i3 j (by omega) j2⟩
    · refine ⟨pq_Wb_fall hn (by omega) i1, fun i hi => by rw [pq_fall_off (by omega) (by omega)]; exact i2 i hi, fun j j1 j2 => ?_⟩
      by_cases h5 : 5 ≤ pq_fln w c S k (k + 5)
      · unfold pq_fall; rw [if_pos h5]; exact i3 j (by omega) j2
      · rw [pq_fall_eq h5, pq_upd_ne (by omega), (pq_send_ne j2 (show k < 4 by omega) (by omega)).1]
        exact i3 j (by omega) j2
theorem pq_fln_m {w : Int32} {c : pq_Pg} {S m : Nat} (hm : m ≤ 4) (hS : S < 2 ^ m) : ∀ d, m + d ≤ 4 → pq_fln w c S (m + d) = pq_fln w c S m := by
  intro d
  induction d with
  | zero => intro _; rfl
  | succ d ih =>
    intro hd
    show pq_fln w c S (m + d + 1) = _
    have h2 : 2 ^ m ≤ 2 ^ (m + d) := Nat.pow_le_pow_right (by omega) (by omega)
    have h3 := pq_p16 hm
    rw [pq_fln_s, if_pos (pq_so0 ⟨S, by omega⟩ ⟨m + d, by omega⟩ (by show S < 2 ^ (m + d); omega)), ih (by omega)]
def pq_fw (h : zw_Hp) (n S : Nat) : Int32 := pq_bts (h.1 7) (h.1 8) (h.1 6 7) (h.1 6 6) n (pq_fln (h.1 6 7) (pq_cg 9 h) S 4) 10 19 - pq_cg 9 h 19
theorem pq_fw_eq {h h' : zw_Hp} (e : pq_eq h h') (n S : Nat) : pq_fw h' n S = pq_fw h n S := by
  unfold pq_fw
  obtain ⟨e6, e7, e8⟩ := pq_row678 e
  rw [pq_eq_cg e, e6, e7, e8]
theorem pq_two {n m B : Nat} {h : zw_Hp} (hI : pq_I n m B h) (S : Nat) (c' : pq_Pg) : ∃ c'', M_X1_thrownWithout (nI S) (pq_cp 14 c' h) = some (pq_fw h n S, pq_cp 14 c'' h) := by
  unfold M_X1_thrownWithout
  have eb : M_X1_begin (pq_cp 14 c' h) = some (pq_cp 14 (pq_cg 9 h) h) := by rw [pq_begin, pq_cp_cp, pq_eq_cg (pq_eq_cp h c')]
  rw [eb]
  simp only [Option.bind_some]
  unfold L_X1_thrownWithout_6
  have hn := hI.1.2.1
  have key : ∀ (d N k : Nat), k + d = 4 → d < N → ∃ c'', zw_it (fun (k6 : (Int32 × Int32 × zw_Hp) → Option (Int32 × zw_Hp)) (w : Int32 × Int32 × zw_Hp) => B_X1_thrownWithout_6 k6 (w.1) (w.2.1) (w.2.2)) N (nI S, nI k, pq_cp 14 (pq_fln (h.1 6 7) (pq_cg 9 h) S k) h) = some (pq_fw h n S, pq_cp 14 c'' h) := by
    intro d
    induction d with
    | zero =>
      intro N k hk hN
      obtain ⟨N', rfl⟩ : ∃ N', N = N' + 1 := ⟨N - 1, by omega⟩
      have hk4 : k = 4 := by omega
      subst hk4
      rw [pq_it_s]
      simp only []
      rw [B_X1_thrownWithout_6, if_pos (by decide)]
      have kp := pq_fln_keep (w := h.1 6 7) hn hI.now.1 S 4 (by omega)
      have e := pq_passBeats (T := 10) (Or.inr rfl) h hI.1 (by omega) kp.1
      rw [kp.2.1 19 (by omega)] at e
      have e' : M_X3_passBeats 14 10 (pq_cp 14 (pq_fln (h.1 6 7) (pq_cg 9 h) S 4) h) = _ := e
      rw [e']
      exact ⟨_, rfl⟩
    | succ d ih =>
      intro N k hk hN
      obtain ⟨N', rfl⟩ : ∃ N', N = N' + 1 := ⟨N - 1, by omega⟩
      have ih' := ih N' (k + 1) (by omega) (by omega)
      rw [pq_it_s]
      simp only []
      rw [B_X1_thrownWithout_6, if_neg (show ¬ (4 : Int32) ≤ nI k from nI_ge (a := k) (b := 4) (by omega) (by decide)), pq_letFall (Or.inr rfl) k (by omega)]
      simp only [Option.bind_some, zw_nm, B_X1_thrownWithout_28, nI_1]
      rw [pq_fln_s] at ih'
      by_cases q : pq_off S k
      · rw [if_neg (fun z => (pq_off1 S k).mpr z q)]
        rw [if_pos q] at ih'
        exact ih'
      · rw [if_pos ((pq_off1 S k).mp q)]
        rw [if_neg q] at ih'
        exact ih'
  exact key 4 600 0 (by omega) (by omega)
/-- one set of falling buckets in the sum -/
def pq_c1 (P : Nat → Bool) (y : Nat → Int32) (v : Int32) (x S : Nat) (s : Int32) : Int32 := if pq_sub S (pq_hm P) then s + (if y S < v then 0 else pq_pwr (nI x) (pq_pop S) * pq_pwr (10 - nI x) (pq_pop (pq_hm P) - pq_pop S)) else s
def pq_cs (P : Nat → Bool) (y : Nat → Int32) (v : Int32) (x : Nat) : Nat → Nat → Int32 → Int32
  | 0, _, s => s
  | d + 1, S, s => pq_cs P y v x d (S + 1) (pq_c1 P y v x S s)
theorem pq_cs_m {P : Nat → Bool} {y : Nat → Int32} {v : Int32} {x m : Nat} (hm : m ≤ 4) (hP : ∀ b, m ≤ b → b < 4 → P b = false) : ∀ (d S : Nat) (s : Int32), S + d = 16 → 2 ^ m ≤ S → pq_cs P y v x d S s = s := by
  intro d
  induction d with
  | zero => intro S s _ _; rfl
  | succ d ih =>
    intro S s hS h2
    have e : pq_c1 P y v x S s = s := by
      refine if_neg (fun z => ?_)
      rcases pq_sh0 ⟨S, by omega⟩ ⟨m, by omega⟩ with q | ⟨k, k1, k2⟩
      · have : S < 2 ^ m := q
        omega
      · have := pq_sb_f P (show S < 16 by omega) k.isLt z k2
        rw [hP k.val k1 k.isLt] at this
        cases this
    show pq_cs P y v x d (S + 1) (pq_c1 P y v x S s) = s
    rw [e]
    exact ih (S + 1) s (by omega) (by omega)
theorem pq_cs_add {P : Nat → Bool} {y : Nat → Int32} {v : Int32} {x : Nat} : ∀ (d e S : Nat) (s : Int32), pq_cs P y v x (d + e) S s = pq_cs P y v x e (S + d) (pq_cs P y v x d S s) := by
  intro d
  induction d with
  | zero => intro e S s; rw [Nat.zero_add]; rfl
  | succ d ih =>
    intro e S s
    rw [show d + 1 + e = d + e + 1 by omega]
    show pq_cs P y v x (d + e) (S + 1) (pq_c1 P y v x S s) = pq_cs P y v x e (S + (d + 1)) (pq_cs P y v x d (S + 1) (pq_c1 P y v x S s))
    rw [ih e (S + 1), show S + (d + 1) = S + 1 + d by omega]
theorem pq_chance {n m B : Nat} {h : zw_Hp} (hI : pq_I n m B h) (v : Int32) {x : Nat} (hx : x ≤ 10) : ∀ (d N S : Nat) (s : Int32) (c' : pq_Pg), S + d = 16 → d < N →
    ∃ c'', zw_it (fun (k5 : (Int32 × Int32 × Int32 × Int32 × zw_Hp) → Option (Int32 × zw_Hp)) (w : Int32 × Int32 × Int32 × Int32 × zw_Hp) => B_X1_chanceOfThrowing_5 k5 (w.1) (w.2.1) (w.2.2.1) (w.2.2.2.1) (w.2.2.2.2)) N (v, nI x, s, nI S, pq_cp 14 c' h) = some (pq_cs (pq_hd m (pq_cg 9 h)) (pq_fw h n) v x d S s, pq_cp 14 c'' h) := by
  intro d
  induction d with
  | zero =>
    intro N S s c' hS hN
    obtain ⟨N', rfl⟩ : ∃ N', N = N' + 1 := ⟨N - 1, by omega⟩
    refine ⟨c', ?_⟩
    rw [pq_it_s]
    simp only []
    rw [B_X1_chanceOfThrowing_5, show S = 16 by omega, if_pos (by decide)]
    rfl
  | succ d ih =>
    intro N S s c' hS hN
    obtain ⟨N', rfl⟩ : ∃ N', N = N' + 1 := ⟨N - 1, by omega⟩
    obtain ⟨w1, w2, w3⟩ := pq_wt_f (pq_hd m (pq_cg 9 h)) (show S < 16 by omega) hx
    rw [pq_it_s]
    simp only []
    rw [B_X1_chanceOfThrowing_5, if_neg (show ¬ (16 : Int32) ≤ nI S from nI_ge (a := S) (b := 16) (by omega) (by decide)), pq_weight hI (pq_eq_cg (pq_eq_cp h c'))]
    simp only [Option.bind_some, B_X1_chanceOfThrowing_41, zw_nm, nI_1]
    show ∃ c'', _ = some (pq_cs (pq_hd m (pq_cg 9 h)) (pq_fw h n) v x d (S + 1) (pq_c1 (pq_hd m (pq_cg 9 h)) (pq_fw h n) v x S s), _)
    have hc : pq_c1 (pq_hd m (pq_cg 9 h)) (pq_fw h n) v x S s = if pq_sub S (pq_hm (pq_hd m (pq_cg 9 h))) then s + (if pq_fw h n S < v then 0 else pq_pwr (nI x) (pq_pop S) * pq_pwr (10 - nI x) (pq_pop (pq_hm (pq_hd m (pq_cg 9 h))) - pq_pop S)) else s := rfl
    by_cases q : pq_sub S (pq_hm (pq_hd m (pq_cg 9 h)))
    · rw [if_pos q] at w1 hc
      rw [← w1] at hc
      by_cases w0 : pq_wt (pq_hd m (pq_cg 9 h)) S (nI x) ≤ 0
      · rw [if_pos w0]
        rw [w2 w0, ite_self, Int32.add_zero] at hc
        rw [hc]
        exact ih N' (S + 1) s c' (by omega) (by omega)
      · rw [if_neg w0]
        obtain ⟨c1, e1⟩ := pq_two hI S c'
        rw [e1]
        simp only [Option.bind_some]
        by_cases z : pq_fw h n S < v
        · rw [if_pos z]
          rw [if_pos z, Int32.add_zero] at hc
          rw [hc]
          exact ih N' (S + 1) s c1 (by omega) (by omega)
        · rw [if_neg z]
          rw [if_neg z] at hc
          rw [hc]
          exact ih N' (S + 1) _ c1 (by omega) (by omega)
    · rw [if_neg q] at w1 hc
      rw [hc, w1, if_pos (by decide)]
      exact ih N' (S + 1) s c' (by omega) (by omega)
theorem pq_pw10 (P : Nat → Bool) : pq_pwr 10 (pq_pop (pq_hm P)) ≠ 0 ∧ (pq_pwr 10 (pq_pop (pq_hm P))).toInt.natAbs < 2 ^ 20 := by
  have h := pq_popl (pq_hm P)
  generalize pq_pop (pq_hm P) = k at h
  rcases (show k = 0 ∨ k = 1 ∨ k = 2 ∨ k = 3 ∨ k = 4 by omega) with rfl | rfl | rfl | rfl | rfl <;> decide
theorem pq_fallsC {n m B : Nat} {h : zw_Hp} (hI : pq_I n m B h) (v x3 : Int32) {x : Nat} (hx : x ≤ 10) : ∃ c', L_X8_falls_29 (v, nI x, x3, 1, 0, h) = (M_X8_leastTerm (pq_cs (pq_hd m (pq_cg 9 h)) (pq_fw h n) v x 16 0 0) (pq_pwr 10 (pq_pop (pq_hm (pq_hd m (pq_cg 9 h))))) x3 (pq_cp 14 c' h)).bind (fun z8 => some (z8, pq_cp 14 c' h)) := by
  unfold L_X8_falls_29
  have step : ∀ (k29 : (Int32 × Int32 × Int32 × Int32 × Int32 × zw_Hp) → Option (Int32 × zw_Hp)) (s : Int32) (b : Nat), b < 4 → B_X8_falls_29 k29 v (nI x) x3 s (nI b) h = k29 (v, nI x, x3, (if pq_hd m (pq_cg 9 h) b = true then s * 10 else s), nI (b + 1), h) := by
    intro k29 s b hb
    rw [B_X8_falls_29, if_neg (show ¬ (4 : Int32) ≤ nI b from nI_ge (a := b) (b := 4) hb (by decide)), pq_held9 hI rfl hb]
    simp only [Option.bind_some, B_X8_falls_54, zw_nm, nI_1]
    by_cases p : pq_hd m (pq_cg 9 h) b = true
    · rw [if_pos p, if_neg pq_10, if_pos p]
    · rw [if_neg p, if_pos rfl, if_neg p]
  obtain ⟨K, hK⟩ := pq_u5 (fun (k29 : (Int32 × Int32 × Int32 × Int32 × Int32 × zw_Hp) → Option (Int32 × zw_Hp)) (w : Int32 × Int32 × Int32 × Int32 × Int32 × zw_Hp) => B_X8_falls_29 k29 (w.1) (w.2.1) (w.2.2.1) (w.2.2.2.1) (w.2.2.2.2.1) (w.2.2.2.2.2)) (v, nI x, x3, (1 : Int32), (0 : Int32), h)
  rw [hK]
  simp only []
  have s0 := fun k5 s => step k5 s 0 (by omega)
  rw [show nI 0 = 0 from rfl] at s0
  rw [s0]
  simp only []
  rw [step _ _ 1 (by omega)]
  simp only []
  rw [step _ _ 2 (by omega)]
  simp only []
  rw [step _ _ 3 (by omega)]
  simp only []
  rw [B_X8_falls_29, if_pos (by decide)]
  have eb := pq_bl0 (pq_hd m (pq_cg 9 h) 0) (pq_hd m (pq_cg 9 h) 1) (pq_hd m (pq_cg 9 h) 2) (pq_hd m (pq_cg 9 h) 3)
  rw [eb]
  obtain ⟨c', e⟩ := pq_chance hI v hx 16 600 0 0 (pq_cg 14 h) (by omega) (by omega)
  rw [pq_cp_cg] at e
  have e' : zw_it (fun (k5 : (Int32 × Int32 × Int32 × Int32 × zw_Hp) → Option (Int32 × zw_Hp)) (w : Int32 × Int32 × Int32 × Int32 × zw_Hp) => B_X1_chanceOfThrowing_5 k5 (w.1) (w.2.1) (w.2.2.1) (w.2.2.2.1) (w.2.2.2.2)) 600 (v, nI x, 0, 0, h) = _ := e
  unfold M_X1_chanceOfThrowing L_X1_chanceOfThrowing_5
  rw [e']
  exact ⟨c', rfl⟩
