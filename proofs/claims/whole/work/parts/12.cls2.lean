def pq_mx (x : Int32) : Int32 := if 0 < x then x else 0
def pq_mn2 (x : Int32) : Int32 := if x < 2 then x else 2
theorem pq_10 : ¬ ((1 : Int32) = 0) := by decide
theorem pq_ge4 {b : Nat} (hb : b < 4) : ¬ ((4 : Int32) ≤ nI b) := nI_ge (a := b) (b := 4) hb (by decide)
theorem pq_bi_lt {b : Nat} (hb : b < 4) : pq_bi b = nI b := if_pos hb
theorem pq_bi_4 : pq_bi 4 = -9 := rfl
theorem pq_upd_ne {c : pq_Pg} {i j : Nat} {v : Int32} (h : j ≠ i) : upd c i v j = c j := by simp [upd, h]
theorem pq_upd_eq {c : pq_Pg} {i : Nat} {v : Int32} : upd c i v i = v := by simp [upd]
theorem pq_who_upd {c : pq_Pg} {i : Nat} {v : Int32} (h : pq_who c) (hi : 5 ≤ i) : pq_who (upd c i v) := fun s hs => by rw [pq_upd_ne (by omega)]; exact h s hs
/-- who is last throws: the bucket (4: none), the page -/
def pq_thr (K : Nat → Int32) (w : Int32) (n : Nat) (c : pq_Pg) : Nat × pq_Pg :=
  if n = 0 then (4, c) else if pq_lb c (nI (n - 1)) = 4 then (4, c) else if pq_wk K c (n - 1) = false then (4, c) else
    (pq_lb c (nI (n - 1)), pq_send w (upd (upd c 18 (pq_mx (c 18 - c (pq_lb c (nI (n - 1)) + 9)))) 19 (c 19 + c (pq_lb c (nI (n - 1)) + 9))) (pq_lb c (nI (n - 1))))
def pq_plc (c : pq_Pg) : Prop := ∀ b, b < 4 → ∃ p, p ≤ 10 ∧ c (b + 5) = nI p
theorem pq_lb_neg {c : pq_Pg} (hp : pq_plc c) {x : Int32} (hx : x < 0) : pq_lb c x = 4 := by
  have key : ∀ b, b < 4 → c (b + 5) ≠ x := by
    intro b hb e
    obtain ⟨p, hp1, hp2⟩ := hp b hb
    rw [hp2] at e
    exact nI_pos (n := p) (by omega) (e ▸ hx)
  unfold pq_lb
  rw [if_neg (key 0 (by decide)), if_neg (key 1 (by decide)), if_neg (key 2 (by decide)), if_neg (key 3 (by decide))]
theorem pq_throwLast {t : Nat} (ht : t = 9 ∨ t = 14) {n : Nat} (hn : n ≤ 5) (c : pq_Pg) (h : zw_Hp) (hp : h.1 6 2 = nI n) (hw : pq_who c) (hpl : pq_plc c) : M_X3_throwLast t (pq_cp t c h) = some (pq_bi (pq_thr (h.1 7) (h.1 6 7) n c).1, pq_cp t (pq_thr (h.1 7) (h.1 6 7) n c).2 h) := by
  unfold M_X3_throwLast pq_thr
  simp only [zw_nm]
  rw [pq_cp_off c h (by omega), hp]
  by_cases h0 : n = 0
  · subst h0
    rw [if_pos rfl, pq_least, pq_lb_neg hpl (by decide)]
    rfl
  · rw [if_neg h0]
    have e1 : nI n - 1 = nI (n - 1) := by
      obtain ⟨k, rfl⟩ : ∃ k, n = k + 1 := ⟨n - 1, by omega⟩
      exact nI_pred k
    rw [e1, pq_least]
    generalize hb : pq_lb c (nI (n - 1)) = b
    by_cases h4 : b = 4
    · subst h4
      rw [if_pos rfl]
      rfl
    · have hb4 : b < 4 := by
        have := pq_lb_le c (nI (n - 1))
        omega
      rw [if_neg h4, pq_bi_lt hb4]
      simp only [Option.bind_some]
      rw [if_neg (nI_pos (by omega)), pq_worksAt ht (n - 1) (by omega) c h hw]
      by_cases hk : pq_wk (h.1 7) c (n - 1) = true
      · rw [hk]
        simp only [if_true, Option.bind_some, Bool.true_eq_false, if_false]
        rw [if_neg pq_10, if_pos (pq_ok_nI hb4 (by decide)), pq_bi_lt hb4]
        simp only [nI_clamp (show b < 2 ^ 31 by omega)]
        rw [pq_cp_0 c h (by decide), pq_cp_3 c h hb4, pq_cp_u0 c h _ (by decide), if_pos (pq_ok_nI hb4 (by decide)), pq_cp_0 _ h (by decide), pq_cp_3 _ h hb4, pq_cp_u0 _ h _ (by decide), pq_sendBack ht b hb4]
        simp only [Option.bind_some]
        rw [show (6 : Nat) + 12 = 18 from rfl, show (7 : Nat) + 12 = 19 from rfl, pq_upd_ne (c := c) (i := 18) (j := 19) (by decide), pq_upd_ne (c := c) (i := 18) (j := b + 9) (by omega)]
        rfl
      · rw [Bool.not_eq_true] at hk
        rw [hk]
        rfl
def pq_giv (K : Nat → Int32) (c : pq_Pg) (b s : Nat) (ld : Int32) : pq_Pg := upd (upd c (b + 5) (nI s)) (b + 9) (if pq_kd K c s = 3 then pq_mn2 ld else ld)
theorem pq_give {t : Nat} (ht : t = 9 ∨ t = 14) {b s : Nat} (hb : b < 4) (hs : s < 5) (ld : Int32) (c : pq_Pg) (h : zw_Hp) (hw : pq_who c) : M_X3_give t (nI b) (nI s) ld (pq_cp t c h) = some (pq_cp t (pq_giv (h.1 7) c b s ld) h) := by
  unfold M_X3_give pq_giv
  simp only [zw_nm, pq_ok_nI hb (show (4 : Nat) < 2 ^ 31 by decide), if_true, nI_clamp (show b < 2 ^ 31 by omega)]
  rw [pq_cp_up c h _ hb, pq_kindAt ht s hs _ h (pq_who_upd hw (by omega))]
  have e : pq_kd (h.1 7) (upd c (b + 5) (nI s)) s = pq_kd (h.1 7) c s := by
    unfold pq_kd
    rw [pq_upd_ne (by omega)]
  simp only [Option.bind_some, B_X3_give_30, zw_nm, pq_ok_nI hb (show (4 : Nat) < 2 ^ 31 by decide), if_true, nI_clamp (show b < 2 ^ 31 by omega)]
  rw [e, pq_cp_u3 _ h _ hb, pq_cp_u3 _ h _ hb]
  unfold pq_mn2
  split <;> rfl
def pq_hnd (K : Nat → Int32) (c : pq_Pg) (s : Nat) : pq_Pg :=
  if pq_lb c (nI s) = 4 then c else if pq_wk K c s = false then c else if pq_lb c (nI (s + 1)) = 4 then
    pq_giv K c (pq_lb c (nI s)) (s + 1) (pq_mx (c (pq_lb c (nI s) + 9) - (if pq_kd K c s = 1 then 1 else 0))) else c
theorem pq_handOn {t : Nat} (ht : t = 9 ∨ t = 14) {s : Nat} (hs : s < 4) (c : pq_Pg) (h : zw_Hp) (hw : pq_who c) : M_X3_handOn t (nI s) (pq_cp t c h) = some (pq_cp t (pq_hnd (h.1 7) c s) h) := by
  unfold M_X3_handOn pq_hnd
  rw [pq_least]
  generalize hb : pq_lb c (nI s) = b
  by_cases h4 : b = 4
  · subst h4
    rw [if_pos rfl]
    rfl
  · have hb4 : b < 4 := by
      have := pq_lb_le c (nI s)
      omega
    rw [if_neg h4, pq_bi_lt hb4]
    simp only [Option.bind_some]
    rw [if_neg (nI_pos (by omega)), pq_worksAt ht s (by omega) c h hw]
    by_cases hk : pq_wk (h.1 7) c s = true
    · rw [hk]
      simp only [if_true, Option.bind_some, Bool.true_eq_false, if_false]
      rw [if_neg pq_10, nI_1 s, pq_least]
      generalize hb2 : pq_lb c (nI (s + 1)) = b2
      by_cases h42 : b2 = 4
      · subst h42
        simp only [Option.bind_some, if_true]
        rw [pq_bi_4, if_pos (by decide), pq_kindAt ht s (by omega) c h hw]
        simp only [Option.bind_some, B_X3_handOn_43, pq_ok_nI hb4 (show (4 : Nat) < 2 ^ 31 by decide), if_true, nI_clamp (show b < 2 ^ 31 by omega)]
        rw [nI_1 s, pq_cp_3 c h hb4]
        simp only [pq_give ht hb4 (show s + 1 < 5 by omega) _ c h hw, Option.bind_some]
        unfold pq_mx
        split <;> rfl
      · have hb24 : b2 < 4 := by
          have := pq_lb_le c (nI (s + 1))
          omega
        simp only [Option.bind_some]
        rw [pq_bi_lt hb24, if_neg (nI_pos (by omega)), if_neg h42]
    · rw [Bool.not_eq_true] at hk
      rw [hk]
      rfl
def pq_fil (K Z : Nat → Int32) (n : Nat) (c : pq_Pg) : pq_Pg := if n = 0 then c else if pq_lb c 0 = 4 then (if pq_lb c 8 = 4 then c else pq_giv K c (pq_lb c 8) 0 (Z (pq_lb c 8))) else c
theorem pq_fillAtWell {t : Nat} (ht : t = 9 ∨ t = 14) {n : Nat} (hn : n ≤ 5) (c : pq_Pg) (h : zw_Hp) (hp : h.1 6 2 = nI n) (hw : pq_who c) : M_X3_fillAtWell t (pq_cp t c h) = some (pq_cp t (pq_fil (h.1 7) (h.1 8) n c) h) := by
  unfold M_X3_fillAtWell pq_fil
  rw [pq_cp_off c h (by omega), hp]
  by_cases h0 : n = 0
  · subst h0
    rw [if_pos rfl, if_pos (by decide)]
  · rw [if_neg h0, if_neg (nI_ne0 (by omega) (by omega)), pq_least]
    generalize hb : pq_lb c 0 = b
    by_cases h4 : b = 4
    · subst h4
      simp only [Option.bind_some, if_true]
      rw [pq_bi_4, if_pos (by decide), pq_least]
      generalize hb2 : pq_lb c 8 = b2
      by_cases h42 : b2 = 4
      · subst h42
        rw [if_pos rfl]
        rfl
      · have hb24 : b2 < 4 := by
          have := pq_lb_le c 8
          omega
        simp only [Option.bind_some]
        rw [pq_bi_lt hb24, if_neg (nI_pos (by omega)), if_neg h42, if_pos (pq_ok_nI hb24 (by decide)), nI_clamp (by omega), pq_cp_off c h (by omega), show (0 : Int32) = nI 0 from rfl, pq_give ht hb24 (by decide) _ c h hw]
        rfl
    · have hb4 : b < 4 := by
        have := pq_lb_le c 0
        omega
      simp only [Option.bind_some]
      rw [pq_bi_lt hb4, if_neg (nI_pos (by omega)), if_neg h4]
def pq_lk1 (c : pq_Pg) (b : Nat) : pq_Pg := if 5 ≤ c (b + 5) then c else if ((c 17 >>> (nI b &&& 31)) &&& 1) = 1 then upd c (b + 9) (pq_mx (c (b + 9) - 1)) else c
def pq_lk (c : pq_Pg) : pq_Pg := pq_lk1 (pq_lk1 (pq_lk1 (pq_lk1 c 0) 1) 2) 3
theorem pq_leak1 {t : Nat} {b : Nat} (hb : b < 4) (c : pq_Pg) (h : zw_Hp) (k : (Int32 × zw_Hp) → Option zw_Hp) : B_X3_leak_2 t k (nI b) (pq_cp t c h) = k (nI (b + 1), pq_cp t (pq_lk1 c b) h) := by
  unfold B_X3_leak_2 pq_lk1
  rw [if_neg (pq_ge4 hb), pq_isHeld t b hb]
  simp only [B_X3_leak_45, zw_nm, nI_1]
  by_cases h1 : 5 ≤ c (b + 5)
  · simp [h1]
  · rw [if_neg h1, if_neg h1]
    simp only [Option.bind_some]
    rw [if_neg (by decide), pq_hasHole t b hb]
    by_cases h2 : ((c 17 >>> (nI b &&& 31)) &&& 1) = 1
    · rw [if_pos h2, if_pos h2]
      simp only [Option.bind_some]
      rw [if_neg (by decide), if_pos (pq_ok_nI hb (by decide)), if_pos (pq_ok_nI hb (by decide)), nI_clamp (by omega), pq_cp_3 c h hb, pq_cp_u3 c h _ hb]
      rfl
    · rw [if_neg h2, if_neg h2]
      rfl
theorem pq_leak (t : Nat) (c : pq_Pg) (h : zw_Hp) : M_X3_leak t (pq_cp t c h) = some (pq_cp t (pq_lk c) h) := by
  unfold M_X3_leak L_X3_leak_2
  obtain ⟨K, hK⟩ := pq_u5 (fun (k2 : (Int32 × zw_Hp) → Option (zw_Hp)) (w : Int32 × zw_Hp) => B_X3_leak_2 t k2 (w.1) (w.2)) ((0 : Int32), pq_cp t c h)
  rw [hK, show (0 : Int32) = nI 0 from rfl]
  simp only []
  rw [pq_leak1 (by decide), pq_leak1 (by decide), pq_leak1 (by decide), pq_leak1 (by decide)]
  show B_X3_leak_2 t _ (nI 4) (pq_cp t (pq_lk c) h) = _
  unfold B_X3_leak_2
  rw [if_pos (by decide)]
def pq_bk1 (r : Nat) (c : pq_Pg) (b : Nat) : pq_Pg := if c (b + 5) = 9 then
    upd (upd c (b + 13) (c (b + 13) - (if b = r then 0 else 1))) (b + 5) (if c (b + 13) - (if b = r then 0 else 1) = 0 then 8 else 9) else c
def pq_bk (r : Nat) (c : pq_Pg) : pq_Pg := pq_bk1 r (pq_bk1 r (pq_bk1 r (pq_bk1 r c 0) 1) 2) 3
theorem pq_bi_eq {b r : Nat} (hb : b < 4) (hr : r ≤ 4) : nI b = pq_bi r ↔ b = r := by
  by_cases h : r < 4
  · rw [pq_bi_lt h]
    exact nI_eq (by omega) (by omega)
  · have : r = 4 := by omega
    subst this
    rw [pq_bi_4]
    constructor
    · intro e
      exact absurd (e ▸ (by decide : (-9 : Int32) < 0)) (nI_pos (by omega))
    · intro e
      omega
theorem pq_back1 {t : Nat} {b r : Nat} (hb : b < 4) (hr : r ≤ 4) (c : pq_Pg) (h : zw_Hp) (k : (Int32 × Int32 × zw_Hp) → Option zw_Hp) : B_X3_runBack_2 t k (pq_bi r) (nI b) (pq_cp t c h) = k (pq_bi r, nI (b + 1), pq_cp t (pq_bk1 r c b) h) := by
  unfold B_X3_runBack_2 pq_bk1
  rw [if_neg (pq_ge4 hb), if_pos (pq_ok_nI hb (by decide)), nI_clamp (by omega), pq_cp_p c h hb]
  simp only [B_X3_runBack_63, B_X3_runBack_39, B_X3_runBack_62, zw_nm, nI_1, pq_ok_nI hb (show (4 : Nat) < 2 ^ 31 by decide), if_true, nI_clamp (show b < 2 ^ 31 by omega)]
  by_cases h1 : c (b + 5) = 9
  · rw [if_pos h1, if_pos h1, pq_cp_4 c h hb]
    have e0 : ∀ v, (pq_cp t (upd c (b + 13) v) h).1 (t + 4) b = v := fun v => by rw [pq_cp_4 _ h hb, pq_upd_eq]
    by_cases h2 : b = r
    · rw [if_pos ((pq_bi_eq hb hr).mpr h2), if_pos h2, pq_cp_u4 c h _ hb, e0, pq_cp_up _ h _ hb, pq_cp_up _ h _ hb]
      split <;> rfl
    · rw [if_neg (fun e => h2 ((pq_bi_eq hb hr).mp e)), if_neg h2, pq_cp_u4 c h _ hb, e0, pq_cp_up _ h _ hb, pq_cp_up _ h _ hb]
      split <;> rfl
  · rw [if_neg h1, if_neg h1]
theorem pq_runBack (t : Nat) {r : Nat} (hr : r ≤ 4) (c : pq_Pg) (h : zw_Hp) : M_X3_runBack t (pq_bi r) (pq_cp t c h) = some (pq_cp t (pq_bk r c) h) := by
  unfold M_X3_runBack L_X3_runBack_2
  obtain ⟨K, hK⟩ := pq_u5 (fun (k2 : (Int32 × Int32 × zw_Hp) → Option (zw_Hp)) (w : Int32 × Int32 × zw_Hp) => B_X3_runBack_2 t k2 (w.1) (w.2.1) (w.2.2)) (pq_bi r, (0 : Int32), pq_cp t c h)
  rw [hK, show (0 : Int32) = nI 0 from rfl]
  simp only []
  rw [pq_back1 (by decide) hr, pq_back1 (by decide) hr, pq_back1 (by decide) hr, pq_back1 (by decide) hr]
  show B_X3_runBack_2 t _ (pq_bi r) (nI 4) (pq_cp t (pq_bk r c) h) = _
  unfold B_X3_runBack_2
  rw [if_pos (by decide)]
