theorem pq_send_lo {w : Int32} {c : pq_Pg} {b s : Nat} (hs : s < 5) : pq_send w c b s = c s := by
  unfold pq_send
  rw [pq_upd_ne (by omega), pq_upd_ne (by omega), pq_upd_ne (by omega)]
theorem pq_giv_lo {K : Nat → Int32} {c : pq_Pg} {b a s : Nat} {ld : Int32} (hs : s < 5) : pq_giv K c b a ld s = c s := by
  unfold pq_giv
  rw [pq_upd_ne (by omega), pq_upd_ne (by omega)]
theorem pq_hnd_lo {K : Nat → Int32} {c : pq_Pg} {a s : Nat} (hs : s < 5) : pq_hnd K c a s = c s := by
  unfold pq_hnd
  repeat' split
  all_goals first | rfl | exact pq_giv_lo hs
theorem pq_fil_lo {K Z : Nat → Int32} {n : Nat} {c : pq_Pg} {s : Nat} (hs : s < 5) : pq_fil K Z n c s = c s := by
  unfold pq_fil
  repeat' split
  all_goals first | rfl | exact pq_giv_lo hs
theorem pq_thr_lo {K : Nat → Int32} {w : Int32} {n : Nat} {c : pq_Pg} {s : Nat} (hs : s < 5) : (pq_thr K w n c).2 s = c s := by
  unfold pq_thr
  repeat' split
  all_goals first | rfl | (show pq_send _ _ _ s = _; rw [pq_send_lo hs, pq_upd_ne (by omega), pq_upd_ne (by omega)])
theorem pq_lk1_lo {c : pq_Pg} {b s : Nat} (hs : s < 5) : pq_lk1 c b s = c s := by
  unfold pq_lk1
  repeat' split
  all_goals first | rfl | exact pq_upd_ne (by omega)
theorem pq_bk1_lo {r : Nat} {c : pq_Pg} {b s : Nat} (hs : s < 5) : pq_bk1 r c b s = c s := by
  unfold pq_bk1
  split
  · rw [pq_upd_ne (by omega), pq_upd_ne (by omega)]
  · rfl
theorem pq_who_of {c d : pq_Pg} (h : pq_who c) (e : ∀ s, s < 5 → d s = c s) : pq_who d := fun s hs => by rw [e s hs]; exact h s hs
theorem pq_it_s {S R : Type} (f : (S → Option R) → S → Option R) (n : Nat) (w : S) : zw_it f (n + 1) w = f (zw_it f n) w := rfl
theorem pq_thr_le (K : Nat → Int32) (w : Int32) (n : Nat) (c : pq_Pg) : (pq_thr K w n c).1 ≤ 4 := by
  unfold pq_thr
  repeat' split
  all_goals first | exact Nat.le_refl 4 | (have := pq_lb_le c (nI (n - 1)); show pq_lb c (nI (n - 1)) ≤ 4; omega)
def pq_hds (K : Nat → Int32) : pq_Pg → Nat → pq_Pg
  | c, 0 => c
  | c, k + 1 => pq_hds K (pq_hnd K c k) k
def pq_gro (gr : Int32) (c : pq_Pg) : pq_Pg := if c 18 = 0 then c else upd c 18 (if c 18 + gr < 99 then c 18 + gr else 99)
def pq_end (gr : Int32) (c : pq_Pg) : pq_Pg := upd (pq_gro gr c) 20 (pq_gro gr c 20 + 1)
def pq_bt (K Z : Nat → Int32) (w gr : Int32) (n : Nat) (c : pq_Pg) : pq_Pg :=
  pq_end gr (pq_bk (pq_thr K w n c).1 (pq_lk (pq_fil K Z n (pq_hds K (pq_thr K w n c).2 (n - 1)))))
theorem pq_hds_lo {K : Nat → Int32} : ∀ (k : Nat) {c : pq_Pg} {s : Nat}, s < 5 → pq_hds K c k s = c s
  | 0, _, _, _ => rfl
  | k + 1, c, s, hs => by
    show pq_hds K (pq_hnd K c k) k s = c s
    rw [pq_hds_lo k hs, pq_hnd_lo hs]
/-- the end of a beat -/
theorem pq_pbEnd {t : Nat} (ht : t = 9 ∨ t = 14) {n r : Nat} (hn : n ≤ 5) (hr : r ≤ 4) (c : pq_Pg) (h : zw_Hp) (hp : h.1 6 2 = nI n) (hw : pq_who c) (x1 x3 : Int32) (hx : x3 < 0) (k : (Int32 × Int32 × Int32 × zw_Hp) → Option (Int32 × zw_Hp)) :
    B_X3_passBeat_20 t k x1 (pq_bi r) x3 (pq_cp t c h) = some (pq_end (h.1 6 6) (pq_bk r (pq_lk (pq_fil (h.1 7) (h.1 8) n c))) 19 - x1, pq_cp t (pq_end (h.1 6 6) (pq_bk r (pq_lk (pq_fil (h.1 7) (h.1 8) n c)))) h) := by
  unfold B_X3_passBeat_20
  rw [if_pos hx, pq_fillAtWell ht hn c h hp hw]
  simp only [Option.bind_some]
  rw [pq_leak]
  simp only [Option.bind_some]
  rw [pq_runBack t hr]
  simp only [Option.bind_some]
  generalize pq_bk r (pq_lk (pq_fil (h.1 7) (h.1 8) n c)) = d
  rw [pq_cp_0 d h (by decide)]
  unfold pq_end pq_gro
  simp only [B_X3_passBeat_76, zw_nm]
  by_cases h1 : d 18 = 0
  · rw [if_pos h1, if_pos h1, pq_cp_0 d h (by decide), pq_cp_u0 d h _ (by decide), pq_cp_0 _ h (by decide)]
  · rw [if_neg h1, if_neg h1, pq_cp_off d h (by omega), pq_cp_u0 d h _ (by decide), pq_cp_0 _ h (by decide), pq_cp_u0 _ h _ (by decide), pq_cp_0 _ h (by decide)]
theorem pq_pbLoop {t : Nat} (ht : t = 9 ∨ t = 14) {n r : Nat} (hn : n ≤ 5) (hr : r ≤ 4) (h : zw_Hp) (hp : h.1 6 2 = nI n) (x1 : Int32) : ∀ (k N : Nat) (c : pq_Pg) (x3 : Int32), k < N → k ≤ 4 → pq_who c → (k = 0 → x3 < 0) → (0 < k → x3 = nI (k - 1)) →
    zw_it (fun (k20 : (Int32 × Int32 × Int32 × zw_Hp) → Option (Int32 × zw_Hp)) (w : Int32 × Int32 × Int32 × zw_Hp) => B_X3_passBeat_20 t k20 (w.1) (w.2.1) (w.2.2.1) (w.2.2.2)) N (x1, pq_bi r, x3, pq_cp t c h) =
      some (pq_end (h.1 6 6) (pq_bk r (pq_lk (pq_fil (h.1 7) (h.1 8) n (pq_hds (h.1 7) c k)))) 19 - x1, pq_cp t (pq_end (h.1 6 6) (pq_bk r (pq_lk (pq_fil (h.1 7) (h.1 8) n (pq_hds (h.1 7) c k))))) h) := by
  intro k
  induction k with
  | zero =>
    intro N c x3 hN _ hw h0 _
    obtain ⟨N', rfl⟩ : ∃ N', N = N' + 1 := ⟨N - 1, by omega⟩
    rw [pq_it_s]
    exact pq_pbEnd ht hn hr c h hp hw x1 x3 (h0 rfl) _
  | succ k ih =>
    intro N c x3 hN hk hw _ h1
    obtain ⟨N', rfl⟩ : ∃ N', N = N' + 1 := ⟨N - 1, by omega⟩
    have e3 : x3 = nI k := h1 (by omega)
    rw [pq_it_s]
    simp only []
    rw [B_X3_passBeat_20, e3, if_neg (nI_pos (by omega)), pq_handOn ht (by omega) c h hw]
    simp only [Option.bind_some, zw_nm]
    exact ih N' (pq_hnd (h.1 7) c k) (nI k + -1) (by omega) (by omega) (pq_who_of hw (fun s hs => pq_hnd_lo hs)) (fun e => by rw [e]; decide) (fun e => by
      have := pk_m1 (k - 1)
      rw [show k - 1 + 1 = k by omega] at this
      exact this)
theorem pq_m2 {n : Nat} (hn : 2 ≤ n) : nI n - 2 = nI (n - 2) := pk_sub (a := n) (b := 2) hn
theorem pq_passBeat {t : Nat} (ht : t = 9 ∨ t = 14) {n : Nat} (hn : n ≤ 5) (c : pq_Pg) (h : zw_Hp) (hp : h.1 6 2 = nI n) (hw : pq_who c) (hpl : pq_plc c) :
    M_X3_passBeat t (pq_cp t c h) = some (pq_bt (h.1 7) (h.1 8) (h.1 6 7) (h.1 6 6) n c 19 - c 19, pq_cp t (pq_bt (h.1 7) (h.1 8) (h.1 6 7) (h.1 6 6) n c) h) := by
  unfold M_X3_passBeat
  simp only [zw_nm]
  rw [pq_cp_0 c h (by decide), pq_throwLast ht hn c h hp hw hpl]
  simp only [Option.bind_some]
  rw [pq_cp_off _ h (by omega), hp]
  unfold L_X3_passBeat_20 pq_bt
  have hw2 : pq_who (pq_thr (h.1 7) (h.1 6 7) n c).2 := pq_who_of hw (fun s hs => pq_thr_lo hs)
  refine pq_pbLoop ht hn (pq_thr_le _ _ _ _) h hp (c 19) (n - 1) 600 _ _ (by omega) (by omega) hw2 (fun e => ?_) (fun e => ?_)
  · rcases (show n = 0 ∨ n = 1 by omega) with rfl | rfl <;> decide
  · rw [pq_m2 (by omega)]
    congr 1
def pq_bts (K Z : Nat → Int32) (w gr : Int32) (n : Nat) (c : pq_Pg) : Nat → pq_Pg
  | 0 => c
  | k + 1 => pq_bts K Z w gr n (pq_bt K Z w gr n c) k
