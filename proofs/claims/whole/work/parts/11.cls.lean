/-! the class's scene methods on pages -/
theorem pq_isHeld (t : Nat) (b : Nat) (hb : b < 4) (c : pq_Pg) (h : zw_Hp) : M_X3_isHeld t (nI b) (pq_cp t c h) = some (if 5 ≤ c (b + 5) then 0 else 1) := by
  have h1 : ¬ (nI b < 0) := nI_pos (by omega)
  have h2 : ¬ ((4 : Int32) ≤ nI b) := nI_ge (a := b) (b := 4) hb (by decide)
  unfold M_X3_isHeld
  rw [if_neg h1, if_neg h2, if_pos (pq_ok_nI hb (by decide)), nI_clamp (by omega), pq_cp_p c h hb]
  split <;> rfl
theorem pq_isHeld_no (t : Nat) (x : Int32) (hx : x < 0 ∨ 4 ≤ x) (h : zw_Hp) : M_X3_isHeld t x h = some 0 := by
  unfold M_X3_isHeld
  by_cases h1 : x < 0
  · rw [if_pos h1]
  · rw [if_neg h1, if_pos (hx.resolve_left h1)]
theorem pq_hasHole (t : Nat) (b : Nat) (hb : b < 4) (c : pq_Pg) (h : zw_Hp) : M_X3_hasHole t (nI b) (pq_cp t c h) = some (if ((c 17 >>> (nI b &&& 31)) &&& 1) = 1 then 1 else 0) := by
  have h1 : ¬ (nI b < 0) := nI_pos (by omega)
  have h2 : ¬ ((4 : Int32) ≤ nI b) := nI_ge (a := b) (b := 4) hb (by decide)
  unfold M_X3_hasHole
  rw [if_neg h1, if_neg h2, pq_cp_0 c h (by decide)]
  split <;> rfl
theorem pq_hasHole_no (t : Nat) (x : Int32) (hx : x < 0 ∨ 4 ≤ x) (h : zw_Hp) : M_X3_hasHole t x h = some 0 := by
  unfold M_X3_hasHole
  by_cases h1 : x < 0
  · rw [if_pos h1]
  · rw [if_neg h1, if_pos (hx.resolve_left h1)]
/-- kinds by stands: K the row of kinds -/
def pq_kd (K : Nat → Int32) (c : pq_Pg) (s : Nat) : Int32 := K (c s).toNatClampNeg
def pq_wk (K : Nat → Int32) (c : pq_Pg) (s : Nat) : Bool := !(((c 21 >>> (c s &&& 31)) &&& 1) == 1) && (!(pq_kd K c s == 2) || (c 20 &&& 1) == 0)
/-- everybody's number is one -/
def pq_who (c : pq_Pg) : Prop := ∀ s, s < 5 → ∃ w, w < 5 ∧ c s = nI w
theorem pq_kindAt {t : Nat} (ht : t = 9 ∨ t = 14) (s : Nat) (hs : s < 5) (c : pq_Pg) (h : zw_Hp) (hw : pq_who c) : M_X3_kindAt t (nI s) (pq_cp t c h) = some (pq_kd (h.1 7) c s) := by
  have h1 : ¬ (nI s < 0) := nI_pos (by omega)
  have h2 : nI s < (5 : Int32) := nI_lt (a := s) (b := 5) hs (by decide)
  obtain ⟨w, hw1, hw2⟩ := hw s hs
  have h3 : ¬ (nI w < 0) := nI_pos (by omega)
  have h4 : ¬ ((5 : Int32) ≤ nI w) := nI_ge (a := w) (b := 5) hw1 (by decide)
  unfold M_X3_kindAt
  rw [if_neg h1, if_pos h2, if_pos (pq_ok_nI hs (by decide)), nI_clamp (by omega), pq_cp_1 c h hs, hw2]
  simp only [zw_nm]
  rw [if_neg h3, if_neg h4, if_pos (pq_ok_nI hw1 (by decide)), pq_cp_off c h (by omega)]
  unfold pq_kd
  rw [hw2]
theorem pq_worksAt {t : Nat} (ht : t = 9 ∨ t = 14) (s : Nat) (hs : s < 5) (c : pq_Pg) (h : zw_Hp) (hw : pq_who c) : M_X3_worksAt t (nI s) (pq_cp t c h) = some (if pq_wk (h.1 7) c s = true then 1 else 0) := by
  have h1 : ¬ (nI s < 0) := nI_pos (by omega)
  have h2 : ¬ ((5 : Int32) ≤ nI s) := nI_ge (a := s) (b := 5) hs (by decide)
  unfold M_X3_worksAt
  rw [if_neg h1, if_neg h2, if_pos (pq_ok_nI hs (by decide)), nI_clamp (by omega), pq_cp_1 c h hs, pq_cp_0 c h (by decide), pq_cp_0 c h (by decide), pq_kindAt ht s hs c h hw]
  unfold pq_wk
  by_cases a1 : ((c 21 >>> (c s &&& 31)) &&& 1) = 1
  · simp [a1]
  · by_cases a2 : pq_kd (h.1 7) c s = 2
    · by_cases a3 : (c 20 &&& 1) = 0
      · simp [a1, a2, a3]
      · simp [a1, a2, a3]
    · simp [a1, a2]
def pq_send (w : Int32) (c : pq_Pg) (b : Nat) : pq_Pg := upd (upd (upd c (b + 5) 9) (b + 9) 0) (b + 13) w
theorem pq_sendBack {t : Nat} (ht : t = 9 ∨ t = 14) (b : Nat) (hb : b < 4) (c : pq_Pg) (h : zw_Hp) : M_X3_sendBack t (nI b) (pq_cp t c h) = some (pq_cp t (pq_send (h.1 6 7) c b) h) := by
  unfold M_X3_sendBack
  simp only [zw_nm, pq_ok_nI hb (show (4 : Nat) < 2 ^ 31 by decide), if_true, nI_clamp (show b < 2 ^ 31 by omega), pq_cp_up c h _ hb]
  rw [pq_cp_u3 _ h _ hb, pq_cp_u4 _ h _ hb, pq_cp_off _ h (by omega)]
  rfl
def pq_fall (w : Int32) (c : pq_Pg) (b : Nat) : pq_Pg := if 5 ≤ c (b + 5) then c else if w = 0 then upd (pq_send w c b) (b + 5) 8 else pq_send w c b
theorem pq_letFall {t : Nat} (ht : t = 9 ∨ t = 14) (b : Nat) (hb : b < 4) (c : pq_Pg) (h : zw_Hp) : M_X3_letFall t (nI b) (pq_cp t c h) = some (pq_cp t (pq_fall (h.1 6 7) c b) h) := by
  unfold M_X3_letFall pq_fall
  rw [pq_isHeld t b hb]
  by_cases h1 : 5 ≤ c (b + 5)
  · simp [h1]
  · simp only [h1, if_false, Option.bind_some]
    rw [if_neg (by decide), pq_sendBack ht b hb]
    simp only [Option.bind_some, pq_ok_nI hb (show (4 : Nat) < 2 ^ 31 by decide), if_true, nI_clamp (show b < 2 ^ 31 by omega), zw_nm]
    rw [pq_cp_4 _ h hb, pq_cp_up _ h _ hb]
    have e : pq_send (h.1 6 7) c b (b + 13) = h.1 6 7 := by simp [pq_send, upd]
    rw [e]
    split <;> rfl
