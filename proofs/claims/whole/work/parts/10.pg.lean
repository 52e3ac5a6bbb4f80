/-! the pages: a scene of the class (cells t .. t + 4) as one row of 22 numbers: 0..4 who, 5..8 place, 9..12 pints, 13..16 toGo, 17 holes, 18 fire, 19 thrown, 20 beats, 21 resting -/
abbrev pq_Pg : Type := Nat → Int32
def pq_ix (o k : Nat) : Nat := if o = 0 then (if 5 ≤ k ∧ k ≤ 9 then k + 12 else 99) else if o = 1 then (if k < 5 then k else 99) else if o = 2 then (if k < 4 then k + 5 else 99) else if o = 3 then (if k < 4 then k + 9 else 99) else if o = 4 then (if k < 4 then k + 13 else 99) else 99
def pq_cg (t : Nat) (h : zw_Hp) : pq_Pg := fun k => if k < 5 then h.1 (t + 1) k else if k < 9 then h.1 (t + 2) (k - 5) else if k < 13 then h.1 (t + 3) (k - 9) else if k < 17 then h.1 (t + 4) (k - 13) else h.1 t (k - 12)
def pq_cp (t : Nat) (c : pq_Pg) (h : zw_Hp) : zw_Hp := (fun i k => if t ≤ i ∧ pq_ix (i - t) k < 22 then c (pq_ix (i - t) k) else h.1 i k, h.2)
theorem pq_ix_cases {o k : Nat} (hk : pq_ix o k < 22) : (o = 0 ∧ 5 ≤ k ∧ k ≤ 9 ∧ pq_ix o k = k + 12) ∨ (o = 1 ∧ k < 5 ∧ pq_ix o k = k) ∨ (o = 2 ∧ k < 4 ∧ pq_ix o k = k + 5) ∨ (o = 3 ∧ k < 4 ∧ pq_ix o k = k + 9) ∨ (o = 4 ∧ k < 4 ∧ pq_ix o k = k + 13) := by
  unfold pq_ix at hk ⊢
  repeat' split at hk
  all_goals first | (exfalso; omega) | (subst_vars; simp_all)
theorem pq_ix_inj {o k o' k' : Nat} (hk : pq_ix o k < 22) (e : pq_ix o' k' = pq_ix o k) : o' = o ∧ k' = k := by
  have h1 := pq_ix_cases hk
  have h2 := pq_ix_cases (show pq_ix o' k' < 22 by omega)
  omega
theorem pq_hext {h g : zw_Hp} (h1 : ∀ i k, h.1 i k = g.1 i k) (h2 : h.2 = g.2) : h = g := by
  obtain ⟨a, b⟩ := h
  obtain ⟨a', b'⟩ := g
  have e : a = a' := funext fun i => funext fun k => h1 i k
  subst e
  cases h2
  rfl
theorem pq_up_at (h : zw_Hp) (i k : Nat) (v : Int32) (a b : Nat) : (zw_up h i k v).1 a b = if a = i ∧ b = k then v else h.1 a b := by
  unfold zw_up zw_upR upd
  by_cases h1 : a = i
  · subst h1
    by_cases h2 : b = k <;> simp [h2]
  · simp [h1]
theorem pq_up_2 (h : zw_Hp) (i k : Nat) (v : Int32) : (zw_up h i k v).2 = h.2 := rfl
theorem pq_upR_2 (h : zw_Hp) (i : Nat) (r : Nat → Int32) : (zw_upR h i r).2 = h.2 := rfl
theorem pq_upR_at (h : zw_Hp) (i : Nat) (r : Nat → Int32) (a : Nat) : (zw_upR h i r).1 a = if a = i then r else h.1 a := rfl
theorem pq_upL_1 (h : zw_Hp) (i : Nat) (v : Int64) : (zw_upL h i v).1 = h.1 := rfl
theorem pq_cp_2 (t : Nat) (c : pq_Pg) (h : zw_Hp) : (pq_cp t c h).2 = h.2 := rfl
theorem pq_cp_at (t : Nat) (c : pq_Pg) (h : zw_Hp) (i k : Nat) : (pq_cp t c h).1 i k = if t ≤ i ∧ pq_ix (i - t) k < 22 then c (pq_ix (i - t) k) else h.1 i k := rfl
theorem pq_cp_off {t i : Nat} (c : pq_Pg) (h : zw_Hp) (hi : i < t ∨ t + 4 < i) : (pq_cp t c h).1 i = h.1 i := by
  funext k
  rw [pq_cp_at, if_neg]
  intro q
  have := pq_ix_cases q.2
  omega
theorem pq_cp_rd {t o k : Nat} (c : pq_Pg) (h : zw_Hp) (hk : pq_ix o k < 22) : (pq_cp t c h).1 (t + o) k = c (pq_ix o k) := by
  rw [pq_cp_at, Nat.add_sub_cancel_left, if_pos ⟨by omega, hk⟩]
theorem pq_cp_wr {t o k : Nat} (c : pq_Pg) (h : zw_Hp) (v : Int32) (hk : pq_ix o k < 22) : zw_up (pq_cp t c h) (t + o) k v = pq_cp t (upd c (pq_ix o k) v) h := by
  refine pq_hext (fun a b => ?_) rfl
  rw [pq_up_at, pq_cp_at, pq_cp_at]
  by_cases h1 : a = t + o ∧ b = k
  · obtain ⟨rfl, rfl⟩ := h1
    rw [if_pos ⟨rfl, rfl⟩, Nat.add_sub_cancel_left, if_pos ⟨by omega, hk⟩]
    simp [upd]
  · rw [if_neg h1]
    by_cases h2 : t ≤ a ∧ pq_ix (a - t) b < 22
    · rw [if_pos h2, if_pos h2]
      have h3 : pq_ix (a - t) b ≠ pq_ix o k := fun e => h1 (by have := pq_ix_inj hk e; omega)
      simp [upd, h3]
    · rw [if_neg h2, if_neg h2]
theorem pq_cp_uo {t i k : Nat} (c : pq_Pg) (h : zw_Hp) (v : Int32) (hi : i < t ∨ t + 4 < i) : zw_up (pq_cp t c h) i k v = pq_cp t c (zw_up h i k v) := by
  refine pq_hext (fun a b => ?_) rfl
  rw [pq_up_at, pq_cp_at, pq_cp_at, pq_up_at]
  by_cases h1 : a = i ∧ b = k
  · rw [if_pos h1, if_neg, if_pos h1]
    intro q
    have := pq_ix_cases q.2
    omega
  · rw [if_neg h1, if_neg h1]
theorem pq_cp_0 {t k : Nat} (c : pq_Pg) (h : zw_Hp) (hk : 5 ≤ k ∧ k ≤ 9) : (pq_cp t c h).1 t k = c (k + 12) := by
  have e : pq_ix 0 k = k + 12 := by simp [pq_ix, hk]
  have := pq_cp_rd (t := t) (o := 0) (k := k) c h (by omega)
  rw [e] at this
  exact this
theorem pq_cp_1 {t k : Nat} (c : pq_Pg) (h : zw_Hp) (hk : k < 5) : (pq_cp t c h).1 (t + 1) k = c k := by
  have e : pq_ix 1 k = k := by simp [pq_ix, hk]
  rw [pq_cp_rd c h (by omega), e]
theorem pq_cp_p {t k : Nat} (c : pq_Pg) (h : zw_Hp) (hk : k < 4) : (pq_cp t c h).1 (t + 2) k = c (k + 5) := by
  have e : pq_ix 2 k = k + 5 := by simp [pq_ix, hk]
  rw [pq_cp_rd c h (by omega), e]
theorem pq_cp_3 {t k : Nat} (c : pq_Pg) (h : zw_Hp) (hk : k < 4) : (pq_cp t c h).1 (t + 3) k = c (k + 9) := by
  have e : pq_ix 3 k = k + 9 := by simp [pq_ix, hk]
  rw [pq_cp_rd c h (by omega), e]
theorem pq_cp_4 {t k : Nat} (c : pq_Pg) (h : zw_Hp) (hk : k < 4) : (pq_cp t c h).1 (t + 4) k = c (k + 13) := by
  have e : pq_ix 4 k = k + 13 := by simp [pq_ix, hk]
  rw [pq_cp_rd c h (by omega), e]
theorem pq_cp_u0 {t k : Nat} (c : pq_Pg) (h : zw_Hp) (v : Int32) (hk : 5 ≤ k ∧ k ≤ 9) : zw_up (pq_cp t c h) t k v = pq_cp t (upd c (k + 12) v) h := by
  have e : pq_ix 0 k = k + 12 := by simp [pq_ix, hk]
  have := pq_cp_wr (t := t) (o := 0) (k := k) c h v (by omega)
  rw [e] at this
  exact this
theorem pq_cp_u1 {t k : Nat} (c : pq_Pg) (h : zw_Hp) (v : Int32) (hk : k < 5) : zw_up (pq_cp t c h) (t + 1) k v = pq_cp t (upd c k v) h := by
  have e : pq_ix 1 k = k := by simp [pq_ix, hk]
  rw [pq_cp_wr c h v (by omega), e]
theorem pq_cp_up {t k : Nat} (c : pq_Pg) (h : zw_Hp) (v : Int32) (hk : k < 4) : zw_up (pq_cp t c h) (t + 2) k v = pq_cp t (upd c (k + 5) v) h := by
  have e : pq_ix 2 k = k + 5 := by simp [pq_ix, hk]
  rw [pq_cp_wr c h v (by omega), e]
theorem pq_cp_u3 {t k : Nat} (c : pq_Pg) (h : zw_Hp) (v : Int32) (hk : k < 4) : zw_up (pq_cp t c h) (t + 3) k v = pq_cp t (upd c (k + 9) v) h := by
  have e : pq_ix 3 k = k + 9 := by simp [pq_ix, hk]
  rw [pq_cp_wr c h v (by omega), e]
theorem pq_cp_u4 {t k : Nat} (c : pq_Pg) (h : zw_Hp) (v : Int32) (hk : k < 4) : zw_up (pq_cp t c h) (t + 4) k v = pq_cp t (upd c (k + 13) v) h := by
  have e : pq_ix 4 k = k + 13 := by simp [pq_ix, hk]
  rw [pq_cp_wr c h v (by omega), e]
theorem pq_cg_ix {t o k : Nat} (h : zw_Hp) (hk : pq_ix o k < 22) : pq_cg t h (pq_ix o k) = h.1 (t + o) k := by
  unfold pq_cg
  rcases pq_ix_cases hk with ⟨rfl, h1, h2, e⟩ | ⟨rfl, h1, e⟩ | ⟨rfl, h1, e⟩ | ⟨rfl, h1, e⟩ | ⟨rfl, h1, e⟩ <;> rw [e]
  · rw [if_neg (by omega), if_neg (by omega), if_neg (by omega), if_neg (by omega)]; rfl
  · rw [if_pos h1]
  · rw [if_neg (by omega), if_pos (by omega)]; rfl
  · rw [if_neg (by omega), if_neg (by omega), if_pos (by omega)]; rfl
  · rw [if_neg (by omega), if_neg (by omega), if_neg (by omega), if_pos (by omega)]; rfl
theorem pq_cp_cg (t : Nat) (h : zw_Hp) : pq_cp t (pq_cg t h) h = h := by
  refine pq_hext (fun a b => ?_) rfl
  rw [pq_cp_at]
  by_cases h2 : t ≤ a ∧ pq_ix (a - t) b < 22
  · rw [if_pos h2, pq_cg_ix h h2.2, show t + (a - t) = a by omega]
  · rw [if_neg h2]
theorem pq_cg_cp {t k : Nat} (c : pq_Pg) (h : zw_Hp) (hk : k < 22) : pq_cg t (pq_cp t c h) k = c k := by
  unfold pq_cg
  by_cases h1 : k < 5
  · rw [if_pos h1, pq_cp_1 c h h1]
  · rw [if_neg h1]
    by_cases h2 : k < 9
    · rw [if_pos h2, pq_cp_p c h (by omega)]; congr 1; omega
    · rw [if_neg h2]
      by_cases h3 : k < 13
      · rw [if_pos h3, pq_cp_3 c h (by omega)]; congr 1; omega
      · rw [if_neg h3]
        by_cases h4 : k < 17
        · rw [if_pos h4, pq_cp_4 c h (by omega)]; congr 1; omega
        · rw [if_neg h4, pq_cp_0 c h (by omega)]; congr 1; omega
theorem pq_cp_cp (t : Nat) (c d : pq_Pg) (h : zw_Hp) : pq_cp t c (pq_cp t d h) = pq_cp t c h := by
  refine pq_hext (fun a b => ?_) rfl
  rw [pq_cp_at, pq_cp_at, pq_cp_at]
  by_cases h2 : t ≤ a ∧ pq_ix (a - t) b < 22
  · rw [if_pos h2, if_pos h2]
  · rw [if_neg h2, if_neg h2, if_neg h2]
theorem pq_cp_eq {t : Nat} {c d : pq_Pg} (h : zw_Hp) (e : ∀ k, k < 22 → c k = d k) : pq_cp t c h = pq_cp t d h := by
  refine pq_hext (fun a b => ?_) rfl
  rw [pq_cp_at, pq_cp_at]
  by_cases h2 : t ≤ a ∧ pq_ix (a - t) b < 22
  · rw [if_pos h2, if_pos h2, e _ h2.2]
  · rw [if_neg h2, if_neg h2]
theorem pq_u5 {S R : Type} (f : (S → Option R) → S → Option R) (w : S) : ∃ K, zw_it f 600 w = f (f (f (f (f K)))) w := ⟨zw_it f 595, rfl⟩
theorem pq_u6 {S R : Type} (f : (S → Option R) → S → Option R) (w : S) : ∃ K, zw_it f 600 w = f (f (f (f (f (f K))))) w := ⟨zw_it f 594, rfl⟩
theorem pq_ok_nI {w n : Nat} (h : w < n) (hn : n < 2 ^ 31) : zw_ok (nI w) n = true := by
  have h1 : ¬ (nI w < 0) := nI_pos (by omega)
  have h2 : (nI w).toNatClampNeg = w := nI_clamp (by omega)
  simp [zw_ok, h2]
  exact ⟨Int32.not_lt.mp h1, by omega⟩
/-- the least bucket at a place; 4: none -/
def pq_lb (c : pq_Pg) (v : Int32) : Nat := if c 5 = v then 0 else if c 6 = v then 1 else if c 7 = v then 2 else if c 8 = v then 3 else 4
def pq_bi (n : Nat) : Int32 := if n < 4 then nI n else -9
theorem pq_lb_le (c : pq_Pg) (v : Int32) : pq_lb c v = 0 ∨ pq_lb c v = 1 ∨ pq_lb c v = 2 ∨ pq_lb c v = 3 ∨ pq_lb c v = 4 := by
  unfold pq_lb
  repeat' split
  all_goals simp
theorem pq_least (t : Nat) (v : Int32) (c : pq_Pg) (h : zw_Hp) : M_X3_leastBucketAt t v (pq_cp t c h) = some (pq_bi (pq_lb c v)) := by
  unfold M_X3_leastBucketAt L_X3_leastBucketAt_2
  obtain ⟨K, hK⟩ := pq_u5 (fun (k2 : (Int32 × Int32) → Option (Int32)) (w : Int32 × Int32) => B_X3_leastBucketAt_2 t (pq_cp t c h) k2 (w.1) (w.2)) (v, (0 : Int32))
  rw [hK]
  simp only [B_X3_leastBucketAt_2, zw_nm]
  have e0 : (pq_cp t c h).1 (t + 2) 0 = c 5 := pq_cp_p c h (by decide)
  have e1 : (pq_cp t c h).1 (t + 2) 1 = c 6 := pq_cp_p (k := 1) c h (by decide)
  have e2 : (pq_cp t c h).1 (t + 2) 2 = c 7 := pq_cp_p (k := 2) c h (by decide)
  have e3 : (pq_cp t c h).1 (t + 2) 3 = c 8 := pq_cp_p (k := 3) c h (by decide)
  simp [zw_ok, e0, e1, e2, e3]
  unfold pq_lb
  repeat' split
  all_goals first | rfl | (simp_all [pq_bi]; done)
