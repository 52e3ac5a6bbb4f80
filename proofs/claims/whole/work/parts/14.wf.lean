/-! what holds of a page at all times. n people, m buckets; r: the bucket that was just thrown (4: none) -/
def pq_s9 (x : Int32) : Prop := ∃ q, q ≤ 9 ∧ x = nI q
def pq_pok (n : Nat) (x : Int32) : Prop := (∃ p, p < n ∧ x = nI p) ∨ x = 8 ∨ x = 9 ∨ x = 10
/-- places and pints -/
def pq_WP (n m : Nat) (c : pq_Pg) : Prop := (∀ b, b < 4 → pq_pok n (c (b + 5))) ∧ (∀ b, b < 4 → m ≤ b → c (b + 5) = 10) ∧ (∀ a b, a < 4 → b < 4 → a ≠ b → c (a + 5) = c (b + 5) → 5 ≤ c (a + 5)) ∧ (∀ b, b < 4 → pq_s9 (c (b + 9)))
/-- holes and fire -/
def pq_WF (m : Nat) (c : pq_Pg) : Prop := (∃ q, q < 2 ^ m ∧ c 17 = nI q) ∧ (∃ f, f ≤ 99 ∧ c 18 = nI f)
/-- who stands where -/
def pq_WW (n : Nat) (c : pq_Pg) : Prop := ∃ σ : Nat → Nat, (∀ s, s < 5 → c s = nI (σ s) ∧ σ s < 5) ∧ (∀ s s', s < 5 → s' < 5 → σ s = σ s' → s = s') ∧ ∀ s, s < n → σ s < n
/-- what isn't held holds nothing; what isn't on its way has none to go -/
def pq_W7 (c : pq_Pg) : Prop := ∀ b, b < 4 → (5 ≤ c (b + 5) → c (b + 9) = 0) ∧ (c (b + 5) ≠ 9 → c (b + 13) = 0)
/-- beats and pints thrown so far -/
def pq_WN (B : Nat) (c : pq_Pg) : Prop := (∃ q, q ≤ 9 * B ∧ c 19 = nI q) ∧ (∃ q, q ≤ B ∧ c 20 = nI q)
theorem pq_WW.who {n : Nat} {c : pq_Pg} (h : pq_WW n c) : pq_who c := by
  obtain ⟨σ, h1, -, -⟩ := h
  exact fun s hs => ⟨σ s, (h1 s hs).2, (h1 s hs).1⟩
theorem pq_WW.of {n : Nat} {c d : pq_Pg} (h : pq_WW n c) (e : ∀ s, s < 5 → d s = c s) : pq_WW n d := by
  obtain ⟨σ, h1, h2, h3⟩ := h
  exact ⟨σ, fun s hs => by rw [e s hs]; exact h1 s hs, h2, h3⟩
theorem pq_le5 {p : Nat} (hp : p < 2 ^ 31) : (5 : Int32) ≤ nI p ↔ 5 ≤ p := nI_leI (a := 5) (b := p) (by decide) hp
theorem pq_pok_hi {n : Nat} (hn : n ≤ 5) {x : Int32} (h : pq_pok n x) : (∃ p, p < n ∧ x = nI p ∧ ¬ 5 ≤ x) ∨ (5 ≤ x ∧ (x = 8 ∨ x = 9 ∨ x = 10)) := by
  rcases h with ⟨p, h1, h2⟩ | h
  · refine Or.inl ⟨p, h1, h2, ?_⟩
    rw [h2, pq_le5 (by omega)]
    omega
  · refine Or.inr ⟨?_, h⟩
    rcases h with rfl | rfl | rfl <;> decide
theorem pq_WP.plc {n m : Nat} (hn : n ≤ 5) {c : pq_Pg} (h : pq_WP n m c) : pq_plc c := by
  intro b hb
  rcases h.1 b hb with ⟨p, h1, h2⟩ | h1 | h1 | h1
  · exact ⟨p, by omega, h2⟩
  · exact ⟨8, by omega, h1⟩
  · exact ⟨9, by omega, h1⟩
  · exact ⟨10, by omega, h1⟩
theorem pq_lb_4 {c : pq_Pg} {v : Int32} (h : pq_lb c v = 4) : ∀ b, b < 4 → c (b + 5) ≠ v := by
  unfold pq_lb at h
  intro b hb
  repeat' split at h
  all_goals first | omega | (rcases (show b = 0 ∨ b = 1 ∨ b = 2 ∨ b = 3 by omega) with rfl | rfl | rfl | rfl <;> assumption)
theorem pq_lb_at {c : pq_Pg} {v : Int32} (h : pq_lb c v ≠ 4) : c (pq_lb c v + 5) = v := by
  unfold pq_lb at h ⊢
  repeat' split
  all_goals first | assumption | simp_all
theorem pq_lb_lt {c : pq_Pg} {v : Int32} (h : pq_lb c v ≠ 4) : pq_lb c v < 4 := by
  have := pq_lb_le c v
  omega
/-- a bucket goes to a free stand, or away -/
theorem pq_WP_move {n m : Nat} {c : pq_Pg} (h : pq_WP n m c) {b : Nat} (hb : b < m) (hb4 : b < 4) {v : Int32} {u : Int32} (hv : pq_pok n v) (hfree : 5 ≤ v ∨ ∀ a, a < 4 → c (a + 5) ≠ v) (hu : pq_s9 u) : pq_WP n m (upd (upd c (b + 5) v) (b + 9) u) := by
  obtain ⟨h1, h2, h3, h4⟩ := h
  have e : ∀ a, a < 4 → upd (upd c (b + 5) v) (b + 9) u (a + 5) = if a = b then v else c (a + 5) := by
    intro a ha
    rw [pq_upd_ne (by omega)]
    by_cases q : a = b
    · subst q; rw [pq_upd_eq, if_pos rfl]
    · rw [pq_upd_ne (by omega), if_neg q]
  refine ⟨fun a ha => ?_, fun a ha hm => ?_, fun a a' ha ha' hne heq => ?_, fun a ha => ?_⟩
  · rw [e a ha]; split
    · exact hv
    · exact h1 a ha
  · rw [e a ha, if_neg (by omega)]; exact h2 a ha hm
  · rw [e a ha, e a' ha'] at heq
    rw [e a ha]
    by_cases q : a = b
    · subst q
      rw [if_pos rfl, if_neg (Ne.symm hne)] at heq
      rw [if_pos rfl]
      rcases hfree with f | f
      · exact f
      · exact absurd heq.symm (f a' ha')
    · rw [if_neg q] at heq ⊢
      by_cases q' : a' = b
      · subst q'
        rw [if_pos rfl] at heq
        rcases hfree with f | f
        · rw [heq]; exact f
        · exact absurd heq (f a ha)
      · rw [if_neg q'] at heq
        exact h3 a a' ha ha' hne heq
  · by_cases q : a = b
    · subst q; rw [pq_upd_eq]; exact hu
    · rw [pq_upd_ne (by omega), pq_upd_ne (by omega)]; exact h4 a ha
theorem pq_WP_off {n m : Nat} {c : pq_Pg} (h : pq_WP n m c) {i : Nat} (hi : 13 ≤ i ∨ i < 5) (v : Int32) : pq_WP n m (upd c i v) := by
  obtain ⟨h1, h2, h3, h4⟩ := h
  have e : ∀ k, 5 ≤ k → k < 13 → upd c i v k = c k := fun k h1 h2 => pq_upd_ne (by omega)
  exact ⟨fun b hb => by rw [e _ (by omega) (by omega)]; exact h1 b hb, fun b hb hm => by rw [e _ (by omega) (by omega)]; exact h2 b hb hm, fun a b ha hb hne heq => by rw [e _ (by omega) (by omega)] at heq ⊢; rw [e _ (by omega) (by omega)] at heq; exact h3 a b ha hb hne heq, fun b hb => by rw [e _ (by omega) (by omega)]; exact h4 b hb⟩
theorem pq_WF_off {m : Nat} {c : pq_Pg} (h : pq_WF m c) {i : Nat} (hi : i ≠ 17) (hi2 : i ≠ 18) (v : Int32) : pq_WF m (upd c i v) := by
  obtain ⟨⟨q, h1, h2⟩, ⟨f, h3, h4⟩⟩ := h
  exact ⟨⟨q, h1, by rw [pq_upd_ne (by omega)]; exact h2⟩, ⟨f, h3, by rw [pq_upd_ne (by omega)]; exact h4⟩⟩
theorem pq_s9_0 : pq_s9 0 := ⟨0, by omega, rfl⟩
theorem pq_mx_s9 {x : Int32} (h : pq_s9 x) {d : Int32} (hd : d = 0 ∨ d = 1) : pq_s9 (pq_mx (x - d)) ∧ (pq_mx (x - d) = if d = 1 ∧ ¬ x ≤ 0 then x - 1 else x) := by
  obtain ⟨q, hq, rfl⟩ := h
  have all : ∀ q, q ≤ 9 → ∀ d : Int32, (d = 0 ∨ d = 1) → pq_mx (nI q - d) = nI (if d = 1 then q - 1 else q) ∧ (pq_mx (nI q - d) = if d = 1 ∧ ¬ nI q ≤ 0 then nI q - 1 else nI q) := by
    intro q hq d hd
    rcases hd with rfl | rfl
    · rcases (show q = 0 ∨ q = 1 ∨ q = 2 ∨ q = 3 ∨ q = 4 ∨ q = 5 ∨ q = 6 ∨ q = 7 ∨ q = 8 ∨ q = 9 by omega) with rfl | rfl | rfl | rfl | rfl | rfl | rfl | rfl | rfl | rfl <;> exact ⟨by decide, by decide⟩
    · rcases (show q = 0 ∨ q = 1 ∨ q = 2 ∨ q = 3 ∨ q = 4 ∨ q = 5 ∨ q = 6 ∨ q = 7 ∨ q = 8 ∨ q = 9 by omega) with rfl | rfl | rfl | rfl | rfl | rfl | rfl | rfl | rfl | rfl <;> exact ⟨by decide, by decide⟩
  obtain ⟨a1, a2⟩ := all q hq d hd
  exact ⟨⟨_, by split <;> omega, a1⟩, a2⟩
theorem pq_mn2_s9 {x : Int32} (h : pq_s9 x) : pq_s9 (pq_mn2 x) ∧ pq_mn2 x = if x ≤ 2 then x else 2 := by
  obtain ⟨q, hq, rfl⟩ := h
  rcases (show q = 0 ∨ q = 1 ∨ q = 2 ∨ q = 3 ∨ q = 4 ∨ q = 5 ∨ q = 6 ∨ q = 7 ∨ q = 8 ∨ q = 9 by omega) with rfl | rfl | rfl | rfl | rfl | rfl | rfl | rfl | rfl | rfl
  · exact ⟨⟨0, by omega, by decide⟩, by decide⟩
  · exact ⟨⟨1, by omega, by decide⟩, by decide⟩
  all_goals exact ⟨⟨2, by omega, by decide⟩, by decide⟩
theorem pq_lt_m {n m : Nat} (hn : n ≤ 5) {c : pq_Pg} (h : pq_WP n m c) {b : Nat} (hb : b < 4) (hv : c (b + 5) ≠ 10) : b < m := by
  rcases Nat.lt_or_ge b m with q | q
  · exact q
  · exact absurd (h.2.1 b hb q) hv
theorem pq_nI_ne10 {p : Nat} (hp : p < 10) : nI p ≠ 10 := fun e => by
  have := (nI_eq (a := p) (b := 10) (by omega) (by decide)).mp e
  omega
theorem pq_s9_giv {K : Nat → Int32} {c : pq_Pg} {s : Nat} {ld : Int32} (h : pq_s9 ld) : pq_s9 (if pq_kd K c s = 3 then pq_mn2 ld else ld) := by
  split
  · exact (pq_mn2_s9 h).1
  · exact h
theorem pq_WP_giv {K : Nat → Int32} {n m : Nat} {c : pq_Pg} (h : pq_WP n m c) {b s : Nat} (hb : b < m) (hb4 : b < 4) (hs : s < n) (hfree : pq_lb c (nI s) = 4) {ld : Int32} (hl : pq_s9 ld) : pq_WP n m (pq_giv K c b s ld) :=
  pq_WP_move h hb hb4 (Or.inl ⟨s, hs, rfl⟩) (Or.inr (pq_lb_4 hfree)) (pq_s9_giv hl)
theorem pq_WP_hnd {K : Nat → Int32} {n m : Nat} (hn : n ≤ 5) {c : pq_Pg} (h : pq_WP n m c) {s : Nat} (hs : s + 1 < n) : pq_WP n m (pq_hnd K c s) := by
  unfold pq_hnd
  by_cases h1 : pq_lb c (nI s) = 4
  · rw [if_pos h1]; exact h
  · rw [if_neg h1]
    split
    · exact h
    · by_cases h2 : pq_lb c (nI (s + 1)) = 4
      · rw [if_pos h2]
        have h3 := pq_lb_at h1
        exact pq_WP_giv h (pq_lt_m hn h (pq_lb_lt h1) (by rw [h3]; exact pq_nI_ne10 (by omega))) (pq_lb_lt h1) hs h2 (pq_mx_s9 (h.2.2.2 _ (pq_lb_lt h1)) (by split <;> simp)).1
      · rw [if_neg h2]; exact h
theorem pq_WP_hds {K : Nat → Int32} {n m : Nat} (hn : n ≤ 5) : ∀ (k : Nat) {c : pq_Pg}, pq_WP n m c → k < n ∨ k = 0 → pq_WP n m (pq_hds K c k) := by
  intro k
  induction k with
  | zero => intro c h _; exact h
  | succ k ih =>
    intro c h hk
    exact ih (pq_WP_hnd hn h (by omega)) (by omega)
theorem pq_WP_fil {K Z : Nat → Int32} {n m : Nat} (hn : n ≤ 5) {c : pq_Pg} (h : pq_WP n m c) (hZ : ∀ b, b < m → pq_s9 (Z b)) : pq_WP n m (pq_fil K Z n c) := by
  unfold pq_fil
  by_cases h0 : n = 0
  · rw [if_pos h0]; exact h
  · rw [if_neg h0]
    by_cases h1 : pq_lb c 0 = 4
    · rw [if_pos h1]
      by_cases h2 : pq_lb c 8 = 4
      · rw [if_pos h2]; exact h
      · rw [if_neg h2]
        have h3 := pq_lb_at h2
        have h4 := pq_lt_m hn h (pq_lb_lt h2) (by rw [h3]; decide)
        exact pq_WP_giv (s := 0) h h4 (pq_lb_lt h2) (Nat.pos_of_ne_zero h0) h1 (hZ _ h4)
    · rw [if_neg h1]; exact h
theorem pq_WP_thr {K : Nat → Int32} {w : Int32} {n m : Nat} (hn : n ≤ 5) {c : pq_Pg} (h : pq_WP n m c) : pq_WP n m (pq_thr K w n c).2 := by
  unfold pq_thr
  by_cases h0 : n = 0
  · rw [if_pos h0]; exact h
  · rw [if_neg h0]
    by_cases h1 : pq_lb c (nI (n - 1)) = 4
    · rw [if_pos h1]; exact h
    · rw [if_neg h1]
      split
      · exact h
      · have h3 := pq_lb_at h1
        have h4 := pq_lt_m hn h (pq_lb_lt h1) (by rw [h3]; exact pq_nI_ne10 (by omega))
        exact pq_WP_off (pq_WP_move (pq_WP_off (pq_WP_off h (by omega) _) (by omega) _) h4 (pq_lb_lt h1) (Or.inr (Or.inr (Or.inl rfl))) (Or.inl (by decide)) pq_s9_0) (by omega) _
theorem pq_WP_lk1 {n m : Nat} {c : pq_Pg} (h : pq_WP n m c) {b : Nat} (hb : b < 4) : pq_WP n m (pq_lk1 c b) := by
  unfold pq_lk1
  split
  · exact h
  · split
    · obtain ⟨h1, h2, h3, h4⟩ := h
      have e : ∀ a, a < 4 → upd c (b + 9) (pq_mx (c (b + 9) - 1)) (a + 5) = c (a + 5) := fun a ha => pq_upd_ne (by omega)
      refine ⟨fun a ha => by rw [e a ha]; exact h1 a ha, fun a ha hm => by rw [e a ha]; exact h2 a ha hm, fun a a' ha ha' hne heq => by rw [e a ha, e a' ha'] at heq; rw [e a ha]; exact h3 a a' ha ha' hne heq, fun a ha => ?_⟩
      by_cases q : a = b
      · subst q; rw [pq_upd_eq]; exact (pq_mx_s9 (h4 a ha) (Or.inr rfl)).1
      · rw [pq_upd_ne (by omega)]; exact h4 a ha
    · exact h
theorem pq_WP_bk1 {r : Nat} {n m : Nat} (hn : n ≤ 5) {c : pq_Pg} (h : pq_WP n m c) {b : Nat} (hb : b < 4) : pq_WP n m (pq_bk1 r c b) := by
  unfold pq_bk1
  split
  · rename_i h9
    have hm := pq_lt_m hn h hb (by rw [h9]; decide)
    have key : ∀ v u : Int32, (v = 8 ∨ v = 9) → pq_WP n m (upd (upd c (b + 13) u) (b + 5) v) := by
      intro v u hv
      have h0 := pq_WP_move (pq_WP_off h (i := b + 13) (by omega) u) hm hb (v := v) (u := c (b + 9)) (by rcases hv with rfl | rfl <;> simp [pq_pok]) (Or.inl (by rcases hv with rfl | rfl <;> decide)) (h.2.2.2 b hb)
      have e : upd (upd (upd c (b + 13) u) (b + 5) v) (b + 9) (c (b + 9)) = upd (upd c (b + 13) u) (b + 5) v := by
        funext k
        by_cases q : k = b + 9
        · subst q; rw [pq_upd_eq, pq_upd_ne (by omega), pq_upd_ne (by omega)]
        · rw [pq_upd_ne q]
      rw [e] at h0
      exact h0
    exact key _ _ (by by_cases q : c (b + 13) - (if b = r then 0 else 1) = 0 <;> simp [q])
  · exact h
