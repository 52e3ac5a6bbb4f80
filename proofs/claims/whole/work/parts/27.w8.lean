/-! empty where not held, no way to go where not under way: kept by all -/
theorem pq_W8_of {m : Nat} (hm : m ≤ 4) {c d : pq_Pg} (h : pq_W8 m c) (e : ∀ k, 5 ≤ k → k < 17 → d k = c k) : pq_W8 m d := by
  refine ⟨fun b hb => ?_, fun b hb => ?_⟩
  · rw [e (b + 5) (by omega) (by omega), e (b + 9) (by omega) (by omega), e (b + 13) (by omega) (by omega)]
    exact h.1 b hb
  · rw [e (b + 5) (by omega) (by omega)]; exact h.2 b hb
theorem pq_W8_one {m : Nat} (hm : m ≤ 4) {c d : pq_Pg} {b : Nat} (h : pq_W8 m c) (e : ∀ a, a < 4 → a ≠ b → d (a + 5) = c (a + 5) ∧ d (a + 9) = c (a + 9) ∧ d (a + 13) = c (a + 13)) (h1 : 5 ≤ d (b + 5) → d (b + 9) = 0) (h2 : d (b + 5) ≠ 9 → d (b + 13) = 0) (h3 : b < m → d (b + 5) ≠ 10) : pq_W8 m d := by
  refine ⟨fun a ha => ?_, fun a ha => ?_⟩
  · by_cases q : a = b
    · subst q; exact ⟨h1, h2⟩
    · obtain ⟨e1, e2, e3⟩ := e a ha q
      rw [e1, e2, e3]; exact h.1 a ha
  · by_cases q : a = b
    · subst q; exact h3 ha
    · rw [(e a (by omega) q).1]; exact h.2 a ha
theorem pq_send_5 {w : Int32} {c : pq_Pg} {b : Nat} (hb : b < 4) : pq_send w c b (b + 5) = 9 ∧ pq_send w c b (b + 9) = 0 ∧ pq_send w c b (b + 13) = w := by
  unfold pq_send
  refine ⟨?_, ?_, pq_upd_eq⟩
  · rw [pq_upd_ne (by omega), pq_upd_ne (by omega), pq_upd_eq]
  · rw [pq_upd_ne (by omega), pq_upd_eq]
theorem pq_send_ne {w : Int32} {c : pq_Pg} {a b : Nat} (ha : a < 4) (hb : b < 4) (hab : a ≠ b) : pq_send w c b (a + 5) = c (a + 5) ∧ pq_send w c b (a + 9) = c (a + 9) ∧ pq_send w c b (a + 13) = c (a + 13) := by
  unfold pq_send
  refine ⟨?_, ?_, ?_⟩ <;> rw [pq_upd_ne (by omega), pq_upd_ne (by omega), pq_upd_ne (by omega)]
theorem pq_W8_send {m : Nat} (hm : m ≤ 4) {w : Int32} {c : pq_Pg} {b : Nat} (hb : b < 4) (h : pq_W8 m c) : pq_W8 m (pq_send w c b) := by
  obtain ⟨e1, e2, e3⟩ := pq_send_5 (w := w) (c := c) hb
  exact pq_W8_one hm h (fun a ha hab => pq_send_ne ha hb hab) (fun _ => e2) (fun q => absurd e1 q) (fun _ => by rw [e1]; decide)
theorem pq_W8_giv {m : Nat} (hm : m ≤ 4) {K : Nat → Int32} {c : pq_Pg} {b s : Nat} {ld : Int32} (hb : b < 4) (hs : s < 5) (h : pq_W8 m c) (h9 : c (b + 5) ≠ 9) : pq_W8 m (pq_giv K c b s ld) := by
  unfold pq_giv
  refine pq_W8_one (b := b) hm h (fun a ha hab => ?_) (fun q => ?_) (fun _ => ?_) (fun _ => ?_)
  · refine ⟨?_, ?_, ?_⟩ <;> rw [pq_upd_ne (by omega), pq_upd_ne (by omega)]
  · rw [pq_upd_ne (by omega), pq_upd_eq, pq_le5 (by omega)] at q
    omega
  · rw [pq_upd_ne (by omega), pq_upd_ne (by omega)]
    exact (h.1 b hb).2 h9
  · rw [pq_upd_ne (by omega), pq_upd_eq]
    exact pq_nI_ne10 (by omega)
theorem pq_nI_ne9 {p : Nat} (hp : p < 9) : nI p ≠ 9 := fun e => by
  have := (nI_eq (a := p) (b := 9) (by omega) (by decide)).mp e
  omega
theorem pq_W8_hnd {m : Nat} (hm : m ≤ 4) {K : Nat → Int32} {c : pq_Pg} {s : Nat} (hs : s < 4) (h : pq_W8 m c) : pq_W8 m (pq_hnd K c s) := by
  unfold pq_hnd
  by_cases h1 : pq_lb c (nI s) = 4
  · rw [if_pos h1]; exact h
  · rw [if_neg h1]
    split
    · exact h
    · split
      · have h3 := pq_lb_at h1
        exact pq_W8_giv hm (pq_lb_lt h1) (by omega) h (by rw [h3]; exact pq_nI_ne9 (by omega))
      · exact h
theorem pq_W8_hds {m : Nat} (hm : m ≤ 4) {K : Nat → Int32} : ∀ (k : Nat) {c : pq_Pg}, k ≤ 4 → pq_W8 m c → pq_W8 m (pq_hds K c k) := by
  intro k
  induction k with
  | zero => intro c _ h; exact h
  | succ k ih => intro c hk h; exact ih (by omega) (pq_W8_hnd hm (by omega) h)
theorem pq_W8_fil {m : Nat} (hm : m ≤ 4) {K Z : Nat → Int32} {n : Nat} {c : pq_Pg} (h : pq_W8 m c) : pq_W8 m (pq_fil K Z n c) := by
  unfold pq_fil
  split
  · exact h
  · split
    · split
      · exact h
      · rename_i h2
        have h3 := pq_lb_at h2
        exact pq_W8_giv hm (pq_lb_lt h2) (by omega) h (by rw [h3]; decide)
    · exact h
theorem pq_W8_thr {m : Nat} (hm : m ≤ 4) {K : Nat → Int32} {w : Int32} {n : Nat} {c : pq_Pg} (h : pq_W8 m c) : pq_W8 m (pq_thr K w n c).2 := by
  unfold pq_thr
  by_cases h0 : n = 0
  · rw [if_pos h0]; exact h
  · rw [if_neg h0]
    by_cases h1 : pq_lb c (nI (n - 1)) = 4
    · rw [if_pos h1]; exact h
    · rw [if_neg h1]
      split
      · exact h
      · exact pq_W8_send hm (pq_lb_lt h1) (pq_W8_of hm h (fun k k1 k2 => by rw [pq_upd_ne (by omega), pq_upd_ne (by omega)]))
theorem pq_W8_lk1 {m : Nat} (hm : m ≤ 4) {c : pq_Pg} {b : Nat} (hb : b < 4) (h : pq_W8 m c) : pq_W8 m (pq_lk1 c b) := by
  unfold pq_lk1
  by_cases h5 : 5 ≤ c (b + 5)
  · rw [if_pos h5]; exact h
  · rw [if_neg h5]
    split
    · refine pq_W8_one (b := b) hm h (fun a ha hab => ?_) (fun q => ?_) (fun q => ?_) (fun q => ?_)
      · refine ⟨?_, ?_, ?_⟩ <;> rw [pq_upd_ne (by omega)]
      · rw [pq_upd_ne (by omega)] at q; exact absurd q h5
      · rw [pq_upd_ne (by omega)] at q ⊢; exact (h.1 b hb).2 q
      · rw [pq_upd_ne (by omega)]; exact h.2 b q
    · exact h
theorem pq_W8_bk1 {m : Nat} (hm : m ≤ 4) {r : Nat} {c : pq_Pg} {b : Nat} (hb : b < 4) (h : pq_W8 m c) : pq_W8 m (pq_bk1 r c b) := by
  unfold pq_bk1
  by_cases h9 : c (b + 5) = 9
  · rw [if_pos h9]
    generalize c (b + 13) - (if b = r then 0 else 1) = x
    have h0 := (h.1 b hb).1 (by rw [h9]; decide)
    refine pq_W8_one (b := b) hm h (fun a ha hab => ?_) (fun q => ?_) (fun q => ?_) (fun q => ?_)
    · refine ⟨?_, ?_, ?_⟩ <;> rw [pq_upd_ne (by omega), pq_upd_ne (by omega)]
    · rw [pq_upd_ne (by omega), pq_upd_ne (by omega)]; exact h0
    · rw [pq_upd_eq] at q
      rw [pq_upd_ne (by omega), pq_upd_eq]
      by_cases x0 : x = 0
      · exact x0
      · rw [if_neg x0] at q; exact absurd rfl q
    · rw [pq_upd_eq]
      split <;> decide
  · rw [if_neg h9]; exact h
theorem pq_W8_bt {m : Nat} (hm : m ≤ 4) {K Z : Nat → Int32} {w gr : Int32} {n : Nat} (hn : n ≤ 5) {c : pq_Pg} (h : pq_W8 m c) : pq_W8 m (pq_bt K Z w gr n c) := by
  unfold pq_bt
  refine pq_W8_of hm ?_ (fun k k1 k2 => pq_end_lo k2)
  unfold pq_bk pq_lk
  exact pq_W8_bk1 hm (by decide) (pq_W8_bk1 hm (by decide) (pq_W8_bk1 hm (by decide) (pq_W8_bk1 hm (by decide) (pq_W8_lk1 hm (by decide) (pq_W8_lk1 hm (by decide) (pq_W8_lk1 hm (by decide) (pq_W8_lk1 hm (by decide) (pq_W8_fil hm (pq_W8_hds hm (n - 1) (by omega) (pq_W8_thr hm h))))))))))
/-! a bucket falls -/
theorem pq_fall_eq {w : Int32} {c : pq_Pg} {b : Nat} (h5 : ¬ 5 ≤ c (b + 5)) : pq_fall w c b = upd (pq_send w c b) (b + 5) (if w = 0 then 8 else 9) := by
  unfold pq_fall
  rw [if_neg h5]
  by_cases w0 : w = 0
  · rw [if_pos w0, if_pos w0]
  · rw [if_neg w0, if_neg w0]
    funext k
    by_cases q : k = b + 5
    · subst q; rw [pq_upd_eq]; unfold pq_send; rw [pq_upd_ne (by omega), pq_upd_ne (by omega), pq_upd_eq]
    · rw [pq_upd_ne q]
theorem pq_fall_off {w : Int32} {c : pq_Pg} {b k : Nat} (hb : b < 4) (hk : k < 5 ∨ 17 ≤ k) : pq_fall w c b k = c k := by
  by_cases h5 : 5 ≤ c (b + 5)
  · unfold pq_fall; rw [if_pos h5]
  · rw [pq_fall_eq h5, pq_upd_ne (by omega)]
    unfold pq_send
    rw [pq_upd_ne (by omega), pq_upd_ne (by omega), pq_upd_ne (by omega)]
theorem pq_W8_fall {m : Nat} (hm : m ≤ 4) {w : Int32} {c : pq_Pg} {b : Nat} (hb : b < 4) (h : pq_W8 m c) : pq_W8 m (pq_fall w c b) := by
  by_cases h5 : 5 ≤ c (b + 5)
  · unfold pq_fall; rw [if_pos h5]; exact h
  · rw [pq_fall_eq h5]
    obtain ⟨e1, e2, e3⟩ := pq_send_5 (w := w) (c := c) hb
    refine pq_W8_one (b := b) hm h (fun a ha hab => ?_) (fun q => ?_) (fun q => ?_) (fun q => ?_)
    · rw [pq_upd_ne (by omega), pq_upd_ne (by omega), pq_upd_ne (by omega)]; exact pq_send_ne ha hb hab
    · rw [pq_upd_ne (by omega)]; exact e2
    · rw [pq_upd_eq] at q
      rw [pq_upd_ne (by omega), e3]
      by_cases x0 : w = 0
      · exact x0
      · rw [if_neg x0] at q; exact absurd rfl q
    · rw [pq_upd_eq]
      split <;> decide
theorem pq_Wb_fall {n m B : Nat} (hn : n ≤ 5) {w : Int32} {c : pq_Pg} {b : Nat} (hb : b < 4) (h : pq_Wb n m B c) : pq_Wb n m B (pq_fall w c b) := by
  obtain ⟨h1, h2, h3, h4⟩ := h
  refine ⟨h1.of (fun s hs => pq_fall_off hb (by omega)), ?_, ?_, ?_⟩
  · by_cases h5 : 5 ≤ c (b + 5)
    · unfold pq_fall; rw [if_pos h5]; exact h2
    · have hbm : b < m := pq_lt_m hn h2 hb (fun e => h5 (by rw [e]; decide))
      have h0 := pq_WP_off (pq_WP_move h2 hbm hb (v := if w = 0 then 8 else 9) (u := 0) (by by_cases w0 : w = 0 <;> simp [w0, pq_pok]) (Or.inl (by by_cases w0 : w = 0 <;> simp [w0])) pq_s9_0) (i := b + 13) (by omega) w
      have e : pq_fall w c b = upd (upd (upd c (b + 5) (if w = 0 then 8 else 9)) (b + 9) 0) (b + 13) w := by
        rw [pq_fall_eq h5]
        unfold pq_send
        funext k
        unfold upd
        by_cases q5 : k = b + 5
        · subst q5; simp
        · by_cases q9 : k = b + 9
          · subst q9; simp
          · by_cases q13 : k = b + 13
            · subst q13; simp
            · simp [q5, q9, q13]
      rw [e]; exact h0
  · obtain ⟨⟨q, q1, q2⟩, ⟨f, f1, f2⟩⟩ := h3
    exact ⟨⟨q, q1, by rw [pq_fall_off hb (by omega)]; exact q2⟩, ⟨f, f1, by rw [pq_fall_off hb (by omega)]; exact f2⟩⟩
  · obtain ⟨⟨q, q1, q2⟩, ⟨f, f1, f2⟩⟩ := h4
    exact ⟨⟨q, q1, by rw [pq_fall_off hb (by omega)]; exact q2⟩, ⟨f, f1, by rw [pq_fall_off hb (by omega)]; exact f2⟩⟩
theorem pq_R_fall {n m : Nat} (hn : n ≤ 5) (hm : m ≤ 4) {w : Int32} {c g : pq_Pg} (hR : pq_R 4 w n m c g) {b : Nat} (hb : b < m) (h5 : ¬ 5 ≤ c (b + 5)) : pq_R 4 w n m (pq_fall w c b) (upd (upd (upd g (b + 9) 0) (b + 13) w) (b + 5) (if w = 0 then 8 else 9)) := by
  rw [pq_fall_eq h5]
  obtain ⟨h1, h2, h3⟩ := hR
  obtain ⟨e1, e2, e3⟩ := pq_send_5 (w := w) (c := c) (show b < 4 by omega)
  refine ⟨fun s hs => ?_, fun a ha => ⟨fun q => by omega, fun q => ?_⟩, fun k hk hk2 => ?_⟩
  · rw [pq_upd_ne (by omega), pq_upd_ne (by omega), pq_upd_ne (by omega), pq_upd_ne (by omega), pq_send_lo (by omega)]; exact h1 s hs
  · by_cases ab : a = b
    · subst ab
      refine ⟨Or.inl ?_, ?_, ?_⟩
      · rw [pq_upd_eq, pq_upd_eq]
      · rw [pq_upd_ne (by omega), pq_upd_ne (by omega), pq_upd_eq, pq_upd_ne (by omega), e2]
      · rw [pq_upd_ne (by omega), pq_upd_eq, pq_upd_ne (by omega), e3]
    · obtain ⟨d1, d2, d3⟩ := pq_send_ne (w := w) (c := c) (show a < 4 by omega) (show b < 4 by omega) ab
      rw [pq_upd_ne (by omega), pq_upd_ne (by omega), pq_upd_ne (by omega), pq_upd_ne (by omega), pq_upd_ne (by omega), pq_upd_ne (by omega), pq_upd_ne (by omega), pq_upd_ne (by omega), pq_upd_ne (by omega), pq_upd_ne (by omega), pq_upd_ne (by omega), pq_upd_ne (by omega), d1, d2, d3]
      exact (h2 a ha).2 q
  · rw [pq_upd_ne (by omega), pq_upd_ne (by omega), pq_upd_ne (by omega), pq_upd_ne (by omega), pq_send_hi (by omega) hk]; exact h3 k hk hk2
/-! a hole is mended -/
def pq_mnd (c : pq_Pg) (b : Nat) : pq_Pg := upd c 17 (c 17 &&& ((1 <<< (nI b &&& 31)) ^^^ -1))
theorem pq_mnd_f : ∀ q : Fin 16, ∀ b : Fin 4, ∃ r : Fin 16, r.val ≤ q.val ∧ nI q.val &&& ((1 <<< (nI b.val &&& 31)) ^^^ -1) = nI r.val := by decide +kernel
theorem pq_bit_f : ∀ q : Fin 16, ∀ b : Fin 4, q.val < 2 ^ b.val → ((nI q.val >>> (nI b.val &&& 31)) &&& 1) = 0 := by decide +kernel
theorem pq_bit0 {m : Nat} {x : Int32} (hx : ∃ q, q < 2 ^ m ∧ x = nI q) (hm : m ≤ 4) {b : Nat} (hb : b < 4) (hmb : m ≤ b) : ((x >>> (nI b &&& 31)) &&& 1) = 0 := by
  obtain ⟨q, h1, rfl⟩ := hx
  have h2 : 2 ^ m ≤ 2 ^ b := Nat.pow_le_pow_right (by omega) hmb
  have h3 : 2 ^ b ≤ 2 ^ 3 := Nat.pow_le_pow_right (by omega) (by omega)
  exact pq_bit_f ⟨q, by omega⟩ ⟨b, hb⟩ (by show q < 2 ^ b; omega)
theorem pq_Wb_mnd {n m B : Nat} (hm : m ≤ 4) {c : pq_Pg} {b : Nat} (hb : b < 4) (h : pq_Wb n m B c) : pq_Wb n m B (pq_mnd c b) := by
  unfold pq_mnd
  obtain ⟨h1, h2, ⟨⟨q, q1, q2⟩, ⟨f, f1, f2⟩⟩, ⟨⟨t, t1, t2⟩, ⟨u, u1, u2⟩⟩⟩ := h
  refine ⟨h1.of (fun s hs => pq_upd_ne (by omega)), pq_WP_off h2 (by omega) _, ⟨?_, ⟨f, f1, by rw [pq_upd_ne (by omega)]; exact f2⟩⟩, ⟨⟨t, t1, by rw [pq_upd_ne (by omega)]; exact t2⟩, ⟨u, u1, by rw [pq_upd_ne (by omega)]; exact u2⟩⟩⟩
  have h2 : 2 ^ m ≤ 2 ^ 4 := Nat.pow_le_pow_right (by omega) hm
  obtain ⟨r, r1, r2⟩ := pq_mnd_f ⟨q, by omega⟩ ⟨b, hb⟩
  refine ⟨r.val, ?_, ?_⟩
  · have : r.val ≤ q := r1
    omega
  · rw [pq_upd_eq, q2]; exact r2
theorem pq_W8_mnd {m : Nat} (hm : m ≤ 4) {c : pq_Pg} {b : Nat} (h : pq_W8 m c) : pq_W8 m (pq_mnd c b) := pq_W8_of hm h (fun k k1 k2 => pq_upd_ne (by omega))
theorem pq_W8_xc {m : Nat} (hm : m ≤ 4) {n : Nat} (hn : n ≤ 5) {c : pq_Pg} (hW : pq_WW n c) {a b : Nat} (ha : a < n) (hb : b < n) (h : pq_W8 m c) : pq_W8 m (pq_xc c (nI a) (nI b)) := by
  obtain ⟨a1, -, -⟩ := hW.stand hn ha
  obtain ⟨b1, -, -⟩ := hW.stand hn hb
  exact pq_W8_of hm h (fun k k1 k2 => pq_xc_hi (by omega) (by omega) k1)
