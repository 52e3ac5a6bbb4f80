/-! counts of bits -/
def pq_pop (q : Nat) : Nat := q % 2 + q / 2 % 2 + q / 4 % 2 + q / 8 % 2
def pq_bcf (x0 : Int32) : Int32 :=
  let y1 := x0 - ((((x0).toUInt32 >>> ((1 : Int32).toUInt32 &&& Int32.toUInt32 31)).toInt32) &&& 1431655765)
  let y3 := (y1 &&& 858993459) + ((((y1).toUInt32 >>> ((2 : Int32).toUInt32 &&& Int32.toUInt32 31)).toInt32) &&& 858993459)
  let y5 := (y3 + (((y3).toUInt32 >>> ((4 : Int32).toUInt32 &&& Int32.toUInt32 31)).toInt32)) &&& 252645135
  let y7 := y5 + (((y5).toUInt32 >>> ((8 : Int32).toUInt32 &&& Int32.toUInt32 31)).toInt32)
  let y9 := y7 + (((y7).toUInt32 >>> ((16 : Int32).toUInt32 &&& Int32.toUInt32 31)).toInt32)
  y9 &&& 63
theorem pq_bc0 : ∀ q : Fin 16, pq_bcf (nI q.val) = nI (pq_pop q.val) := by decide +kernel
theorem pq_bc {q : Nat} (hq : q < 16) (h : zw_Hp) : M_J6_bitCount_0f7a4 (nI q) h = some (nI (pq_pop q)) := by
  have e : M_J6_bitCount_0f7a4 (nI q) h = some (pq_bcf (nI q)) := rfl
  rw [e, pq_bc0 ⟨q, hq⟩]
def pq_mnf (x : Int32) : Int32 := 0 + ((x >>> ((0 : Int32) &&& 31)) &&& 1) + ((x >>> ((0 + 1 : Int32) &&& 31)) &&& 1) + ((x >>> ((0 + 1 + 1 : Int32) &&& 31)) &&& 1) + ((x >>> ((0 + 1 + 1 + 1 : Int32) &&& 31)) &&& 1) + ((x >>> ((0 + 1 + 1 + 1 + 1 : Int32) &&& 31)) &&& 1)
theorem pq_many0 : ∀ q : Fin 16, pq_mnf (nI q.val) = nI (pq_pop q.val) := by decide +kernel
theorem pq_many {q : Nat} (hq : q < 16) (h : zw_Hp) : M_X9_many (nI q) h = some (nI (pq_pop q)) := by
  have e : M_X9_many (nI q) h = some (pq_mnf (nI q)) := by
    unfold M_X9_many L_X9_many_4
    obtain ⟨K, hK⟩ := pq_u6 (fun (k4 : (Int32 × Int32 × Int32) → Option (Int32)) (w : Int32 × Int32 × Int32) => B_X9_many_4 h k4 (w.1) (w.2.1) (w.2.2)) (nI q, (0 : Int32), (0 : Int32))
    rw [hK]
    simp only [B_X9_many_4, zw_nm]
    rw [if_neg (by decide), if_neg (by decide), if_neg (by decide), if_neg (by decide), if_neg (by decide), if_pos (by decide)]
    rfl
  rw [e, pq_many0 ⟨q, hq⟩]
/-! two who rest or work -/
def pq_mk (a b k : Nat) : Int32 := (if k ≤ 1 then (1 : Int32) <<< (nI a &&& 31) else 0) ||| (if k % 2 = 0 then (1 : Int32) <<< (nI b &&& 31) else 0)
def pq_sk (a b k : Nat) : Int32 := ((31 : Int32) &&& ((if k ≤ 1 then (1 : Int32) <<< (nI a &&& 31) else 0) ^^^ (-1 : Int32))) &&& ((if k % 2 = 0 then (1 : Int32) <<< (nI b &&& 31) else 0) ^^^ (-1 : Int32))
theorem pq_msk_k0 : ∀ a b : Fin 5, ∀ k : Fin 4, ∀ w : Fin 5, ((((pq_mk a.val b.val k.val >>> (nI w.val &&& 31)) &&& 1) = 1) ↔ ¬ (((pq_sk a.val b.val k.val >>> (nI w.val &&& 31)) &&& 1) = 1)) := by decide +kernel
theorem pq_msk_k {n a b k : Nat} (hn : n ≤ 5) (ha : a < 5) (hb : b < 5) (hk : k < 4) : pq_msk n (pq_mk a b k) (pq_sk a b k) := fun w hw => pq_msk_k0 ⟨a, ha⟩ ⟨b, hb⟩ ⟨k, hk⟩ ⟨w, by omega⟩
theorem pq_Wb_21 {n m B : Nat} {c : pq_Pg} (h : pq_Wb n m B c) (v : Int32) : pq_Wb n m B (upd c 21 v) := by
  obtain ⟨h1, h2, ⟨⟨q, q1, q2⟩, ⟨f, f1, f2⟩⟩, ⟨⟨t, t1, t2⟩, ⟨u, u1, u2⟩⟩⟩ := h
  exact ⟨h1.of (fun s hs => pq_upd_ne (by omega)), pq_WP_off h2 (by omega) _, ⟨⟨q, q1, by rw [pq_upd_ne (by omega)]; exact q2⟩, ⟨f, f1, by rw [pq_upd_ne (by omega)]; exact f2⟩⟩, ⟨⟨t, t1, by rw [pq_upd_ne (by omega)]; exact t2⟩, ⟨u, u1, by rw [pq_upd_ne (by omega)]; exact u2⟩⟩⟩
theorem pq_R_21 {n m : Nat} (hn : n ≤ 5) (hm : m ≤ 4) {w : Int32} {c g : pq_Pg} (hR : pq_R 4 w n m c g) (v : Int32) : pq_R 4 w n m (upd c 21 v) g := by
  obtain ⟨h1, h2, h3⟩ := hR
  refine ⟨fun s hs => by rw [pq_upd_ne (by omega)]; exact h1 s hs, fun b hb => ⟨fun q => by omega, fun q => ?_⟩, fun k k1 k2 => by rw [pq_upd_ne (by omega)]; exact h3 k k1 k2⟩
  rw [pq_upd_ne (by omega), pq_upd_ne (by omega), pq_upd_ne (by omega)]
  exact (h2 b hb).2 q
def pq_ry (h : zw_Hp) (n a b k : Nat) : Int32 := pq_bts (h.1 7) (h.1 8) (h.1 6 7) (h.1 6 6) n (upd (pq_cg 9 h) 21 (pq_mk a b k)) 8 19 - pq_cg 9 h 19
theorem pq_ry_eq {h h' : zw_Hp} (e : pq_eq h h') (n a b k : Nat) : pq_ry h' n a b k = pq_ry h n a b k := by
  unfold pq_ry
  obtain ⟨e6, e7, e8⟩ := pq_row678 e
  rw [pq_eq_cg e, e6, e7, e8]
theorem pq_tw {n m B : Nat} {h : zw_Hp} (hI : pq_I n m B h) {a b k : Nat} (hk : k < 4) (c' : pq_Pg) : ∃ c'', M_X1_thrownWhen (nI a) (nI b) (nI k) (pq_cp 14 c' h) = some (pq_ry h n a b k, pq_cp 14 c'' h) := by
  unfold M_X1_thrownWhen
  have eb : M_X1_begin (pq_cp 14 c' h) = some (pq_cp 14 (pq_cg 9 h) h) := by rw [pq_begin, pq_cp_cp, pq_eq_cg (pq_eq_cp h c')]
  rw [eb]
  simp only [Option.bind_some, B_X1_thrownWhen_23, B_X1_thrownWhen_36, zw_nm]
  have key : ∀ v, v = pq_mk a b k → ∃ c'', ((M_X3_passBeats 14 8 (zw_up (pq_cp 14 (pq_cg 9 h) h) 14 9 v)).bind fun z7 => some (z7.1, z7.2)) = some (pq_ry h n a b k, pq_cp 14 c'' h) := by
    intro v hv
    subst hv
    rw [pq_cp_u0 _ h _ (by decide)]
    have e := pq_passBeats (T := 8) (Or.inr rfl) h hI.1 (by omega) (pq_Wb_21 hI.now.1 (pq_mk a b k))
    rw [pq_upd_ne (by omega)] at e
    have e' : M_X3_passBeats 14 8 (pq_cp 14 (upd (pq_cg 9 h) (9 + 12) (pq_mk a b k)) h) = _ := e
    rw [e']
    exact ⟨_, rfl⟩
  rcases (show k = 0 ∨ k = 1 ∨ k = 2 ∨ k = 3 by omega) with rfl | rfl | rfl | rfl
  · rw [if_pos (show ((nI 0 >>> ((1 : Int32) &&& 31)) &&& 1) = 0 by decide), if_pos (show (nI 0 &&& 1) = 0 by decide)]
    exact key _ rfl
  · rw [if_pos (show ((nI 1 >>> ((1 : Int32) &&& 31)) &&& 1) = 0 by decide), if_neg (show ¬ (nI 1 &&& 1) = 0 by decide)]
    exact key _ rfl
  · rw [if_neg (show ¬ ((nI 2 >>> ((1 : Int32) &&& 31)) &&& 1) = 0 by decide), if_pos (show (nI 2 &&& 1) = 0 by decide)]
    exact key _ rfl
  · rw [if_neg (show ¬ ((nI 3 >>> ((1 : Int32) &&& 31)) &&& 1) = 0 by decide), if_neg (show ¬ (nI 3 &&& 1) = 0 by decide)]
    exact key _ rfl
theorem pq_2if {A B : Prop} [Decidable A] [Decidable B] {α : Type} (X : Int32 → α) (v : Int32) : (if A then X 0 else if B then X 0 else X v) = X (if ¬ A ∧ ¬ B then v else 0) := by
  by_cases hA : A
  · simp [hA]
  · by_cases hB : B
    · simp [hA, hB]
    · simp [hA, hB]
def pq_rp (y : Nat → Int32) (k : Nat) : Bool := if k = 0 then decide (¬ y 0 < y 2 - 6 ∧ ¬ y 0 < y 1 - 6) else if k = 1 then decide (¬ y 1 < y 3 - 6 ∧ ¬ y 1 - 6 < y 0) else if k = 2 then decide (¬ y 2 - 6 < y 0 ∧ ¬ y 2 < y 3 - 6) else decide (¬ y 3 - 6 < y 1 ∧ ¬ y 3 - 6 < y 2)
def pq_rb (p : Nat → Bool) : Int32 := (((0 ||| (if p 0 = true then 1 else 0)) ||| (if p 1 = true then 2 else 0)) ||| (if p 2 = true then 4 else 0)) ||| (if p 3 = true then 8 else 0)
theorem pq_ifd {P : Prop} [Decidable P] {b : Bool} (h : b = decide P) {x y : Int32} : (if P then x else y) = if b = true then x else y := by
  subst h
  by_cases q : P <;> simp [q]
theorem pq_settled {n m B : Nat} {h : zw_Hp} (hI : pq_I n m B h) {a b : Nat} : ∃ c', M_X1_settledPairs (nI a) (nI b) h = some (pq_rb (pq_rp (pq_ry h n a b)), pq_cp 14 c' h) := by
  unfold M_X1_settledPairs
  obtain ⟨c0, e0⟩ := pq_tw hI (a := a) (b := b) (k := 0) (by omega) (pq_cg 14 h)
  rw [pq_cp_cg] at e0
  obtain ⟨c1, e1⟩ := pq_tw hI (a := a) (b := b) (k := 1) (by omega) c0
  obtain ⟨c2, e2⟩ := pq_tw hI (a := a) (b := b) (k := 2) (by omega) c1
  obtain ⟨c3, e3⟩ := pq_tw hI (a := a) (b := b) (k := 3) (by omega) c2
  have e0' : M_X1_thrownWhen (nI a) (nI b) 0 h = _ := e0
  have e1' : M_X1_thrownWhen (nI a) (nI b) 1 (pq_cp 14 c0 h) = _ := e1
  have e2' : M_X1_thrownWhen (nI a) (nI b) 2 (pq_cp 14 c1 h) = _ := e2
  have e3' : M_X1_thrownWhen (nI a) (nI b) 3 (pq_cp 14 c2 h) = _ := e3
  simp only [zw_nm]
  rw [e0']
  simp only [Option.bind_some]
  rw [e1']
  simp only [Option.bind_some]
  rw [e2']
  simp only [Option.bind_some]
  rw [e3']
  simp only [Option.bind_some]
  refine ⟨c3, ?_⟩
  generalize pq_ry h n a b = y
  generalize pq_cp 14 c3 h = H
  simp only [B_X1_settledPairs_62, B_X1_settledPairs_63, B_X1_settledPairs_91, B_X1_settledPairs_92, B_X1_settledPairs_120, B_X1_settledPairs_121, zw_nm]
  have q3 : ∀ u : Int32, (if y 3 - 6 < y 1 then some (u ||| 0, H) else if y 3 - 6 < y 2 then some (u ||| 0, H) else some (u ||| 8, H)) = some (u ||| (if pq_rp y 3 = true then 8 else 0), H) := fun u => by
    rw [pq_2if (fun v => some (u ||| v, H)) 8, pq_ifd (b := pq_rp y 3) rfl]
  simp only [q3]
  have q2 : ∀ u : Int32, (if y 2 - 6 < y 0 then some ((u ||| 0) ||| (if pq_rp y 3 = true then (8 : Int32) else 0), H) else if y 2 < y 3 - 6 then some ((u ||| 0) ||| (if pq_rp y 3 = true then (8 : Int32) else 0), H) else some ((u ||| 4) ||| (if pq_rp y 3 = true then (8 : Int32) else 0), H)) = some ((u ||| (if pq_rp y 2 = true then 4 else 0)) ||| (if pq_rp y 3 = true then (8 : Int32) else 0), H) := fun u => by
    rw [pq_2if (fun v => some ((u ||| v) ||| (if pq_rp y 3 = true then (8 : Int32) else 0), H)) 4, pq_ifd (b := pq_rp y 2) rfl]
  simp only [q2]
  have q1 : ∀ u : Int32, (if y 1 < y 3 - 6 then some (((u ||| 0) ||| (if pq_rp y 2 = true then (4 : Int32) else 0)) ||| (if pq_rp y 3 = true then (8 : Int32) else 0), H) else if y 1 - 6 < y 0 then some (((u ||| 0) ||| (if pq_rp y 2 = true then (4 : Int32) else 0)) ||| (if pq_rp y 3 = true then (8 : Int32) else 0), H) else some (((u ||| 2) ||| (if pq_rp y 2 = true then (4 : Int32) else 0)) ||| (if pq_rp y 3 = true then (8 : Int32) else 0), H)) = some (((u ||| (if pq_rp y 1 = true then 2 else 0)) ||| (if pq_rp y 2 = true then (4 : Int32) else 0)) ||| (if pq_rp y 3 = true then (8 : Int32) else 0), H) := fun u => by
    rw [pq_2if (fun v => some (((u ||| v) ||| (if pq_rp y 2 = true then (4 : Int32) else 0)) ||| (if pq_rp y 3 = true then (8 : Int32) else 0), H)) 2, pq_ifd (b := pq_rp y 1) rfl]
  simp only [q1]
  rw [pq_2if (fun v => some ((((0 ||| v) ||| (if pq_rp y 1 = true then (2 : Int32) else 0)) ||| (if pq_rp y 2 = true then (4 : Int32) else 0)) ||| (if pq_rp y 3 = true then (8 : Int32) else 0), H)) 1, pq_ifd (b := pq_rp y 0) rfl]
  rfl
def pq_rc (p : Nat → Bool) : Nat := (p 0).toNat + (p 1).toNat + (p 2).toNat + (p 3).toNat
def pq_rf (p : Nat → Bool) : Int32 := if p 0 = true then 0 else if p 1 = true then 1 else if p 2 = true then 10 else if p 3 = true then 11 else -9
theorem pq_rb_q (p : Nat → Bool) : pq_rb p = nI ((p 0).toNat + 2 * (p 1).toNat + 4 * (p 2).toNat + 8 * (p 3).toNat) ∧ pq_pop ((p 0).toNat + 2 * (p 1).toNat + 4 * (p 2).toNat + 8 * (p 3).toNat) = pq_rc p := by
  unfold pq_rb pq_rc
  generalize p 0 = b0
  generalize p 1 = b1
  generalize p 2 = b2
  generalize p 3 = b3
  revert b0 b1 b2 b3
  decide +kernel
theorem pq_fpair (p : Nat → Bool) (h : zw_Hp) : M_X8_firstPair (pq_rb p) h = some (pq_rf p) := by
  unfold M_X8_firstPair L_X8_firstPair_2
  obtain ⟨K, hK⟩ := pq_u5 (fun (k2 : (Int32 × Int32) → Option (Int32)) (w : Int32 × Int32) => B_X8_firstPair_2 h k2 (w.1) (w.2)) (pq_rb p, (0 : Int32))
  rw [hK]
  simp only [B_X8_firstPair_2, zw_nm]
  unfold pq_rb pq_rf
  generalize p 0 = b0
  generalize p 1 = b1
  generalize p 2 = b2
  generalize p 3 = b3
  cases b0 <;> cases b1 <;> cases b2 <;> cases b3 <;> rfl
def pq_restsV (h : zw_Hp) (n : Nat) (x1 x2 x3 : Int32) : Int32 := if 0 ≤ x1 ∧ x1 ≤ nI n - 1 then (if 0 ≤ x2 ∧ x2 ≤ nI n - 1 then (if x1 = x2 then -2 else if 0 ≤ x3 ∧ x3 ≤ 1 then (if x3 = 0 then nI (pq_rc (pq_rp (pq_ry h n x1.toNatClampNeg x2.toNatClampNeg))) else pq_rf (pq_rp (pq_ry h n x1.toNatClampNeg x2.toNatClampNeg))) else -2) else -1) else -1
theorem pq_restsV_eq {h h' : zw_Hp} (e : pq_eq h h') (n : Nat) (x1 x2 x3 : Int32) : pq_restsV h' n x1 x2 x3 = pq_restsV h n x1 x2 x3 := by
  unfold pq_restsV
  rw [show pq_ry h' n x1.toNatClampNeg x2.toNatClampNeg = pq_ry h n x1.toNatClampNeg x2.toNatClampNeg from funext fun k => pq_ry_eq e n _ _ k]
theorem pq_restsC {n m B : Nat} {h : zw_Hp} (hI : pq_I n m B h) (x1 x2 x3 : Int32) : ∃ h1, M_X8_rests x1 x2 x3 h = some (pq_restsV h n x1 x2 x3, h1) ∧ pq_eq h h1 := by
  unfold M_X8_rests pq_restsV
  rw [pq_hasPerson hI.1.2.1 _ hI.1.1, pq_hasPerson hI.1.2.1 _ hI.1.1]
  simp only [Option.bind_some, zw_nm]
  rcases pq_num x1 (n := n) (by have := hI.1.2.1; omega) with ⟨a1, a2⟩ | ⟨a, a1, a3, a4⟩
  · rw [if_neg a1, if_pos rfl, if_neg a1]
    exact ⟨h, rfl, pq_eq_rf h⟩
  · rw [if_pos a4, if_neg pq_10, if_pos a4]
    rcases pq_num x2 (n := n) (by have := hI.1.2.1; omega) with ⟨b1, b2⟩ | ⟨b, b1, b3, b4⟩
    · rw [if_neg b1, if_pos rfl, if_neg b1]
      exact ⟨h, rfl, pq_eq_rf h⟩
    · rw [if_pos b4, if_neg pq_10, if_pos b4]
      by_cases x12 : x1 = x2
      · rw [if_pos x12, if_pos x12]
        exact ⟨h, rfl, pq_eq_rf h⟩
      · rw [if_neg x12, if_neg x12, pq_01]
        simp only [Option.bind_some]
        by_cases q : 0 ≤ x3 ∧ x3 ≤ 1
        · rw [if_pos q, if_neg pq_10, if_pos q, a3, b3, nI_clamp (by have := hI.1.2.1; omega), nI_clamp (by have := hI.1.2.1; omega)]
          obtain ⟨c', e⟩ := pq_settled hI (a := a) (b := b)
          rw [e]
          simp only [Option.bind_some]
          refine ⟨pq_cp 14 c' h, ?_, pq_eq_cp h c'⟩
          rw [pq_fpair]
          generalize pq_rp (pq_ry h n a b) = p
          rw [(pq_rb_q p).1, pq_bc (by have := (p 0).toNat_le; have := (p 1).toNat_le; have := (p 2).toNat_le; have := (p 3).toNat_le; omega), (pq_rb_q p).2]
          by_cases x0 : x3 = 0
          · rw [if_pos x0, if_pos x0]; rfl
          · rw [if_neg x0, if_neg x0]; rfl
        · rw [if_neg q, if_pos rfl, if_neg q]
          exact ⟨h, rfl, pq_eq_rf h⟩
