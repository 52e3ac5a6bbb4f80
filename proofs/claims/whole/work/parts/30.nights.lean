/-! nights by a seed -/
def pq_nx : Int64 → Int64 := fun z => z * 6364136223846793005 + 1442695040888963407
def pq_chx (z : Int64) : Int32 := ((z.toUInt64 >>> ((33 : Int32).toInt64.toUInt64 &&& Int64.toUInt64 63)).toInt64 - (z.toUInt64 >>> ((33 : Int32).toInt64.toUInt64 &&& Int64.toUInt64 63)).toInt64 / 24 * 24).toInt32
def pq_ch (z : Int64) : Nat := z.toUInt64.toNat / 2 ^ 33 % 24
theorem pq_chx_eq (z : Int64) : pq_chx z = nI (pq_ch z) := by
  unfold pq_chx pq_ch
  have e : (z.toUInt64 >>> ((33 : Int32).toInt64.toUInt64 &&& Int64.toUInt64 63)).toInt64 = lN (z.toUInt64.toNat / 2 ^ 33) := by
    rw [show ((33 : Int32).toInt64.toUInt64 &&& Int64.toUInt64 63) = (33 : UInt64) from by decide]
    have h1 : z.toUInt64 >>> 33 = UInt64.ofNat (z.toUInt64.toNat / 2 ^ 33) := by
      apply UInt64.toNat_inj.mp
      have hz := z.toUInt64.toNat_lt
      rw [UInt64.toNat_shiftRight, UInt64.toNat_ofNat', Nat.shiftRight_eq_div_pow]
      show z.toUInt64.toNat / 2 ^ 33 = z.toUInt64.toNat / 2 ^ 33 % 2 ^ 64
      rw [Nat.mod_eq_of_lt]
      exact Nat.lt_of_le_of_lt (Nat.div_le_self _ _) hz
    rw [h1]
    rfl
  rw [e]
  have hz := z.toUInt64.toNat_lt
  have := pk_lRem (a := z.toUInt64.toNat / 2 ^ 33) (b := 24) (by omega) (by decide) (by decide)
  have e2 : lN (z.toUInt64.toNat / 2 ^ 33) - lN (z.toUInt64.toNat / 2 ^ 33) / 24 * 24 = lN (z.toUInt64.toNat / 2 ^ 33 % 24) := this
  rw [e2, lN_i]
def pq_nf (K Z : Nat → Int32) (w gr : Int32) (n m q : Nat) (c : pq_Pg) : pq_Pg := if q < 4 then (pq_fo K Z w gr n m 1 q (q + 1) c).2 else if q < 8 then (pq_fo K Z w gr n m 3 0 (q - 4) c).2 else if q < 12 then (pq_fo K Z w gr n m 2 0 (q - 8) c).2 else (pq_fo K Z w gr n m 0 0 0 c).2
theorem pq_nf_keep {K Z : Nat → Int32} {w gr : Int32} {n m B : Nat} (hn : n ≤ 5) (hm : m ≤ 4) (hZ : ∀ b, b < m → pq_s9 (Z b)) (hg : pq_s9 gr) {c : pq_Pg} (hW : pq_Wb n m B c) (q : Nat) : pq_Wb n m (B + 1) (pq_nf K Z w gr n m q c) ∧ pq_nf K Z w gr n m q c 21 = c 21 := by
  unfold pq_nf
  split
  · exact pq_fo_keep hn hm hZ hg hW _ _ _
  · split
    · exact pq_fo_keep hn hm hZ hg hW _ _ _
    · split
      · exact pq_fo_keep hn hm hZ hg hW _ _ _
      · exact pq_fo_keep hn hm hZ hg hW _ _ _
theorem pq_fbc {n m B : Nat} (hB : B < 2 ^ 27) {h : zw_Hp} (hPl : pq_Pl n m h) {c : pq_Pg} (hW : pq_Wb n m B c) {q : Nat} (hq : q < 24) : M_X1_fireBehindChance (nI q) (pq_cp 14 c h) = some (pq_nf (h.1 7) (h.1 8) (h.1 6 7) (h.1 6 6) n m q c 18, pq_cp 14 (pq_nf (h.1 7) (h.1 8) (h.1 6 7) (h.1 6 6) n m q c) h) := by
  unfold M_X1_fireBehindChance pq_nf
  by_cases h4 : q < 4
  · rw [if_neg (show ¬ (4 : Int32) ≤ nI q from nI_ge (a := q) (b := 4) h4 (by decide)), if_pos h4, nI_1]
    have e := pq_follow hB hPl hW (d := 1) (a := q) (b := q + 1) (by omega) (by omega) (by omega)
    have e' : M_X3_follow 14 1 (nI q) (nI (q + 1)) (pq_cp 14 c h) = _ := e
    rw [e']
    simp only [Option.bind_some]
    rw [pq_cp_0 _ h (by decide)]
  · rw [if_pos (show (4 : Int32) ≤ nI q from nI_le (a := 4) (b := q) (by omega) (by omega)), if_neg h4]
    by_cases h8 : q < 8
    · rw [if_neg (show ¬ (8 : Int32) ≤ nI q from nI_ge (a := q) (b := 8) h8 (by decide)), if_pos h8, show (4 : Int32) = nI 4 from rfl, pk_sub (by omega)]
      have e := pq_follow hB hPl hW (d := 3) (a := 0) (b := q - 4) (by omega) (by omega) (by omega)
      have e' : M_X3_follow 14 3 0 (nI (q - 4)) (pq_cp 14 c h) = _ := e
      rw [e']
      simp only [Option.bind_some]
      rw [pq_cp_0 _ h (by decide)]
    · rw [if_pos (show (8 : Int32) ≤ nI q from nI_le (a := 8) (b := q) (by omega) (by omega)), if_neg h8]
      by_cases h12 : q < 12
      · rw [if_neg (show ¬ (12 : Int32) ≤ nI q from nI_ge (a := q) (b := 12) h12 (by decide)), if_pos h12, show (8 : Int32) = nI 8 from rfl, pk_sub (by omega)]
        have e := pq_follow hB hPl hW (d := 2) (a := 0) (b := q - 8) (by omega) (by omega) (by omega)
        have e' : M_X3_follow 14 2 0 (nI (q - 8)) (pq_cp 14 c h) = _ := e
        rw [e']
        simp only [Option.bind_some]
        rw [pq_cp_0 _ h (by decide)]
      · rw [if_pos (show (12 : Int32) ≤ nI q from nI_le (a := 12) (b := q) (by omega) (by omega)), if_neg h12]
        have e := pq_follow hB hPl hW (d := 0) (a := 0) (b := 0) (by omega) (by omega) (by omega)
        have e' : M_X3_follow 14 0 0 0 (pq_cp 14 c h) = _ := e
        rw [e']
        simp only [Option.bind_some]
        rw [pq_cp_0 _ h (by decide)]
def pq_nv (nx : Int64 → Int64) (ch : Int64 → Nat) (K Z : Nat → Int32) (w gr : Int32) (n m : Nat) : Nat → Int32 → Int64 → pq_Pg → Int32
  | 0, s, _, _ => s
  | d + 1, s, z, c => pq_nv nx ch K Z w gr n m d (s + pq_nf K Z w gr n m (ch (nx z)) c 18) (nx z) (pq_nf K Z w gr n m (ch (nx z)) c)
def pq_nz (nx : Int64 → Int64) : Nat → Int64 → Int64
  | 0, z => z
  | d + 1, z => pq_nz nx d (nx z)
def pq_nH (nx : Int64 → Int64) (ch : Int64 → Nat) : Prop := (∀ z : Int64, z * 6364136223846793005 + 1442695040888963407 = nx z) ∧ ∀ z : Int64, ((z.toUInt64 >>> ((33 : Int32).toInt64.toUInt64 &&& Int64.toUInt64 63)).toInt64 - (z.toUInt64 >>> ((33 : Int32).toInt64.toUInt64 &&& Int64.toUInt64 63)).toInt64 / 24 * 24).toInt32 = nI (ch z) ∧ ch z < 24
theorem pq_upL_upL (h : zw_Hp) (i : Nat) (a b : Int64) : zw_upL (zw_upL h i a) i b = zw_upL h i b := by
  refine pq_hext (fun _ _ => rfl) ?_
  funext k
  unfold zw_upL
  by_cases q : k = i
  · subst q; simp
  · simp [q]
theorem pq_upL_at (h : zw_Hp) (i : Nat) (a : Int64) (k : Nat) : (zw_upL h i a).2 k = if k = i then a else h.2 k := by
  unfold zw_upL
  by_cases q : k = i
  · subst q; simp
  · simp [q]
theorem pq_nB {nx : Int64 → Int64} {ch : Int64 → Nat} (hx : pq_nH nx ch) (k25 : (Int32 × Int32 × Int32 × zw_Hp) → Option (Int32 × zw_Hp)) (x1 x2 x3 : Int32) (H : zw_Hp) : B_X8_nights_25 k25 x1 x2 x3 H = if x1 ≤ x3 then some (x2, H) else (M_X1_fireBehindChance (nI (ch (nx (H.2 0)))) (zw_upL H 0 (nx (H.2 0)))).bind (fun z8 => k25 (x1, x2 + z8.1, x3 + 1, z8.2)) := by
  unfold B_X8_nights_25
  rw [hx.1 (H.2 0)]
  generalize nx (H.2 0) = v
  have e2 : (zw_upL H 0 v).2 0 = v := by rw [pq_upL_at, if_pos rfl]
  simp only [zw_nm]
  rw [e2, (hx.2 v).1]
theorem pq_mnB {nx : Int64 → Int64} {ch : Int64 → Nat} (hx : pq_nH nx ch) (k28 : (Int32 × Int32 × Int32 × zw_Hp) → Option (Int32 × zw_Hp)) (x1 x2 x3 : Int32) (H : zw_Hp) : B_X9_nights_28 k28 x1 x2 x3 H = if x1 ≤ x3 then some (x2, H) else (if 4 ≤ nI (ch (nx (H.2 31))) then (if 8 ≤ nI (ch (nx (H.2 31))) then (if 12 ≤ nI (ch (nx (H.2 31))) then B_X9_nights_114 k28 x1 x2 x3 0 (zw_upL H 31 (nx (H.2 31))) else B_X9_nights_114 k28 x1 x2 x3 (192 + nI (ch (nx (H.2 31)))) (zw_upL H 31 (nx (H.2 31)))) else B_X9_nights_114 k28 x1 x2 x3 (296 + nI (ch (nx (H.2 31)))) (zw_upL H 31 (nx (H.2 31)))) else B_X9_nights_114 k28 x1 x2 x3 (101 + (11 * nI (ch (nx (H.2 31))))) (zw_upL H 31 (nx (H.2 31)))) := by
  unfold B_X9_nights_28
  rw [hx.1 (H.2 31)]
  generalize nx (H.2 31) = v
  have e2 : (zw_upL H 31 v).2 31 = v := by rw [pq_upL_at, if_pos rfl]
  simp only [zw_nm]
  rw [e2, (hx.2 v).1]
theorem pq_nL {nx : Int64 → Int64} {ch : Int64 → Nat} (hx : pq_nH nx ch) {n m : Nat} {h : zw_Hp} (hPl : pq_Pl n m h) {T : Nat} (hT : T ≤ 30) : ∀ (d N k B : Nat) (s : Int32) (z : Int64) (c : pq_Pg), k + d = T → d < N → B + d < 2 ^ 27 → pq_Wb n m B c →
    ∃ c', zw_it (fun (k25 : (Int32 × Int32 × Int32 × zw_Hp) → Option (Int32 × zw_Hp)) (w : Int32 × Int32 × Int32 × zw_Hp) => B_X8_nights_25 k25 (w.1) (w.2.1) (w.2.2.1) (w.2.2.2)) N (nI T, s, nI k, pq_cp 14 c (zw_upL h 0 z)) = some (pq_nv nx ch (h.1 7) (h.1 8) (h.1 6 7) (h.1 6 6) n m d s z c, pq_cp 14 c' (zw_upL h 0 (pq_nz nx d z))) := by
  obtain ⟨hp, hn, hm, hZ, hg, hw⟩ := hPl
  intro d
  induction d with
  | zero =>
    intro N k B s z c hj hN hB hW
    obtain ⟨N', rfl⟩ : ∃ N', N = N' + 1 := ⟨N - 1, by omega⟩
    refine ⟨c, ?_⟩
    rw [pq_it_s]
    simp only []
    rw [pq_nB hx, show k = T by omega, if_pos (Int32.le_refl _)]
    rfl
  | succ d ih =>
    intro N k B s z c hj hN hB hW
    obtain ⟨N', rfl⟩ : ∃ N', N = N' + 1 := ⟨N - 1, by omega⟩
    simp only [pq_nv, pq_nz]
    rw [pq_it_s]
    simp only []
    rw [pq_nB hx, if_neg (nI_ge (by omega) (by omega))]
    have e0 : (pq_cp 14 c (zw_upL h 0 z)).2 0 = z := by
      show (zw_upL h 0 z).2 0 = z
      rw [pq_upL_at, if_pos rfl]
    have e1 : zw_upL (pq_cp 14 c (zw_upL h 0 z)) 0 (nx z) = pq_cp 14 c (zw_upL h 0 (nx z)) := by
      rw [← pq_upL_upL h 0 z (nx z)]
      rfl
    have e2 : (pq_cp 14 c (zw_upL h 0 (nx z))).2 0 = nx z := by
      show (zw_upL h 0 (nx z)).2 0 = nx z
      rw [pq_upL_at, if_pos rfl]
    rw [e0, e1, pq_fbc (h := zw_upL h 0 (nx z)) (show B < 2 ^ 27 by omega) ⟨hp, hn, hm, hZ, hg, hw⟩ hW (hx.2 (nx z)).2]
    simp only [Option.bind_some, zw_nm, nI_1]
    exact ih N' (k + 1) (B + 1) _ (nx z) _ (by omega) (by omega) (by omega) (pq_nf_keep hn hm hZ hg hW _).1
theorem pq_nHx : pq_nH pq_nx pq_ch := ⟨fun z => by unfold pq_nx; rfl, fun z => ⟨by have e := pq_chx_eq z; unfold pq_chx at e; exact e, Nat.mod_lt _ (by decide)⟩⟩
def pq_nightsV (h : zw_Hp) (n m : Nat) (x1 : Int32) : Int32 := if 1 ≤ x1 ∧ x1 ≤ 30 then pq_nv pq_nx pq_ch (h.1 7) (h.1 8) (h.1 6 7) (h.1 6 6) n m x1.toNatClampNeg 0 (h.2 31) (pq_cg 9 h) else -2
def pq_nightsZ (h : zw_Hp) (x1 : Int32) : Int64 := if 1 ≤ x1 ∧ x1 ≤ 30 then pq_nz pq_nx x1.toNatClampNeg (h.2 31) else h.2 31
theorem pq_upL_id (h : zw_Hp) (i : Nat) : zw_upL h i (h.2 i) = h := by
  refine pq_hext (fun _ _ => rfl) ?_
  funext k
  rw [pq_upL_at]
  by_cases q : k = i
  · subst q; rw [if_pos rfl]
  · rw [if_neg q]
theorem pq_nightsC {n m B : Nat} (hB : B < 2 ^ 26) {h : zw_Hp} (hI : pq_I n m B h) (x1 : Int32) : ∃ h1, M_X8_nights x1 h = some (pq_nightsV h n m x1, h1) ∧ pq_eq (zw_upL h 0 (pq_nightsZ h x1)) h1 := by
  have hs := hI.2.2.2.2.2.2.2.2.2
  unfold M_X8_nights pq_nightsV pq_nightsZ
  rcases pq_rng x1 (a := 1) (b := 30) (by decide) (by decide) with ⟨a1, a2⟩ | ⟨j, a1, a2, a3, a4⟩
  · have a1' : ¬ (1 ≤ x1 ∧ x1 ≤ 30) := a1
    have a2' : x1 < 1 ∨ 30 < x1 := a2
    refine ⟨h, ?_, ?_⟩
    · rw [if_neg a1']
      by_cases q : x1 < 1
      · rw [if_pos q]
      · rw [if_neg q, if_neg (Int32.not_le.mpr (a2'.resolve_left q))]
    · rw [if_neg a1', ← hs, pq_upL_id]
      exact pq_eq_rf h
  · have a4' : 1 ≤ x1 ∧ x1 ≤ 30 := a4
    have q1 : ¬ x1 < 1 := Int32.not_lt.mpr a4'.1
    rw [if_neg q1, if_pos a4'.2, if_pos a4', if_pos a4', a3, nI_clamp (by omega), pq_begin, ← hs]
    simp only [Option.bind_some]
    unfold L_X8_nights_25
    obtain ⟨c', e⟩ := pq_nL pq_nHx hI.1 (T := j) a2 j 600 0 B 0 (h.2 0) (pq_cg 9 h) (by omega) (by omega) (by omega) hI.now.1
    rw [pq_upL_id] at e
    have e' : zw_it (fun (k25 : (Int32 × Int32 × Int32 × zw_Hp) → Option (Int32 × zw_Hp)) (w : Int32 × Int32 × Int32 × zw_Hp) => B_X8_nights_25 k25 (w.1) (w.2.1) (w.2.2.1) (w.2.2.2)) 600 (nI j, 0, 0, pq_cp 14 (pq_cg 9 h) h) = _ := e
    rw [e']
    exact ⟨_, rfl, pq_eq_cp _ c'⟩
/-! the model's -/
theorem pq_upL_upR (h : zw_Hp) (i j : Nat) (z : Int64) (g : pq_Pg) : zw_upL (zw_upR h j g) i z = zw_upR (zw_upL h i z) j g := rfl
theorem pq_mnL {nx : Int64 → Int64} {ch : Int64 → Nat} (hx : pq_nH nx ch) {n m : Nat} {K Z : Nat → Int32} {w gr : Int32} (hn : n ≤ 5) (hm : m ≤ 4) (hZ : ∀ b, b < m → pq_s9 (Z b)) (hg : pq_s9 gr) {h : zw_Hp} (hC : pq_C n m K Z w gr h) {T : Nat} (hT : T ≤ 30) : ∀ (d N k B : Nat) (s : Int32) (z : Int64) (c g : pq_Pg), k + d = T → d < N → B + d < 2 ^ 27 → pq_Wb n m B c → pq_R 4 w n m c g → c 21 = 0 →
    ∃ g', zw_it (fun (k28 : (Int32 × Int32 × Int32 × zw_Hp) → Option (Int32 × zw_Hp)) (w : Int32 × Int32 × Int32 × zw_Hp) => B_X9_nights_28 k28 (w.1) (w.2.1) (w.2.2.1) (w.2.2.2)) N (nI T, s, nI k, zw_upR (zw_upL h 31 z) 38 g) = some (pq_nv nx ch K Z w gr n m d s z c, zw_upR (zw_upL h 31 (pq_nz nx d z)) 38 g') := by
  intro d
  induction d with
  | zero =>
    intro N k B s z c g hj hN hB hW hR h21
    obtain ⟨N', rfl⟩ : ∃ N', N = N' + 1 := ⟨N - 1, by omega⟩
    refine ⟨g, ?_⟩
    rw [pq_it_s]
    simp only []
    rw [pq_mnB hx, show k = T by omega, if_pos (Int32.le_refl _)]
    rfl
  | succ d ih =>
    intro N k B s z c g hj hN hB hW hR h21
    obtain ⟨N', rfl⟩ : ∃ N', N = N' + 1 := ⟨N - 1, by omega⟩
    rw [pq_it_s]
    simp only []
    rw [pq_mnB hx, if_neg (nI_ge (by omega) (by omega))]
    have e0 : (zw_upR (zw_upL h 31 z) 38 g).2 31 = z := by
      show (zw_upL h 31 z).2 31 = z
      rw [pq_upL_at, if_pos rfl]
    have e1 : zw_upL (zw_upR (zw_upL h 31 z) 38 g) 31 (nx z) = zw_upR (zw_upL h 31 (nx z)) 38 g := by
      rw [← pq_upL_upL h 31 z (nx z)]
      rfl
    have e2 : (zw_upR (zw_upL h 31 (nx z)) 38 g).2 31 = nx z := by
      show (zw_upL h 31 (nx z)).2 31 = nx z
      rw [pq_upL_at, if_pos rfl]
    rw [e0, e1]
    have hq : ch (nx z) < 24 := (hx.2 (nx z)).2
    have k1 := pq_nf_keep (K := K) (Z := Z) (w := w) (gr := gr) hn hm hZ hg hW (ch (nx z))
    have hC' : pq_C n m K Z w gr (zw_upL h 31 (nx z)) := hC
    simp only [pq_nv, pq_nz]
    generalize ch (nx z) = q at hq k1 ⊢
    have dz : ∀ dd a b : Nat, dd ≤ 9 → a ≤ 9 → b ≤ 9 → pq_nf K Z w gr n m q c = (pq_fo K Z w gr n m dd a b c).2 → ∃ g', B_X9_nights_114 (zw_it (fun (k28 : (Int32 × Int32 × Int32 × zw_Hp) → Option (Int32 × zw_Hp)) (w : Int32 × Int32 × Int32 × zw_Hp) => B_X9_nights_28 k28 (w.1) (w.2.1) (w.2.2.1) (w.2.2.2)) N') (nI T) s (nI k) (nI (100 * dd + 10 * a + b)) (zw_upR (zw_upL h 31 (nx z)) 38 g) = some (pq_nv nx ch K Z w gr n m d (s + pq_nf K Z w gr n m q c 18) (nx z) (pq_nf K Z w gr n m q c), zw_upR (zw_upL h 31 (pq_nz nx d (nx z))) 38 g') := by
      intro dd a b hd ha hb he
      obtain ⟨g1, e4, R1⟩ := pq_does (show B < 2 ^ 29 by omega) hn hm hC' hZ hW hR h21 hd ha hb
      unfold B_X9_nights_114
      rw [e4]
      simp only [Option.bind_some, zw_nm, nI_1]
      rw [if_pos (show zw_ok (18 : Int32) 21 = true by decide), show (18 : Int32).toNatClampNeg = 18 from rfl, pq_mp, R1.2.2 18 (by omega) (by omega), ← he]
      rw [← he] at R1
      exact ih N' (k + 1) (B + 1) _ (nx z) _ g1 (by omega) (by omega) (by omega) k1.1 R1 (by rw [k1.2]; exact h21)
    by_cases h4 : q < 4
    · rw [if_neg (show ¬ (4 : Int32) ≤ nI q from nI_ge (a := q) (b := 4) h4 (by decide))]
      have := dz 1 q (q + 1) (by omega) (by omega) (by omega) (by unfold pq_nf; rw [if_pos h4])
      rw [show 100 * 1 + 10 * q + (q + 1) = 101 + 11 * q by omega, ← nI_add, ← pk_mul] at this
      exact this
    · rw [if_pos (show (4 : Int32) ≤ nI q from nI_le (a := 4) (b := q) (by omega) (by omega))]
      by_cases h8 : q < 8
      · rw [if_neg (show ¬ (8 : Int32) ≤ nI q from nI_ge (a := q) (b := 8) h8 (by decide))]
        have := dz 3 0 (q - 4) (by omega) (by omega) (by omega) (by unfold pq_nf; rw [if_neg h4, if_pos h8])
        rw [show 100 * 3 + 10 * 0 + (q - 4) = 296 + q by omega, ← nI_add] at this
        exact this
      · rw [if_pos (show (8 : Int32) ≤ nI q from nI_le (a := 8) (b := q) (by omega) (by omega))]
        by_cases h12 : q < 12
        · rw [if_neg (show ¬ (12 : Int32) ≤ nI q from nI_ge (a := q) (b := 12) h12 (by decide))]
          have := dz 2 0 (q - 8) (by omega) (by omega) (by omega) (by unfold pq_nf; rw [if_neg h4, if_neg h8, if_pos h12])
          rw [show 100 * 2 + 10 * 0 + (q - 8) = 192 + q by omega, ← nI_add] at this
          exact this
        · rw [if_pos (show (12 : Int32) ≤ nI q from nI_le (a := 12) (b := q) (by omega) (by omega))]
          exact dz 0 0 0 (by omega) (by omega) (by omega) (by unfold pq_nf; rw [if_neg h4, if_neg h8, if_neg h12])
theorem pq_nightsM {n m B : Nat} (hB : B < 2 ^ 26) {h : zw_Hp} {z0 : Int64} (hI : pq_I n m B (zw_upL h 0 z0)) (x1 : Int32) : ∃ h1, M_X9_nights x1 h = some (pq_nightsV h n m x1, h1) ∧ pq_eq (zw_upL h 31 (pq_nightsZ h x1)) h1 := by
  have e0 : pq_eq h (zw_up h 31 0 0) := pq_eq_up h 0 (by decide)
  have hI2 : pq_I n m B (zw_upL (zw_up h 31 0 0) 0 z0) := pq_I_eq hI (pq_eq_up (zw_upL h 0 z0) 0 (by decide))
  unfold M_X9_nights pq_nightsV pq_nightsZ
  simp only [zw_nm]
  have e1 : M_X9_in x1.toInt64 1 30 (zw_up h 31 0 0) = some (if 1 ≤ x1 ∧ x1 ≤ 30 then 1 else 0) := pq_in x1 1 30 _
  rw [e1]
  simp only [Option.bind_some]
  rcases pq_rng x1 (a := 1) (b := 30) (by decide) (by decide) with ⟨a1, a2⟩ | ⟨j, a1, a2, a3, a4⟩
  · have a1' : ¬ (1 ≤ x1 ∧ x1 ≤ 30) := a1
    exact ⟨_, by rw [if_neg a1', if_neg a1', if_pos rfl], by rw [if_neg a1', pq_upL_id]; exact e0⟩
  · have a4' : 1 ≤ x1 ∧ x1 ≤ 30 := a4
    rw [if_pos a4', if_pos a4', if_pos a4', if_neg pq_10, a3, nI_clamp (by omega), pq_mbegin]
    simp only [Option.bind_some]
    unfold L_X9_nights_28
    obtain ⟨p1, hn, hm, hZ, hg, p6⟩ := hI2.1
    obtain ⟨n1, n2, n3, n4⟩ := hI2.now
    have hC : pq_C n m ((zw_up h 31 0 0).1 7) ((zw_up h 31 0 0).1 8) ((zw_up h 31 0 0).1 6 7) ((zw_up h 31 0 0).1 6 6) (zw_up h 31 0 0) := hI2.2.2.1
    have hZ' : ∀ b, b < m → pq_s9 ((zw_up h 31 0 0).1 8 b) := hZ
    have hg' : pq_s9 ((zw_up h 31 0 0).1 6 6) := hg
    obtain ⟨g', e⟩ := pq_mnL pq_nHx hn hm hZ' hg' hC (T := j) a2 j 600 0 B 0 (h.2 31) (pq_cg 9 (zw_up h 31 0 0)) (pq_b21 ((zw_up h 31 0 0).1 37) ((zw_up h 31 0 0).1 38) 21) (by omega) (by omega) (by omega) n1 (pq_R_b21 hn hm n3) n4
    have e9 : zw_upL (zw_up h 31 0 0) 31 (h.2 31) = zw_up h 31 0 0 := pq_upL_id (zw_up h 31 0 0) 31
    rw [e9] at e
    have e' : zw_it (fun (k28 : (Int32 × Int32 × Int32 × zw_Hp) → Option (Int32 × zw_Hp)) (w : Int32 × Int32 × Int32 × zw_Hp) => B_X9_nights_28 k28 (w.1) (w.2.1) (w.2.2.1) (w.2.2.2)) 600 (nI j, 0, 0, zw_upR (zw_up h 31 0 0) 38 (pq_b21 ((zw_up h 31 0 0).1 37) ((zw_up h 31 0 0).1 38) 21)) = _ := e
    rw [e', pq_eq_cg e0, (pq_row678 e0).1, (pq_row678 e0).2.1, (pq_row678 e0).2.2]
    exact ⟨_, rfl, pq_eq_tr (pq_eq_up (zw_upL h 31 _) 0 (show pq_rl 31 0 = false by decide)) (pq_eq_upR _ g' pq_rl_38)⟩
