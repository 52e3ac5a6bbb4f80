/-! scenes laid by and fetched -/
theorem pq_nmG {α β : Type} {a : α} {f : α → Option β} {r : Option β} (h : ∀ x, x = a → f x = r) : zw_nm a f = r := h a rfl
def pq_stp (row : pq_Pg) (base : Nat) (c : pq_Pg) (j : Nat) : pq_Pg := fun k => if base ≤ k ∧ k < base + j then c (k - base) else row k
theorem pq_stp_s (row : pq_Pg) (base : Nat) (c : pq_Pg) (j : Nat) : upd (pq_stp row base c j) (base + j) (c j) = pq_stp row base c (j + 1) := by
  funext k
  unfold pq_stp upd
  by_cases h1 : k = base + j
  · subst h1
    simp
  · rw [if_neg h1]
    show (if base ≤ k ∧ k < base + j then c (k - base) else row k) = _
    by_cases h2 : base ≤ k ∧ k < base + j
    · rw [if_pos h2, if_pos (by omega)]
    · rw [if_neg h2, if_neg (by omega)]
theorem pq_upR_row (h : zw_Hp) (i : Nat) (g : pq_Pg) : (zw_upR h i g).1 i = g := if_pos rfl
theorem pq_up_row (h : zw_Hp) (i k : Nat) (v : Int32) : (zw_up h i k v).1 i = upd (h.1 i) k v := if_pos rfl
theorem pq_hasRow {t r : Nat} (ht : t = 20 ∨ t = 22) (hr : r * 21 + 21 ≤ zw_shl t) (h : zw_Hp) : M_X5_hasRow t (nI r) h = some 1 := by
  unfold M_X5_hasRow
  rcases ht with rfl | rfl
  · have : r < 14 := by have : r * 21 + 21 ≤ 294 := hr; omega
    rw [if_neg (nI_pos (by omega)), if_neg (show ¬ (Int32.ofNat (zw_shl 20)) / 21 ≤ nI r from nI_ge (a := r) (b := 14) this (by decide))]
  · have : r < 2 := by have : r * 21 + 21 ≤ 42 := hr; omega
    rw [if_neg (nI_pos (by omega)), if_neg (show ¬ (Int32.ofNat (zw_shl 22)) / 21 ≤ nI r from nI_ge (a := r) (b := 2) this (by decide))]
theorem pq_store {t r : Nat} (ht : t = 20 ∨ t = 22) (hr : r * 21 + 21 ≤ zw_shl t) (h : zw_Hp) : M_X5_store t 9 (nI r) h = some (zw_upR h (t + 1) (pq_stp (h.1 (t + 1)) (r * 21) (pq_cg 9 h) 21)) := by
  unfold M_X5_store
  rw [pq_hasRow ht hr]
  simp only [Option.bind_some]
  have hL : zw_shl t ≤ 294 := by rcases ht with rfl | rfl <;> decide
  have e0 : nI r * 21 = nI (r * 21) := pk_mul r 21
  have a5 : nI (r * 21) + 5 = nI (r * 21 + 5) := nI_add (r * 21) 5
  have a9 : nI (r * 21) + 9 = nI (r * 21 + 9) := nI_add (r * 21) 9
  have a13 : nI (r * 21) + 13 = nI (r * 21 + 13) := nI_add (r * 21) 13
  have a17 : nI (r * 21) + 17 = nI (r * 21 + 17) := nI_add (r * 21) 17
  have a18 : nI (r * 21) + 18 = nI (r * 21 + 18) := nI_add (r * 21) 18
  have a19 : nI (r * 21) + 19 = nI (r * 21 + 19) := nI_add (r * 21) 19
  have a20 : nI (r * 21) + 20 = nI (r * 21 + 20) := nI_add (r * 21) 20
  have n5 : (5 : Int32).toNatClampNeg = 5 := rfl
  have n4 : (4 : Int32).toNatClampNeg = 4 := rfl
  have n0 : (0 : Int32).toNatClampNeg = 0 := rfl
  have c0 : (nI (r * 21)).toNatClampNeg = r * 21 := nI_clamp (by omega)
  have c5 : (nI (r * 21 + 5)).toNatClampNeg = r * 21 + 5 := nI_clamp (by omega)
  have c9 : (nI (r * 21 + 9)).toNatClampNeg = r * 21 + 9 := nI_clamp (by omega)
  have c13 : (nI (r * 21 + 13)).toNatClampNeg = r * 21 + 13 := nI_clamp (by omega)
  have c17 : (nI (r * 21 + 17)).toNatClampNeg = r * 21 + 17 := nI_clamp (by omega)
  have c18 : (nI (r * 21 + 18)).toNatClampNeg = r * 21 + 18 := nI_clamp (by omega)
  have c19 : (nI (r * 21 + 19)).toNatClampNeg = r * 21 + 19 := nI_clamp (by omega)
  have c20 : (nI (r * 21 + 20)).toNatClampNeg = r * 21 + 20 := nI_clamp (by omega)
  rw [if_neg pq_10, e0]
  refine pq_nmG (fun y4 ey => ?_)
  subst ey
  rw [a5, a9, a13, a17, a18, a19, a20, n0, n5, n4, c0, c5, c9, c13, c17, c18, c19, c20]
  rw [if_pos ⟨by decide, nI_pos (by omega), by decide, by omega, by omega⟩]
  refine pq_nmG (fun h7 e7 => ?_)
  rw [if_pos ⟨by decide, nI_pos (by omega), by decide, by omega, by omega⟩]
  refine pq_nmG (fun h10 e10 => ?_)
  rw [if_pos ⟨by decide, nI_pos (by omega), by decide, by omega, by omega⟩]
  refine pq_nmG (fun h13 e13 => ?_)
  rw [if_pos ⟨by decide, nI_pos (by omega), by decide, by omega, by omega⟩]
  refine pq_nmG (fun h16 e16 => ?_)
  rw [if_pos (pq_ok_nI (by omega) (by omega))]
  refine pq_nmG (fun h19 e19 => ?_)
  rw [if_pos (pq_ok_nI (by omega) (by omega))]
  refine pq_nmG (fun h22 e22 => ?_)
  rw [if_pos (pq_ok_nI (by omega) (by omega))]
  refine pq_nmG (fun h25 e25 => ?_)
  rw [if_pos (pq_ok_nI (by omega) (by omega))]
  refine pq_nmG (fun h28 e28 => ?_)
  have t9 : ∀ a, a ≤ 13 → a ≠ t + 1 := fun a ha => by rcases ht with rfl | rfl <;> omega
  have o7 : ∀ a, a ≠ t + 1 → h7.1 a = h.1 a := fun a ha => by rw [e7, pq_upR_off _ _ ha]
  have o10 : ∀ a, a ≠ t + 1 → h10.1 a = h.1 a := fun a ha => by rw [e10, pq_upR_off _ _ ha, o7 a ha]
  have o13 : ∀ a, a ≠ t + 1 → h13.1 a = h.1 a := fun a ha => by rw [e13, pq_upR_off _ _ ha, o10 a ha]
  have o16 : ∀ a, a ≠ t + 1 → h16.1 a = h.1 a := fun a ha => by rw [e16, pq_upR_off _ _ ha, o13 a ha]
  have o19 : ∀ a, a ≠ t + 1 → h19.1 a = h.1 a := fun a ha => by rw [e19, pq_up_off _ ha, o16 a ha]
  have o22 : ∀ a, a ≠ t + 1 → h22.1 a = h.1 a := fun a ha => by rw [e22, pq_up_off _ ha, o19 a ha]
  have o25 : ∀ a, a ≠ t + 1 → h25.1 a = h.1 a := fun a ha => by rw [e25, pq_up_off _ ha, o22 a ha]
  have o28 : ∀ a, a ≠ t + 1 → h28.1 a = h.1 a := fun a ha => by rw [e28, pq_up_off _ ha, o25 a ha]
  have r7 : h7.1 (t + 1) = va_cpy (h.1 10) (h.1 (t + 1)) 0 (r * 21) 5 := by rw [e7, pq_upR_row]
  have r10 : h10.1 (t + 1) = va_cpy (h.1 11) (h7.1 (t + 1)) 0 (r * 21 + 5) 4 := by rw [e10, pq_upR_row, o7 11 (t9 11 (by omega))]
  have r13 : h13.1 (t + 1) = va_cpy (h.1 12) (h10.1 (t + 1)) 0 (r * 21 + 9) 4 := by rw [e13, pq_upR_row, o10 12 (t9 12 (by omega))]
  have r16 : h16.1 (t + 1) = va_cpy (h.1 13) (h13.1 (t + 1)) 0 (r * 21 + 13) 4 := by rw [e16, pq_upR_row, o13 13 (t9 13 (by omega))]
  have r19 : h19.1 (t + 1) = upd (h16.1 (t + 1)) (r * 21 + 17) (h.1 9 5) := by rw [e19, pq_up_row, o16 9 (t9 9 (by omega))]
  have r22 : h22.1 (t + 1) = upd (h19.1 (t + 1)) (r * 21 + 18) (h.1 9 6) := by rw [e22, pq_up_row, o19 9 (t9 9 (by omega))]
  have r25 : h25.1 (t + 1) = upd (h22.1 (t + 1)) (r * 21 + 19) (h.1 9 7) := by rw [e25, pq_up_row, o22 9 (t9 9 (by omega))]
  have r28 : h28.1 (t + 1) = upd (h25.1 (t + 1)) (r * 21 + 20) (h.1 9 8) := by rw [e28, pq_up_row, o25 9 (t9 9 (by omega))]
  have s28 : h28.2 = h.2 := by rw [e28, e25, e22, e19, e16, e13, e10, e7]; rfl
  congr 1
  refine pq_hext (fun a b => ?_) s28
  rw [pq_upR_at]
  by_cases q : a = t + 1
  · subst q
    rw [if_pos rfl]
    unfold pq_stp
    by_cases z : r * 21 ≤ b ∧ b < r * 21 + 21
    · rw [if_pos z]
      obtain ⟨j, rfl⟩ : ∃ j, b = r * 21 + j := ⟨b - r * 21, by omega⟩
      rw [show r * 21 + j - r * 21 = j by omega]
      unfold pq_cg
      by_cases j5 : j < 5
      · rw [if_pos j5, r28, pk_un (by omega), r25, pk_un (by omega), r22, pk_un (by omega), r19, pk_un (by omega), r16, pk_cpy_out (by omega), r13, pk_cpy_out (by omega), r10, pk_cpy_out (by omega), r7, pk_cpy_in (by omega) (by omega)]
        show h.1 10 (0 + (r * 21 + j - r * 21)) = h.1 10 (j)
        rw [show 0 + (r * 21 + j - r * 21) = j by omega]
      · rw [if_neg j5]
        by_cases j9 : j < 9
        · rw [if_pos j9, r28, pk_un (by omega), r25, pk_un (by omega), r22, pk_un (by omega), r19, pk_un (by omega), r16, pk_cpy_out (by omega), r13, pk_cpy_out (by omega), r10, pk_cpy_in (by omega) (by omega)]
          show h.1 11 (0 + (r * 21 + j - (r * 21 + 5))) = h.1 11 (j - 5)
          rw [show 0 + (r * 21 + j - (r * 21 + 5)) = j - 5 by omega]
        · rw [if_neg j9]
          by_cases j13 : j < 13
          · rw [if_pos j13, r28, pk_un (by omega), r25, pk_un (by omega), r22, pk_un (by omega), r19, pk_un (by omega), r16, pk_cpy_out (by omega), r13, pk_cpy_in (by omega) (by omega)]
            show h.1 12 (0 + (r * 21 + j - (r * 21 + 9))) = h.1 12 (j - 9)
            rw [show 0 + (r * 21 + j - (r * 21 + 9)) = j - 9 by omega]
          · rw [if_neg j13]
            by_cases j17 : j < 17
            · rw [if_pos j17, r28, pk_un (by omega), r25, pk_un (by omega), r22, pk_un (by omega), r19, pk_un (by omega), r16, pk_cpy_in (by omega) (by omega)]
              show h.1 13 (0 + (r * 21 + j - (r * 21 + 13))) = h.1 13 (j - 13)
              rw [show 0 + (r * 21 + j - (r * 21 + 13)) = j - 13 by omega]
            · rw [if_neg j17]
              rcases (show j = 17 ∨ j = 18 ∨ j = 19 ∨ j = 20 by omega) with rfl | rfl | rfl | rfl
              · rw [r28, pk_un (by omega), r25, pk_un (by omega), r22, pk_un (by omega), r19, pk_us]
              · rw [r28, pk_un (by omega), r25, pk_un (by omega), r22, pk_us]
              · rw [r28, pk_un (by omega), r25, pk_us]
              · rw [r28, pk_us]
    · rw [if_neg z, r28, pk_un (by omega), r25, pk_un (by omega), r22, pk_un (by omega), r19, pk_un (by omega), r16, pk_cpy_out (by omega), r13, pk_cpy_out (by omega), r10, pk_cpy_out (by omega), r7, pk_cpy_out (by omega)]
  · rw [if_neg q, o28 a q]
def pq_ftp (row : pq_Pg) (base : Nat) (c : pq_Pg) : pq_Pg := fun k => if k = 21 then c 21 else row (base + k)
theorem pq_fetch {t r : Nat} (ht : t = 20 ∨ t = 22) (hr : r * 21 + 21 ≤ zw_shl t) (h : zw_Hp) : M_X5_fetch t 9 (nI r) h = some (pq_cp 9 (pq_ftp (h.1 (t + 1)) (r * 21) (pq_cg 9 h)) h) := by
  unfold M_X5_fetch
  rw [pq_hasRow ht hr]
  simp only [Option.bind_some]
  have hL : zw_shl t ≤ 294 := by rcases ht with rfl | rfl <;> decide
  have e0 : nI r * 21 = nI (r * 21) := pk_mul r 21
  have a5 : nI (r * 21) + 5 = nI (r * 21 + 5) := nI_add (r * 21) 5
  have a9 : nI (r * 21) + 9 = nI (r * 21 + 9) := nI_add (r * 21) 9
  have a13 : nI (r * 21) + 13 = nI (r * 21 + 13) := nI_add (r * 21) 13
  have a17 : nI (r * 21) + 17 = nI (r * 21 + 17) := nI_add (r * 21) 17
  have a18 : nI (r * 21) + 18 = nI (r * 21 + 18) := nI_add (r * 21) 18
  have a19 : nI (r * 21) + 19 = nI (r * 21 + 19) := nI_add (r * 21) 19
  have a20 : nI (r * 21) + 20 = nI (r * 21 + 20) := nI_add (r * 21) 20
  have n5 : (5 : Int32).toNatClampNeg = 5 := rfl
  have n4 : (4 : Int32).toNatClampNeg = 4 := rfl
  have n0 : (0 : Int32).toNatClampNeg = 0 := rfl
  have c0 : (nI (r * 21)).toNatClampNeg = r * 21 := nI_clamp (by omega)
  have c5 : (nI (r * 21 + 5)).toNatClampNeg = r * 21 + 5 := nI_clamp (by omega)
  have c9 : (nI (r * 21 + 9)).toNatClampNeg = r * 21 + 9 := nI_clamp (by omega)
  have c13 : (nI (r * 21 + 13)).toNatClampNeg = r * 21 + 13 := nI_clamp (by omega)
  have c17 : (nI (r * 21 + 17)).toNatClampNeg = r * 21 + 17 := nI_clamp (by omega)
  have c18 : (nI (r * 21 + 18)).toNatClampNeg = r * 21 + 18 := nI_clamp (by omega)
  have c19 : (nI (r * 21 + 19)).toNatClampNeg = r * 21 + 19 := nI_clamp (by omega)
  have c20 : (nI (r * 21 + 20)).toNatClampNeg = r * 21 + 20 := nI_clamp (by omega)
  rw [if_neg pq_10, e0]
  refine pq_nmG (fun y4 ey => ?_)
  subst ey
  rw [a5, a9, a13, a17, a18, a19, a20, n0, n5, n4, c0, c5, c9, c13, c17, c18, c19, c20]
  rw [if_pos ⟨nI_pos (by omega), by decide, by decide, by omega, by omega⟩]
  refine pq_nmG (fun h7 e7 => ?_)
  rw [if_pos ⟨nI_pos (by omega), by decide, by decide, by omega, by omega⟩]
  refine pq_nmG (fun h10 e10 => ?_)
  rw [if_pos ⟨nI_pos (by omega), by decide, by decide, by omega, by omega⟩]
  refine pq_nmG (fun h13 e13 => ?_)
  rw [if_pos ⟨nI_pos (by omega), by decide, by decide, by omega, by omega⟩]
  refine pq_nmG (fun h16 e16 => ?_)
  rw [if_pos (pq_ok_nI (by omega) (by omega))]
  refine pq_nmG (fun h19 e19 => ?_)
  rw [if_pos (pq_ok_nI (by omega) (by omega))]
  refine pq_nmG (fun h22 e22 => ?_)
  rw [if_pos (pq_ok_nI (by omega) (by omega))]
  refine pq_nmG (fun h25 e25 => ?_)
  rw [if_pos (pq_ok_nI (by omega) (by omega))]
  refine pq_nmG (fun h28 e28 => ?_)
  have t1 : 13 < t + 1 := by rcases ht with rfl | rfl <;> omega
  generalize hrow : h.1 (t + 1) = row
  have w7 : h7.1 (t + 1) = row := by rw [e7, pq_upR_off _ _ (by omega), hrow]
  have w10 : h10.1 (t + 1) = row := by rw [e10, pq_upR_off _ _ (by omega), w7]
  have w13 : h13.1 (t + 1) = row := by rw [e13, pq_upR_off _ _ (by omega), w10]
  have w16 : h16.1 (t + 1) = row := by rw [e16, pq_upR_off _ _ (by omega), w13]
  have w19 : h19.1 (t + 1) = row := by rw [e19, pq_up_off _ (by omega), w16]
  have w22 : h22.1 (t + 1) = row := by rw [e22, pq_up_off _ (by omega), w19]
  have w25 : h25.1 (t + 1) = row := by rw [e25, pq_up_off _ (by omega), w22]
  have s28 : h28.2 = h.2 := by rw [e28, e25, e22, e19, e16, e13, e10, e7]; rfl
  rw [w7] at e10
  rw [w10] at e13
  rw [w13] at e16
  rw [w16] at e19
  rw [w19] at e22
  rw [w22] at e25
  rw [w25] at e28
  rw [hrow] at e7
  have o28 : ∀ a, a ≠ 9 → a ≠ 10 → a ≠ 11 → a ≠ 12 → a ≠ 13 → h28.1 a = h.1 a := fun a z9 z10 z11 z12 z13 => by
    rw [e28, pq_up_off _ z9, e25, pq_up_off _ z9, e22, pq_up_off _ z9, e19, pq_up_off _ z9, e16, pq_upR_off _ _ z13, e13, pq_upR_off _ _ z12, e10, pq_upR_off _ _ z11, e7, pq_upR_off _ _ z10]
  have p9 : h28.1 9 = upd (upd (upd (upd (h.1 9) 5 (row (r * 21 + 17))) 6 (row (r * 21 + 18))) 7 (row (r * 21 + 19))) 8 (row (r * 21 + 20)) := by
    rw [e28, pq_up_row, e25, pq_up_row, e22, pq_up_row, e19, pq_up_row, e16, pq_upR_off _ _ (by decide), e13, pq_upR_off _ _ (by decide), e10, pq_upR_off _ _ (by decide), e7, pq_upR_off _ _ (by decide)]
  have p10 : h28.1 10 = va_cpy row (h.1 10) (r * 21) 0 5 := by
    rw [e28, pq_up_off _ (by decide), e25, pq_up_off _ (by decide), e22, pq_up_off _ (by decide), e19, pq_up_off _ (by decide), e16, pq_upR_off _ _ (by decide), e13, pq_upR_off _ _ (by decide), e10, pq_upR_off _ _ (by decide), e7, pq_upR_row]
  have p11 : h28.1 11 = va_cpy row (h.1 11) (r * 21 + 5) 0 4 := by
    rw [e28, pq_up_off _ (by decide), e25, pq_up_off _ (by decide), e22, pq_up_off _ (by decide), e19, pq_up_off _ (by decide), e16, pq_upR_off _ _ (by decide), e13, pq_upR_off _ _ (by decide), e10, pq_upR_row, e7, pq_upR_off _ _ (by decide)]
  have p12 : h28.1 12 = va_cpy row (h.1 12) (r * 21 + 9) 0 4 := by
    rw [e28, pq_up_off _ (by decide), e25, pq_up_off _ (by decide), e22, pq_up_off _ (by decide), e19, pq_up_off _ (by decide), e16, pq_upR_off _ _ (by decide), e13, pq_upR_row, e10, pq_upR_off _ _ (by decide), e7, pq_upR_off _ _ (by decide)]
  have p13 : h28.1 13 = va_cpy row (h.1 13) (r * 21 + 13) 0 4 := by
    rw [e28, pq_up_off _ (by decide), e25, pq_up_off _ (by decide), e22, pq_up_off _ (by decide), e19, pq_up_off _ (by decide), e16, pq_upR_row, e13, pq_upR_off _ _ (by decide), e10, pq_upR_off _ _ (by decide), e7, pq_upR_off _ _ (by decide)]
  congr 1
  refine pq_hext (fun a b => ?_) s28
  rw [pq_cp_at]
  by_cases h1 : 9 ≤ a ∧ pq_ix (a - 9) b < 22
  · rw [if_pos h1]
    obtain ⟨o, rfl⟩ : ∃ o, a = 9 + o := ⟨a - 9, by omega⟩
    rw [Nat.add_sub_cancel_left] at h1 ⊢
    unfold pq_ftp
    rcases pq_ix_cases h1.2 with ⟨rfl, h2, h3, e⟩ | ⟨rfl, h2, e⟩ | ⟨rfl, h2, e⟩ | ⟨rfl, h2, e⟩ | ⟨rfl, h2, e⟩
    · rw [e, show 9 + 0 = 9 from rfl, p9]
      rcases (show b = 5 ∨ b = 6 ∨ b = 7 ∨ b = 8 ∨ b = 9 by omega) with rfl | rfl | rfl | rfl | rfl
      · rw [pk_un (by omega), pk_un (by omega), pk_un (by omega), pk_us, if_neg (by omega)]
      · rw [pk_un (by omega), pk_un (by omega), pk_us, if_neg (by omega)]
      · rw [pk_un (by omega), pk_us, if_neg (by omega)]
      · rw [pk_us, if_neg (by omega)]
      · rw [pk_un (by omega), pk_un (by omega), pk_un (by omega), pk_un (by omega), if_pos rfl]
        rfl
    · rw [e, show 9 + 1 = 10 from rfl, p10, pk_cpy_in (by omega) (by omega), if_neg (by omega)]
      congr 1
    · rw [e, show 9 + 2 = 11 from rfl, p11, pk_cpy_in (by omega) (by omega), if_neg (by omega)]
      congr 1
      omega
    · rw [e, show 9 + 3 = 12 from rfl, p12, pk_cpy_in (by omega) (by omega), if_neg (by omega)]
      congr 1
      omega
    · rw [e, show 9 + 4 = 13 from rfl, p13, pk_cpy_in (by omega) (by omega), if_neg (by omega)]
      congr 1
      omega
  · rw [if_neg h1]
    by_cases z9 : a = 9
    · subst z9
      have : ¬ (5 ≤ b ∧ b ≤ 9) := fun q => h1 ⟨by omega, by simp [pq_ix, q]; omega⟩
      rw [p9, pk_un (by omega), pk_un (by omega), pk_un (by omega), pk_un (by omega)]
    · by_cases z10 : a = 10
      · subst z10
        have : ¬ b < 5 := fun q => h1 ⟨by omega, by simp [pq_ix, q]; omega⟩
        rw [p10, pk_cpy_out (by omega)]
      · by_cases z11 : a = 11
        · subst z11
          have : ¬ b < 4 := fun q => h1 ⟨by omega, by simp [pq_ix, q]; omega⟩
          rw [p11, pk_cpy_out (by omega)]
        · by_cases z12 : a = 12
          · subst z12
            have : ¬ b < 4 := fun q => h1 ⟨by omega, by simp [pq_ix, q]; omega⟩
            rw [p12, pk_cpy_out (by omega)]
          · by_cases z13 : a = 13
            · subst z13
              have : ¬ b < 4 := fun q => h1 ⟨by omega, by simp [pq_ix, q]; omega⟩
              rw [p13, pk_cpy_out (by omega)]
            · rw [o28 a z9 z10 z11 z12 z13]
/-! pages by their first 21 numbers -/
theorem pq_Sn_cg {n m B : Nat} (hn : n ≤ 5) (hm : m ≤ 4) {w : Int32} {f g f' g' : pq_Pg} (h : pq_Sn n m B w f g) (ef : ∀ k, k < 21 → f' k = f k) (eg : ∀ k, k < 21 → g' k = g k) : pq_Sn n m B w f' g' := by
  have ex : ∀ k, k < 21 → pq_xr f' k = pq_xr f k := fun k hk => by
    unfold pq_xr
    rw [if_neg (by omega), if_neg (by omega)]; exact ef k hk
  obtain ⟨⟨h1, ⟨w1, w2, w3, w4⟩, ⟨⟨q, q1, q2⟩, ⟨ff, f1, f2⟩⟩, ⟨⟨t, t1, t2⟩, ⟨u, u1, u2⟩⟩⟩, h8, ⟨r1, r2, r3⟩⟩ := h
  refine ⟨⟨h1.of (fun s hs => ex s (by omega)), ⟨fun a ha => by rw [ex _ (by omega)]; exact w1 a ha, fun a ha hma => by rw [ex _ (by omega)]; exact w2 a ha hma, fun a a' ha ha' hne he => by rw [ex _ (by omega), ex _ (by omega)] at he; rw [ex _ (by omega)]; exact w3 a a' ha ha' hne he, fun a ha => by rw [ex _ (by omega)]; exact w4 a ha⟩, ⟨⟨q, q1, by rw [ex _ (by omega)]; exact q2⟩, ⟨ff, f1, by rw [ex _ (by omega)]; exact f2⟩⟩, ⟨⟨t, t1, by rw [ex _ (by omega)]; exact t2⟩, ⟨u, u1, by rw [ex _ (by omega)]; exact u2⟩⟩⟩, pq_W8_of hm h8 (fun k k1 k2 => ex k (by omega)), ⟨fun s hs => by rw [eg _ (by omega), ex _ (by omega)]; exact r1 s hs, fun b hb => ⟨fun z => by omega, fun z => ?_⟩, fun k k1 k2 => by rw [eg _ (by omega), ex _ (by omega)]; exact r3 k k1 k2⟩⟩
  rw [eg _ (by omega), eg _ (by omega), eg _ (by omega), ex _ (by omega), ex _ (by omega), ex _ (by omega)]
  exact (r2 b hb).2 z
