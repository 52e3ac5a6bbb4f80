section
variable {p : Program} {l : Launch} {e : Env} {s : State} {m : MethodId} {args : Array Value} {below : List Frame} {meth : Method} {c : Code} {E : zw_En}
noncomputable def M_J6_bitCount_0f7a4 (x0 : Int32) (h : zw_Hp) : Option (Int32) :=
  zw_nm (x0 - ((((x0).toUInt32 >>> (((1 : Int32)).toUInt32 &&& Int32.toUInt32 31)).toInt32) &&& (1431655765 : Int32))) (fun y1 => zw_nm ((y1 &&& (858993459 : Int32)) + ((((y1).toUInt32 >>> (((2 : Int32)).toUInt32 &&& Int32.toUInt32 31)).toInt32) &&& (858993459 : Int32))) (fun y3 => zw_nm ((y3 + (((y3).toUInt32 >>> (((4 : Int32)).toUInt32 &&& Int32.toUInt32 31)).toInt32)) &&& (252645135 : Int32)) (fun y5 => zw_nm (y5 + (((y5).toUInt32 >>> (((8 : Int32)).toUInt32 &&& Int32.toUInt32 31)).toInt32)) (fun y7 => zw_nm (y7 + (((y7).toUInt32 >>> (((16 : Int32)).toUInt32 &&& Int32.toUInt32 31)).toInt32)) (fun y9 => some (y9 &&& (63 : Int32)))))))
set_option maxRecDepth 100000 in
set_option maxHeartbeats 4000000 in
theorem R_J6_bitCount_0f7a4 (ok : zw_Ok E) (hI : ∀ i, i < 48 → i ∈ E.2.2.1) {x0 : Int32} {h : zw_Hp} {z : Int32} (hM : M_J6_bitCount_0f7a4 x0 h = some z) : zw_Ct l E mt_J6_bitCount_0f7a4 [.int x0] h (some (.int z)) h := by
  unfold M_J6_bitCount_0f7a4 at hM
  refine zw_ct (lv0 := [(0, .int x0)]) ok (by decide) rfl (Nat.le_of_ble_eq_true rfl) (fun p e s m args below meth c g hr hlk => ?_)
  replace g : zw_G p E (zw_A E) s m args c RJ6 cJ6_bitCount_0f7a4 1 := g
  show zw_V p l e s m args below meth c E mt_J6_bitCount_0f7a4 1 (some (.int z)) h 0 [(0, .int x0)] [] h
  refine zr_iload_n (q := 1) g 0 dJ6_bitCount_0f7a4_0 rfl rfl rfl ?_
  refine zr_iload_n (q := 2) g 0 dJ6_bitCount_0f7a4_1 rfl rfl rfl ?_
  refine zr_iconst (q := 3) (v := (1 : Int32)) g dJ6_bitCount_0f7a4_2 rfl (by decide) ?_
  refine zr_iushr (q := 4) g dJ6_bitCount_0f7a4_3 rfl ?_
  refine zr_ldcw (q := 7) (v := (1431655765 : Int32)) g dJ6_bitCount_0f7a4_4 rfl zk_J6_265 ?_
  refine zr_iand (q := 8) g dJ6_bitCount_0f7a4_7 rfl ?_
  refine zr_isub (q := 9) g dJ6_bitCount_0f7a4_8 rfl ?_
  obtain ⟨y1, e2, hM⟩ := zw_nm_ex hM
  refine zr_nmi e2 ?_
  refine zr_istore_n (q := 10) (lv' := [(0, .int y1)]) g dJ6_bitCount_0f7a4_9 rfl rfl (by decide) rfl ?_
  refine zr_iload_n (q := 11) g 0 dJ6_bitCount_0f7a4_10 rfl rfl rfl ?_
  refine zr_ldcw (q := 14) (v := (858993459 : Int32)) g dJ6_bitCount_0f7a4_11 rfl zk_J6_266 ?_
  refine zr_iand (q := 15) g dJ6_bitCount_0f7a4_14 rfl ?_
  refine zr_iload_n (q := 16) g 0 dJ6_bitCount_0f7a4_15 rfl rfl rfl ?_
  refine zr_iconst (q := 17) (v := (2 : Int32)) g dJ6_bitCount_0f7a4_16 rfl (by decide) ?_
  refine zr_iushr (q := 18) g dJ6_bitCount_0f7a4_17 rfl ?_
  refine zr_ldcw (q := 21) (v := (858993459 : Int32)) g dJ6_bitCount_0f7a4_18 rfl zk_J6_266 ?_
  refine zr_iand (q := 22) g dJ6_bitCount_0f7a4_21 rfl ?_
  refine zr_iadd (q := 23) g dJ6_bitCount_0f7a4_22 rfl ?_
  obtain ⟨y3, e4, hM⟩ := zw_nm_ex hM
  refine zr_nmi e4 ?_
  refine zr_istore_n (q := 24) (lv' := [(0, .int y3)]) g dJ6_bitCount_0f7a4_23 rfl rfl (by decide) rfl ?_
  refine zr_iload_n (q := 25) g 0 dJ6_bitCount_0f7a4_24 rfl rfl rfl ?_
  refine zr_iload_n (q := 26) g 0 dJ6_bitCount_0f7a4_25 rfl rfl rfl ?_
  refine zr_iconst (q := 27) (v := (4 : Int32)) g dJ6_bitCount_0f7a4_26 rfl (by decide) ?_
  refine zr_iushr (q := 28) g dJ6_bitCount_0f7a4_27 rfl ?_
  refine zr_iadd (q := 29) g dJ6_bitCount_0f7a4_28 rfl ?_
  refine zr_ldcw (q := 32) (v := (252645135 : Int32)) g dJ6_bitCount_0f7a4_29 rfl zk_J6_267 ?_
  refine zr_iand (q := 33) g dJ6_bitCount_0f7a4_32 rfl ?_
  obtain ⟨y5, e6, hM⟩ := zw_nm_ex hM
  refine zr_nmi e6 ?_
  refine zr_istore_n (q := 34) (lv' := [(0, .int y5)]) g dJ6_bitCount_0f7a4_33 rfl rfl (by decide) rfl ?_
  refine zr_iload_n (q := 35) g 0 dJ6_bitCount_0f7a4_34 rfl rfl rfl ?_
  refine zr_iload_n (q := 36) g 0 dJ6_bitCount_0f7a4_35 rfl rfl rfl ?_
  refine zr_bipush (q := 38) (v := (8 : Int32)) g dJ6_bitCount_0f7a4_36 rfl (by decide) ?_
  refine zr_iushr (q := 39) g dJ6_bitCount_0f7a4_38 rfl ?_
  refine zr_iadd (q := 40) g dJ6_bitCount_0f7a4_39 rfl ?_
  obtain ⟨y7, e8, hM⟩ := zw_nm_ex hM
  refine zr_nmi e8 ?_
  refine zr_istore_n (q := 41) (lv' := [(0, .int y7)]) g dJ6_bitCount_0f7a4_40 rfl rfl (by decide) rfl ?_
  refine zr_iload_n (q := 42) g 0 dJ6_bitCount_0f7a4_41 rfl rfl rfl ?_
  refine zr_iload_n (q := 43) g 0 dJ6_bitCount_0f7a4_42 rfl rfl rfl ?_
  refine zr_bipush (q := 45) (v := (16 : Int32)) g dJ6_bitCount_0f7a4_43 rfl (by decide) ?_
  refine zr_iushr (q := 46) g dJ6_bitCount_0f7a4_45 rfl ?_
  refine zr_iadd (q := 47) g dJ6_bitCount_0f7a4_46 rfl ?_
  obtain ⟨y9, e10, hM⟩ := zw_nm_ex hM
  refine zr_nmi e10 ?_
  refine zr_istore_n (q := 48) (lv' := [(0, .int y9)]) g dJ6_bitCount_0f7a4_47 rfl rfl (by decide) rfl ?_
  refine zr_iload_n (q := 49) g 0 dJ6_bitCount_0f7a4_48 rfl rfl rfl ?_
  refine zr_bipush (q := 51) (v := (63 : Int32)) g dJ6_bitCount_0f7a4_49 rfl (by decide) ?_
  refine zr_iand (q := 52) g dJ6_bitCount_0f7a4_51 rfl ?_
  cases hM
  exact zr_iret g hr hlk dJ6_bitCount_0f7a4_52 rfl rfl
noncomputable def M_X2_hasPerson (t : Nat) (x1 : Int32) (h : zw_Hp) : Option (Int32) :=
  if x1 < 0 then (some (0 : Int32)) else (if (h.1 t 2) ≤ x1 then (some (0 : Int32)) else (if (5 : Int32) ≤ x1 then (some (0 : Int32)) else (some (1 : Int32))))
set_option maxRecDepth 100000 in
set_option maxHeartbeats 4000000 in
theorem R_X2_hasPerson {t : Nat} (k_t : t = 3 ∨ t = 6) (ok : zw_Ok E) (hI : ∀ i, i < 48 → i ∈ E.2.2.1) {x1 : Int32} {h : zw_Hp} {z : Int32} (hM : M_X2_hasPerson t x1 h = some z) : zw_Ct l E mt_X2_hasPerson [.ref (E.2.1 t), .int x1] h (some (.int z)) h := by
  unfold M_X2_hasPerson at hM
  refine zw_ct (lv0 := [(0, .ref (E.2.1 t)), (1, .int x1)]) ok (by decide) rfl (Nat.le_of_ble_eq_true rfl) (fun p e s m args below meth c g hr hlk => ?_)
  replace g : zw_G p E (zw_A E) s m args c RX2 cX2_hasPerson 2 := g
  show zw_V p l e s m args below meth c E mt_X2_hasPerson 2 (some (.int z)) h 0 [(0, .ref (E.2.1 t)), (1, .int x1)] [] h
  refine zr_iload_n (q := 1) g 1 dX2_hasPerson_0 rfl rfl rfl ?_
  refine zr_if_lt (q := 4) (tgt := 25) g dX2_hasPerson_1 rfl rfl (fun c1 => ?_) (fun c1 => ?_)
  · replace hM := zw_ift c1 hM
    refine zr_iconst (q := 26) (v := (0 : Int32)) g dX2_hasPerson_25 rfl (by decide) ?_
    cases hM
    exact zr_zret g hr hlk (by decide) dX2_hasPerson_26 rfl rfl
  · replace hM := zw_iff c1 hM
    refine zr_iload_n (q := 5) g 1 dX2_hasPerson_4 rfl rfl rfl ?_
    refine zr_aload_n (q := 6) g 0 dX2_hasPerson_5 rfl rfl rfl ?_
    refine zr_geti (q := 9) (k0 := 2) g (hI _ (zb_pl0 k_t)) (zs_pl0 k_t) rfl zf_X2_18 dX2_hasPerson_6 rfl ?_
    refine zr_icmp_ge (q := 12) (tgt := 25) g dX2_hasPerson_9 rfl rfl (fun c2 => ?_) (fun c2 => ?_)
    · replace hM := zw_ift c2 hM
      refine zr_iconst (q := 26) (v := (0 : Int32)) g dX2_hasPerson_25 rfl (by decide) ?_
      cases hM
      exact zr_zret g hr hlk (by decide) dX2_hasPerson_26 rfl rfl
    · replace hM := zw_iff c2 hM
      refine zr_iload_n (q := 13) g 1 dX2_hasPerson_12 rfl rfl rfl ?_
      refine zr_aload_n (q := 14) g 0 dX2_hasPerson_13 rfl rfl rfl ?_
      refine zr_getr (q := 17) (k0 := 0) (j := (t + 1)) g (hI _ (zb_pl0 k_t)) (zs_pl0 k_t) rfl zf_X2_9 dX2_hasPerson_14 rfl ?_
      refine zr_alen (q := 18) (v := (5 : Int32)) g (hI _ (zb_pl1 k_t)) (zs_pl1 k_t) rfl dX2_hasPerson_17 rfl ?_
      refine zr_icmp_ge (q := 21) (tgt := 25) g dX2_hasPerson_18 rfl rfl (fun c3 => ?_) (fun c3 => ?_)
      · replace hM := zw_ift c3 hM
        refine zr_iconst (q := 26) (v := (0 : Int32)) g dX2_hasPerson_25 rfl (by decide) ?_
        cases hM
        exact zr_zret g hr hlk (by decide) dX2_hasPerson_26 rfl rfl
      · replace hM := zw_iff c3 hM
        refine zr_iconst (q := 22) (v := (1 : Int32)) g dX2_hasPerson_21 rfl (by decide) ?_
        refine zr_goto (tgt := 26) g dX2_hasPerson_22 rfl ?_
        cases hM
        exact zr_zret g hr hlk (by decide) dX2_hasPerson_26 rfl rfl
noncomputable def M_X2_hasBucket (t : Nat) (x1 : Int32) (h : zw_Hp) : Option (Int32) :=
  if x1 < 0 then (some (0 : Int32)) else (if (h.1 t 3) ≤ x1 then (some (0 : Int32)) else (if (4 : Int32) ≤ x1 then (some (0 : Int32)) else (some (1 : Int32))))
set_option maxRecDepth 100000 in
set_option maxHeartbeats 4000000 in
theorem R_X2_hasBucket {t : Nat} (k_t : t = 3 ∨ t = 6) (ok : zw_Ok E) (hI : ∀ i, i < 48 → i ∈ E.2.2.1) {x1 : Int32} {h : zw_Hp} {z : Int32} (hM : M_X2_hasBucket t x1 h = some z) : zw_Ct l E mt_X2_hasBucket [.ref (E.2.1 t), .int x1] h (some (.int z)) h := by
  unfold M_X2_hasBucket at hM
  refine zw_ct (lv0 := [(0, .ref (E.2.1 t)), (1, .int x1)]) ok (by decide) rfl (Nat.le_of_ble_eq_true rfl) (fun p e s m args below meth c g hr hlk => ?_)
  replace g : zw_G p E (zw_A E) s m args c RX2 cX2_hasBucket 2 := g
  show zw_V p l e s m args below meth c E mt_X2_hasBucket 2 (some (.int z)) h 0 [(0, .ref (E.2.1 t)), (1, .int x1)] [] h
  refine zr_iload_n (q := 1) g 1 dX2_hasBucket_0 rfl rfl rfl ?_
  refine zr_if_lt (q := 4) (tgt := 25) g dX2_hasBucket_1 rfl rfl (fun c1 => ?_) (fun c1 => ?_)
  · replace hM := zw_ift c1 hM
    refine zr_iconst (q := 26) (v := (0 : Int32)) g dX2_hasBucket_25 rfl (by decide) ?_
    cases hM
    exact zr_zret g hr hlk (by decide) dX2_hasBucket_26 rfl rfl
  · replace hM := zw_iff c1 hM
    refine zr_iload_n (q := 5) g 1 dX2_hasBucket_4 rfl rfl rfl ?_
    refine zr_aload_n (q := 6) g 0 dX2_hasBucket_5 rfl rfl rfl ?_
    refine zr_geti (q := 9) (k0 := 3) g (hI _ (zb_pl0 k_t)) (zs_pl0 k_t) rfl zf_X2_22 dX2_hasBucket_6 rfl ?_
    refine zr_icmp_ge (q := 12) (tgt := 25) g dX2_hasBucket_9 rfl rfl (fun c2 => ?_) (fun c2 => ?_)
    · replace hM := zw_ift c2 hM
      refine zr_iconst (q := 26) (v := (0 : Int32)) g dX2_hasBucket_25 rfl (by decide) ?_
      cases hM
      exact zr_zret g hr hlk (by decide) dX2_hasBucket_26 rfl rfl
    · replace hM := zw_iff c2 hM
      refine zr_iload_n (q := 13) g 1 dX2_hasBucket_12 rfl rfl rfl ?_
      refine zr_aload_n (q := 14) g 0 dX2_hasBucket_13 rfl rfl rfl ?_
      refine zr_getr (q := 17) (k0 := 1) (j := (t + 2)) g (hI _ (zb_pl0 k_t)) (zs_pl0 k_t) rfl zf_X2_15 dX2_hasBucket_14 rfl ?_
      refine zr_alen (q := 18) (v := (4 : Int32)) g (hI _ (zb_pl2 k_t)) (zs_pl2 k_t) rfl dX2_hasBucket_17 rfl ?_
      refine zr_icmp_ge (q := 21) (tgt := 25) g dX2_hasBucket_18 rfl rfl (fun c3 => ?_) (fun c3 => ?_)
      · replace hM := zw_ift c3 hM
        refine zr_iconst (q := 26) (v := (0 : Int32)) g dX2_hasBucket_25 rfl (by decide) ?_
        cases hM
        exact zr_zret g hr hlk (by decide) dX2_hasBucket_26 rfl rfl
      · replace hM := zw_iff c3 hM
        refine zr_iconst (q := 22) (v := (1 : Int32)) g dX2_hasBucket_21 rfl (by decide) ?_
        refine zr_goto (tgt := 26) g dX2_hasBucket_22 rfl ?_
        cases hM
        exact zr_zret g hr hlk (by decide) dX2_hasBucket_26 rfl rfl
noncomputable def B_X2_openPart_26 (t : Nat) (x1 : Int32) (h : zw_Hp) : Option (Int32 × zw_Hp) :=
  if x1 = (66 : Int32) then (if (4 : Int32) ≤ (h.1 t 3) then (some ((0 : Int32), h)) else (zw_nm (zw_up h t 8 (7 : Int32)) (fun h7 => some ((1 : Int32), h7)))) else (some ((0 : Int32), h))
set_option maxRecDepth 100000 in
set_option maxHeartbeats 4000000 in
theorem U_X2_openPart_26 {t : Nat} (k_t : t = 3 ∨ t = 6) (ok : zw_Ok E) (hI : ∀ i, i < 48 → i ∈ E.2.2.1) (g : zw_G p E (zw_A E) s m args c RX2 cX2_openPart 2) (hr : meth.sig.returnType = some .boolean) (hlk : meth.locks = false) :
    ∀ (x1 : Int32) (h : zw_Hp) (z : Int32 × zw_Hp), B_X2_openPart_26 t x1 h = some z → zw_V p l e s m args below meth c E mt_X2_openPart 2 (some (.int z.1)) z.2 26 [(0, .ref (E.2.1 t)), (1, .int x1)] [] h := by
  intro x1 h z hM
  unfold B_X2_openPart_26 at hM
  refine zr_iload_n (q := 27) g 1 dX2_openPart_26 rfl rfl rfl ?_
  refine zr_bipush (q := 29) (v := (66 : Int32)) g dX2_openPart_27 rfl (by decide) ?_
  refine zr_icmp_ne (q := 32) (tgt := 52) g dX2_openPart_29 rfl rfl (fun c5 => ?_) (fun c5 => ?_)
  · replace hM := zw_iff c5 hM
    refine zr_iconst (q := 53) (v := (0 : Int32)) g dX2_openPart_52 rfl (by decide) ?_
    cases hM
    exact zr_zret g hr hlk (by decide) dX2_openPart_53 rfl rfl
  · replace hM := zw_ift c5 hM
    refine zr_aload_n (q := 33) g 0 dX2_openPart_32 rfl rfl rfl ?_
    refine zr_geti (q := 36) (k0 := 3) g (hI _ (zb_pl0 k_t)) (zs_pl0 k_t) rfl zf_X2_22 dX2_openPart_33 rfl ?_
    refine zr_aload_n (q := 37) g 0 dX2_openPart_36 rfl rfl rfl ?_
    refine zr_getr (q := 40) (k0 := 1) (j := (t + 2)) g (hI _ (zb_pl0 k_t)) (zs_pl0 k_t) rfl zf_X2_15 dX2_openPart_37 rfl ?_
    refine zr_alen (q := 41) (v := (4 : Int32)) g (hI _ (zb_pl2 k_t)) (zs_pl2 k_t) rfl dX2_openPart_40 rfl ?_
    refine zr_icmp_ge (q := 44) (tgt := 52) g dX2_openPart_41 rfl rfl (fun c6 => ?_) (fun c6 => ?_)
    · replace hM := zw_ift c6 hM
      refine zr_iconst (q := 53) (v := (0 : Int32)) g dX2_openPart_52 rfl (by decide) ?_
      cases hM
      exact zr_zret g hr hlk (by decide) dX2_openPart_53 rfl rfl
    · replace hM := zw_iff c6 hM
      refine zr_aload_n (q := 45) g 0 dX2_openPart_44 rfl rfl rfl ?_
      refine zr_bipush (q := 47) (v := (7 : Int32)) g dX2_openPart_45 rfl (by decide) ?_
      obtain ⟨h7, e8, hM⟩ := zw_nm_ex hM
      refine zr_puti (q := 50) (k0 := 8) (h' := h7) g (hI _ (zb_pl0 k_t)) (zs_pl0 k_t) rfl zp_X2_37 dX2_openPart_47 rfl e8 ?_
      refine zr_iconst (q := 51) (v := (1 : Int32)) g dX2_openPart_50 rfl (by decide) ?_
      cases hM
      exact zr_zret g hr hlk (by decide) dX2_openPart_51 rfl rfl
noncomputable def M_X2_openPart (t : Nat) (x1 : Int32) (h : zw_Hp) : Option (Int32 × zw_Hp) :=
  if x1 = (80 : Int32) then (if (5 : Int32) ≤ (h.1 t 2) then (B_X2_openPart_26 t x1 h) else (zw_nm (zw_up h t 8 (6 : Int32)) (fun h3 => some ((1 : Int32), h3)))) else (B_X2_openPart_26 t x1 h)
set_option maxRecDepth 100000 in
set_option maxHeartbeats 4000000 in
theorem R_X2_openPart {t : Nat} (k_t : t = 3 ∨ t = 6) (ok : zw_Ok E) (hI : ∀ i, i < 48 → i ∈ E.2.2.1) {x1 : Int32} {h : zw_Hp} {z : Int32 × zw_Hp} (hM : M_X2_openPart t x1 h = some z) : zw_Ct l E mt_X2_openPart [.ref (E.2.1 t), .int x1] h (some (.int z.1)) z.2 := by
  unfold M_X2_openPart at hM
  refine zw_ct (lv0 := [(0, .ref (E.2.1 t)), (1, .int x1)]) ok (by decide) rfl (Nat.le_of_ble_eq_true rfl) (fun p e s m args below meth c g hr hlk => ?_)
  replace g : zw_G p E (zw_A E) s m args c RX2 cX2_openPart 2 := g
  show zw_V p l e s m args below meth c E mt_X2_openPart 2 (some (.int z.1)) z.2 0 [(0, .ref (E.2.1 t)), (1, .int x1)] [] h
  refine zr_iload_n (q := 1) g 1 dX2_openPart_0 rfl rfl rfl ?_
  refine zr_bipush (q := 3) (v := (80 : Int32)) g dX2_openPart_1 rfl (by decide) ?_
  refine zr_icmp_ne (q := 6) (tgt := 26) g dX2_openPart_3 rfl rfl (fun c1 => ?_) (fun c1 => ?_)
  · replace hM := zw_iff c1 hM
    exact U_X2_openPart_26 k_t ok hI g hr hlk _ _ _ hM
  · replace hM := zw_ift c1 hM
    refine zr_aload_n (q := 7) g 0 dX2_openPart_6 rfl rfl rfl ?_
    refine zr_geti (q := 10) (k0 := 2) g (hI _ (zb_pl0 k_t)) (zs_pl0 k_t) rfl zf_X2_18 dX2_openPart_7 rfl ?_
    refine zr_aload_n (q := 11) g 0 dX2_openPart_10 rfl rfl rfl ?_
    refine zr_getr (q := 14) (k0 := 0) (j := (t + 1)) g (hI _ (zb_pl0 k_t)) (zs_pl0 k_t) rfl zf_X2_9 dX2_openPart_11 rfl ?_
    refine zr_alen (q := 15) (v := (5 : Int32)) g (hI _ (zb_pl1 k_t)) (zs_pl1 k_t) rfl dX2_openPart_14 rfl ?_
    refine zr_icmp_ge (q := 18) (tgt := 26) g dX2_openPart_15 rfl rfl (fun c2 => ?_) (fun c2 => ?_)
    · replace hM := zw_ift c2 hM
      exact U_X2_openPart_26 k_t ok hI g hr hlk _ _ _ hM
    · replace hM := zw_iff c2 hM
      refine zr_aload_n (q := 19) g 0 dX2_openPart_18 rfl rfl rfl ?_
      refine zr_bipush (q := 21) (v := (6 : Int32)) g dX2_openPart_19 rfl (by decide) ?_
      obtain ⟨h3, e4, hM⟩ := zw_nm_ex hM
      refine zr_puti (q := 24) (k0 := 8) (h' := h3) g (hI _ (zb_pl0 k_t)) (zs_pl0 k_t) rfl zp_X2_37 dX2_openPart_21 rfl e4 ?_
      refine zr_iconst (q := 25) (v := (1 : Int32)) g dX2_openPart_24 rfl (by decide) ?_
      cases hM
      exact zr_zret g hr hlk (by decide) dX2_openPart_25 rfl rfl
noncomputable def M_X2_leastFigure (t : Nat) (h : zw_Hp) : Option (Int32) :=
  if (h.1 t 8) = (7 : Int32) then (some (1 : Int32)) else (some (0 : Int32))
set_option maxRecDepth 100000 in
set_option maxHeartbeats 4000000 in
theorem R_X2_leastFigure {t : Nat} (k_t : t = 3 ∨ t = 6) (ok : zw_Ok E) (hI : ∀ i, i < 48 → i ∈ E.2.2.1) {h : zw_Hp} {z : Int32} (hM : M_X2_leastFigure t h = some z) : zw_Ct l E mt_X2_leastFigure [.ref (E.2.1 t)] h (some (.int z)) h := by
  unfold M_X2_leastFigure at hM
  refine zw_ct (lv0 := [(0, .ref (E.2.1 t))]) ok (by decide) rfl (Nat.le_of_ble_eq_true rfl) (fun p e s m args below meth c g hr hlk => ?_)
  replace g : zw_G p E (zw_A E) s m args c RX2 cX2_leastFigure 1 := g
  show zw_V p l e s m args below meth c E mt_X2_leastFigure 1 (some (.int z)) h 0 [(0, .ref (E.2.1 t))] [] h
  refine zr_aload_n (q := 1) g 0 dX2_leastFigure_0 rfl rfl rfl ?_
  refine zr_geti (q := 4) (k0 := 8) g (hI _ (zb_pl0 k_t)) (zs_pl0 k_t) rfl zf_X2_37 dX2_leastFigure_1 rfl ?_
  refine zr_bipush (q := 6) (v := (7 : Int32)) g dX2_leastFigure_4 rfl (by decide) ?_
  refine zr_icmp_ne (q := 9) (tgt := 13) g dX2_leastFigure_6 rfl rfl (fun c1 => ?_) (fun c1 => ?_)
  · replace hM := zw_iff c1 hM
    refine zr_iconst (q := 14) (v := (0 : Int32)) g dX2_leastFigure_13 rfl (by decide) ?_
    cases hM
    exact zr_iret g hr hlk dX2_leastFigure_14 rfl rfl
  · replace hM := zw_ift c1 hM
    refine zr_iconst (q := 10) (v := (1 : Int32)) g dX2_leastFigure_9 rfl (by decide) ?_
    refine zr_goto (tgt := 14) g dX2_leastFigure_10 rfl ?_
    cases hM
    exact zr_iret g hr hlk dX2_leastFigure_14 rfl rfl
noncomputable def M_X2_mostFigure (t : Nat) (h : zw_Hp) : Option (Int32) :=
  if (h.1 t 8) = (6 : Int32) then (some (3 : Int32)) else (if (h.1 t 8) = (8 : Int32) then (some (1 : Int32)) else (some (9 : Int32)))
set_option maxRecDepth 100000 in
set_option maxHeartbeats 4000000 in
theorem R_X2_mostFigure {t : Nat} (k_t : t = 3 ∨ t = 6) (ok : zw_Ok E) (hI : ∀ i, i < 48 → i ∈ E.2.2.1) {h : zw_Hp} {z : Int32} (hM : M_X2_mostFigure t h = some z) : zw_Ct l E mt_X2_mostFigure [.ref (E.2.1 t)] h (some (.int z)) h := by
  unfold M_X2_mostFigure at hM
  refine zw_ct (lv0 := [(0, .ref (E.2.1 t))]) ok (by decide) rfl (Nat.le_of_ble_eq_true rfl) (fun p e s m args below meth c g hr hlk => ?_)
  replace g : zw_G p E (zw_A E) s m args c RX2 cX2_mostFigure 1 := g
  show zw_V p l e s m args below meth c E mt_X2_mostFigure 1 (some (.int z)) h 0 [(0, .ref (E.2.1 t))] [] h
  refine zr_aload_n (q := 1) g 0 dX2_mostFigure_0 rfl rfl rfl ?_
  refine zr_geti (q := 4) (k0 := 8) g (hI _ (zb_pl0 k_t)) (zs_pl0 k_t) rfl zf_X2_37 dX2_mostFigure_1 rfl ?_
  by_cases c1 : (h.1 t 8) = (6 : Int32)
  · replace hM := zw_ift c1 hM
    refine zr_look (tgt := 32) (off := 28) g dX2_mostFigure_4 (by decide) (by rw [c1]; decide) rfl ?_
    refine zr_iconst (q := 33) (v := (3 : Int32)) g dX2_mostFigure_32 rfl (by decide) ?_
    cases hM
    exact zr_iret g hr hlk dX2_mostFigure_33 rfl rfl
  · replace hM := zw_iff c1 hM
    by_cases c2 : (h.1 t 8) = (8 : Int32)
    · replace hM := zw_ift c2 hM
      refine zr_look (tgt := 34) (off := 30) g dX2_mostFigure_4 (by decide) (by rw [c2]; decide) rfl ?_
      refine zr_iconst (q := 35) (v := (1 : Int32)) g dX2_mostFigure_34 rfl (by decide) ?_
      cases hM
      exact zr_iret g hr hlk dX2_mostFigure_35 rfl rfl
    · replace hM := zw_iff c2 hM
      refine zr_look (tgt := 36) g dX2_mostFigure_4 (by decide) (off := 32) ((lv_osw c1 (by decide)).trans ((lv_osw c2 (by decide)).trans (rfl))) rfl ?_
      refine zr_bipush (q := 38) (v := (9 : Int32)) g dX2_mostFigure_36 rfl (by decide) ?_
      cases hM
      exact zr_iret g hr hlk dX2_mostFigure_38 rfl rfl
noncomputable def M_X2_addPerson (t : Nat) (x1 : Int32) (h : zw_Hp) : Option (Int32 × zw_Hp) :=
  if (h.1 t 2) < 0 then (some ((0 : Int32), h)) else (if (h.1 t 2) < (5 : Int32) then (if zw_ok (h.1 t 2) 5 = true then zw_nm (zw_up h (t + 1) ((h.1 t 2)).toNatClampNeg x1) (fun h4 => zw_nm (zw_up h4 t 2 ((h4.1 t 2) + (1 : Int32))) (fun h6 => zw_nm (zw_up h6 t 8 (5 : Int32)) (fun h8 => some ((1 : Int32), h8)))) else none) else (some ((0 : Int32), h)))
set_option maxRecDepth 100000 in
set_option maxHeartbeats 4000000 in
theorem R_X2_addPerson {t : Nat} (k_t : t = 3 ∨ t = 6) (ok : zw_Ok E) (hI : ∀ i, i < 48 → i ∈ E.2.2.1) {x1 : Int32} {h : zw_Hp} {z : Int32 × zw_Hp} (hM : M_X2_addPerson t x1 h = some z) : zw_Ct l E mt_X2_addPerson [.ref (E.2.1 t), .int x1] h (some (.int z.1)) z.2 := by
  unfold M_X2_addPerson at hM
  refine zw_ct (lv0 := [(0, .ref (E.2.1 t)), (1, .int x1)]) ok (by decide) rfl (Nat.le_of_ble_eq_true rfl) (fun p e s m args below meth c g hr hlk => ?_)
  replace g : zw_G p E (zw_A E) s m args c RX2 cX2_addPerson 2 := g
  show zw_V p l e s m args below meth c E mt_X2_addPerson 2 (some (.int z.1)) z.2 0 [(0, .ref (E.2.1 t)), (1, .int x1)] [] h
  refine zr_aload_n (q := 1) g 0 dX2_addPerson_0 rfl rfl rfl ?_
  refine zr_geti (q := 4) (k0 := 2) g (hI _ (zb_pl0 k_t)) (zs_pl0 k_t) rfl zf_X2_18 dX2_addPerson_1 rfl ?_
  refine zr_if_lt (q := 7) (tgt := 19) g dX2_addPerson_4 rfl rfl (fun c1 => ?_) (fun c1 => ?_)
  · replace hM := zw_ift c1 hM
    refine zr_iconst (q := 20) (v := (0 : Int32)) g dX2_addPerson_19 rfl (by decide) ?_
    cases hM
    exact zr_zret g hr hlk (by decide) dX2_addPerson_20 rfl rfl
  · replace hM := zw_iff c1 hM
    refine zr_aload_n (q := 8) g 0 dX2_addPerson_7 rfl rfl rfl ?_
    refine zr_geti (q := 11) (k0 := 2) g (hI _ (zb_pl0 k_t)) (zs_pl0 k_t) rfl zf_X2_18 dX2_addPerson_8 rfl ?_
    refine zr_aload_n (q := 12) g 0 dX2_addPerson_11 rfl rfl rfl ?_
    refine zr_getr (q := 15) (k0 := 0) (j := (t + 1)) g (hI _ (zb_pl0 k_t)) (zs_pl0 k_t) rfl zf_X2_9 dX2_addPerson_12 rfl ?_
    refine zr_alen (q := 16) (v := (5 : Int32)) g (hI _ (zb_pl1 k_t)) (zs_pl1 k_t) rfl dX2_addPerson_15 rfl ?_
    refine zr_icmp_lt (q := 19) (tgt := 21) g dX2_addPerson_16 rfl rfl (fun c2 => ?_) (fun c2 => ?_)
    · replace hM := zw_ift c2 hM
      refine zr_aload_n (q := 22) g 0 dX2_addPerson_21 rfl rfl rfl ?_
      refine zr_getr (q := 25) (k0 := 0) (j := (t + 1)) g (hI _ (zb_pl0 k_t)) (zs_pl0 k_t) rfl zf_X2_9 dX2_addPerson_22 rfl ?_
      refine zr_aload_n (q := 26) g 0 dX2_addPerson_25 rfl rfl rfl ?_
      refine zr_geti (q := 29) (k0 := 2) g (hI _ (zb_pl0 k_t)) (zs_pl0 k_t) rfl zf_X2_18 dX2_addPerson_26 rfl ?_
      refine zr_iload_n (q := 30) g 1 dX2_addPerson_29 rfl rfl rfl ?_
      obtain ⟨c3, hM⟩ := zw_gd hM
      obtain ⟨h4, e5, hM⟩ := zw_nm_ex hM
      refine zr_iast (q := 31) (h' := h4) g (hI _ (zb_pl1 k_t)) (zs_pl1 k_t) c3 dX2_addPerson_30 rfl e5 ?_
      refine zr_aload_n (q := 32) g 0 dX2_addPerson_31 rfl rfl rfl ?_
      refine zr_dup (q := 33) g dX2_addPerson_32 rfl rfl ?_
      refine zr_geti (q := 36) (k0 := 2) g (hI _ (zb_pl0 k_t)) (zs_pl0 k_t) rfl zf_X2_18 dX2_addPerson_33 rfl ?_
      refine zr_iconst (q := 37) (v := (1 : Int32)) g dX2_addPerson_36 rfl (by decide) ?_
      refine zr_iadd (q := 38) g dX2_addPerson_37 rfl ?_
      obtain ⟨h6, e7, hM⟩ := zw_nm_ex hM
      refine zr_puti (q := 41) (k0 := 2) (h' := h6) g (hI _ (zb_pl0 k_t)) (zs_pl0 k_t) rfl zp_X2_18 dX2_addPerson_38 rfl e7 ?_
      refine zr_aload_n (q := 42) g 0 dX2_addPerson_41 rfl rfl rfl ?_
      refine zr_iconst (q := 43) (v := (5 : Int32)) g dX2_addPerson_42 rfl (by decide) ?_
      obtain ⟨h8, e9, hM⟩ := zw_nm_ex hM
      refine zr_puti (q := 46) (k0 := 8) (h' := h8) g (hI _ (zb_pl0 k_t)) (zs_pl0 k_t) rfl zp_X2_37 dX2_addPerson_43 rfl e9 ?_
      refine zr_iconst (q := 47) (v := (1 : Int32)) g dX2_addPerson_46 rfl (by decide) ?_
      cases hM
      exact zr_zret g hr hlk (by decide) dX2_addPerson_47 rfl rfl
    · replace hM := zw_iff c2 hM
      refine zr_iconst (q := 20) (v := (0 : Int32)) g dX2_addPerson_19 rfl (by decide) ?_
      cases hM
      exact zr_zret g hr hlk (by decide) dX2_addPerson_20 rfl rfl
noncomputable def M_X2_startBucket (t : Nat) (x1 : Int32) (h : zw_Hp) : Option (Int32 × zw_Hp) :=
  if (h.1 t 3) < 0 then (some ((0 : Int32), h)) else (if (h.1 t 3) < (4 : Int32) then (if zw_ok (h.1 t 3) 4 = true then zw_nm (zw_up h (t + 2) ((h.1 t 3)).toNatClampNeg x1) (fun h4 => zw_nm (zw_up h4 t 8 (8 : Int32)) (fun h6 => some ((1 : Int32), h6))) else none) else (some ((0 : Int32), h)))
set_option maxRecDepth 100000 in
set_option maxHeartbeats 4000000 in
theorem R_X2_startBucket {t : Nat} (k_t : t = 3 ∨ t = 6) (ok : zw_Ok E) (hI : ∀ i, i < 48 → i ∈ E.2.2.1) {x1 : Int32} {h : zw_Hp} {z : Int32 × zw_Hp} (hM : M_X2_startBucket t x1 h = some z) : zw_Ct l E mt_X2_startBucket [.ref (E.2.1 t), .int x1] h (some (.int z.1)) z.2 := by
  unfold M_X2_startBucket at hM
  refine zw_ct (lv0 := [(0, .ref (E.2.1 t)), (1, .int x1)]) ok (by decide) rfl (Nat.le_of_ble_eq_true rfl) (fun p e s m args below meth c g hr hlk => ?_)
  replace g : zw_G p E (zw_A E) s m args c RX2 cX2_startBucket 2 := g
  show zw_V p l e s m args below meth c E mt_X2_startBucket 2 (some (.int z.1)) z.2 0 [(0, .ref (E.2.1 t)), (1, .int x1)] [] h
  refine zr_aload_n (q := 1) g 0 dX2_startBucket_0 rfl rfl rfl ?_
  refine zr_geti (q := 4) (k0 := 3) g (hI _ (zb_pl0 k_t)) (zs_pl0 k_t) rfl zf_X2_22 dX2_startBucket_1 rfl ?_
  refine zr_if_lt (q := 7) (tgt := 19) g dX2_startBucket_4 rfl rfl (fun c1 => ?_) (fun c1 => ?_)
  · replace hM := zw_ift c1 hM
    refine zr_iconst (q := 20) (v := (0 : Int32)) g dX2_startBucket_19 rfl (by decide) ?_
    cases hM
    exact zr_zret g hr hlk (by decide) dX2_startBucket_20 rfl rfl
  · replace hM := zw_iff c1 hM
    refine zr_aload_n (q := 8) g 0 dX2_startBucket_7 rfl rfl rfl ?_
    refine zr_geti (q := 11) (k0 := 3) g (hI _ (zb_pl0 k_t)) (zs_pl0 k_t) rfl zf_X2_22 dX2_startBucket_8 rfl ?_
    refine zr_aload_n (q := 12) g 0 dX2_startBucket_11 rfl rfl rfl ?_
    refine zr_getr (q := 15) (k0 := 1) (j := (t + 2)) g (hI _ (zb_pl0 k_t)) (zs_pl0 k_t) rfl zf_X2_15 dX2_startBucket_12 rfl ?_
    refine zr_alen (q := 16) (v := (4 : Int32)) g (hI _ (zb_pl2 k_t)) (zs_pl2 k_t) rfl dX2_startBucket_15 rfl ?_
    refine zr_icmp_lt (q := 19) (tgt := 21) g dX2_startBucket_16 rfl rfl (fun c2 => ?_) (fun c2 => ?_)
    · replace hM := zw_ift c2 hM
      refine zr_aload_n (q := 22) g 0 dX2_startBucket_21 rfl rfl rfl ?_
      refine zr_getr (q := 25) (k0 := 1) (j := (t + 2)) g (hI _ (zb_pl0 k_t)) (zs_pl0 k_t) rfl zf_X2_15 dX2_startBucket_22 rfl ?_
      refine zr_aload_n (q := 26) g 0 dX2_startBucket_25 rfl rfl rfl ?_
      refine zr_geti (q := 29) (k0 := 3) g (hI _ (zb_pl0 k_t)) (zs_pl0 k_t) rfl zf_X2_22 dX2_startBucket_26 rfl ?_
      refine zr_iload_n (q := 30) g 1 dX2_startBucket_29 rfl rfl rfl ?_
      obtain ⟨c3, hM⟩ := zw_gd hM
      obtain ⟨h4, e5, hM⟩ := zw_nm_ex hM
      refine zr_iast (q := 31) (h' := h4) g (hI _ (zb_pl2 k_t)) (zs_pl2 k_t) c3 dX2_startBucket_30 rfl e5 ?_
      refine zr_aload_n (q := 32) g 0 dX2_startBucket_31 rfl rfl rfl ?_
      refine zr_bipush (q := 34) (v := (8 : Int32)) g dX2_startBucket_32 rfl (by decide) ?_
      obtain ⟨h6, e7, hM⟩ := zw_nm_ex hM
      refine zr_puti (q := 37) (k0 := 8) (h' := h6) g (hI _ (zb_pl0 k_t)) (zs_pl0 k_t) rfl zp_X2_37 dX2_startBucket_34 rfl e7 ?_
      refine zr_iconst (q := 38) (v := (1 : Int32)) g dX2_startBucket_37 rfl (by decide) ?_
      cases hM
      exact zr_zret g hr hlk (by decide) dX2_startBucket_38 rfl rfl
    · replace hM := zw_iff c2 hM
      refine zr_iconst (q := 20) (v := (0 : Int32)) g dX2_startBucket_19 rfl (by decide) ?_
      cases hM
      exact zr_zret g hr hlk (by decide) dX2_startBucket_20 rfl rfl
noncomputable def M_X2_endBucket (t : Nat) (x1 : Int32) (h : zw_Hp) : Option (Int32 × zw_Hp) :=
  zw_nm (zw_up h t 4 ((h.1 t 4) ||| (x1 <<< ((h.1 t 3) &&& 31)))) (fun h1 => zw_nm (zw_up h1 t 3 ((h1.1 t 3) + (1 : Int32))) (fun h3 => zw_nm (zw_up h3 t 8 (5 : Int32)) (fun h5 => some ((1 : Int32), h5))))
set_option maxRecDepth 100000 in
set_option maxHeartbeats 4000000 in
theorem R_X2_endBucket {t : Nat} (k_t : t = 3 ∨ t = 6) (ok : zw_Ok E) (hI : ∀ i, i < 48 → i ∈ E.2.2.1) {x1 : Int32} {h : zw_Hp} {z : Int32 × zw_Hp} (hM : M_X2_endBucket t x1 h = some z) : zw_Ct l E mt_X2_endBucket [.ref (E.2.1 t), .int x1] h (some (.int z.1)) z.2 := by
  unfold M_X2_endBucket at hM
  refine zw_ct (lv0 := [(0, .ref (E.2.1 t)), (1, .int x1)]) ok (by decide) rfl (Nat.le_of_ble_eq_true rfl) (fun p e s m args below meth c g hr hlk => ?_)
  replace g : zw_G p E (zw_A E) s m args c RX2 cX2_endBucket 2 := g
  show zw_V p l e s m args below meth c E mt_X2_endBucket 2 (some (.int z.1)) z.2 0 [(0, .ref (E.2.1 t)), (1, .int x1)] [] h
  refine zr_aload_n (q := 1) g 0 dX2_endBucket_0 rfl rfl rfl ?_
  refine zr_dup (q := 2) g dX2_endBucket_1 rfl rfl ?_
  refine zr_geti (q := 5) (k0 := 4) g (hI _ (zb_pl0 k_t)) (zs_pl0 k_t) rfl zf_X2_25 dX2_endBucket_2 rfl ?_
  refine zr_iload_n (q := 6) g 1 dX2_endBucket_5 rfl rfl rfl ?_
  refine zr_aload_n (q := 7) g 0 dX2_endBucket_6 rfl rfl rfl ?_
  refine zr_geti (q := 10) (k0 := 3) g (hI _ (zb_pl0 k_t)) (zs_pl0 k_t) rfl zf_X2_22 dX2_endBucket_7 rfl ?_
  refine zr_ishl (q := 11) g dX2_endBucket_10 rfl ?_
  refine zr_ior (q := 12) g dX2_endBucket_11 rfl ?_
  obtain ⟨h1, e2, hM⟩ := zw_nm_ex hM
  refine zr_puti (q := 15) (k0 := 4) (h' := h1) g (hI _ (zb_pl0 k_t)) (zs_pl0 k_t) rfl zp_X2_25 dX2_endBucket_12 rfl e2 ?_
  refine zr_aload_n (q := 16) g 0 dX2_endBucket_15 rfl rfl rfl ?_
  refine zr_dup (q := 17) g dX2_endBucket_16 rfl rfl ?_
  refine zr_geti (q := 20) (k0 := 3) g (hI _ (zb_pl0 k_t)) (zs_pl0 k_t) rfl zf_X2_22 dX2_endBucket_17 rfl ?_
  refine zr_iconst (q := 21) (v := (1 : Int32)) g dX2_endBucket_20 rfl (by decide) ?_
  refine zr_iadd (q := 22) g dX2_endBucket_21 rfl ?_
  obtain ⟨h3, e4, hM⟩ := zw_nm_ex hM
  refine zr_puti (q := 25) (k0 := 3) (h' := h3) g (hI _ (zb_pl0 k_t)) (zs_pl0 k_t) rfl zp_X2_22 dX2_endBucket_22 rfl e4 ?_
  refine zr_aload_n (q := 26) g 0 dX2_endBucket_25 rfl rfl rfl ?_
  refine zr_iconst (q := 27) (v := (5 : Int32)) g dX2_endBucket_26 rfl (by decide) ?_
  obtain ⟨h5, e6, hM⟩ := zw_nm_ex hM
  refine zr_puti (q := 30) (k0 := 8) (h' := h5) g (hI _ (zb_pl0 k_t)) (zs_pl0 k_t) rfl zp_X2_37 dX2_endBucket_27 rfl e6 ?_
  refine zr_iconst (q := 31) (v := (1 : Int32)) g dX2_endBucket_30 rfl (by decide) ?_
  cases hM
  exact zr_zret g hr hlk (by decide) dX2_endBucket_31 rfl rfl
noncomputable def M_X2_takeFigure (t : Nat) (x1 : Int32) (h : zw_Hp) : Option (Int32 × zw_Hp) :=
  if (h.1 t 8) = (1 : Int32) then (zw_nm (zw_up h t 5 ((10 : Int32) * x1)) (fun h2 => zw_nm (zw_up h2 t 8 (2 : Int32)) (fun h4 => some ((1 : Int32), h4)))) else (if (h.1 t 8) = (2 : Int32) then (zw_nm (zw_up h t 5 ((h.1 t 5) + x1)) (fun h7 => zw_nm (zw_up h7 t 8 (3 : Int32)) (fun h9 => some ((1 : Int32), h9)))) else (if (h.1 t 8) = (3 : Int32) then (zw_nm (zw_up h t 6 x1) (fun h12 => zw_nm (zw_up h12 t 8 (4 : Int32)) (fun h14 => some ((1 : Int32), h14)))) else (if (h.1 t 8) = (4 : Int32) then (zw_nm (zw_up h t 7 x1) (fun h17 => zw_nm (zw_up h17 t 8 (5 : Int32)) (fun h19 => some ((1 : Int32), h19)))) else (if (h.1 t 8) = (5 : Int32) then (some ((0 : Int32), h)) else (if (h.1 t 8) = (6 : Int32) then ((M_X2_addPerson t x1 h).bind (fun z23 => if z23.1 = 0 ∨ z23.1 = 1 then some (z23.1, z23.2) else none)) else (if (h.1 t 8) = (7 : Int32) then ((M_X2_startBucket t x1 h).bind (fun z27 => if z27.1 = 0 ∨ z27.1 = 1 then some (z27.1, z27.2) else none)) else (if (h.1 t 8) = (8 : Int32) then ((M_X2_endBucket t x1 h).bind (fun z31 => if z31.1 = 0 ∨ z31.1 = 1 then some (z31.1, z31.2) else none)) else (some ((0 : Int32), h)))))))))
set_option maxRecDepth 100000 in
set_option maxHeartbeats 4000000 in
theorem R_X2_takeFigure {t : Nat} (k_t : t = 3 ∨ t = 6) (ok : zw_Ok E) (hI : ∀ i, i < 48 → i ∈ E.2.2.1) {x1 : Int32} {h : zw_Hp} {z : Int32 × zw_Hp} (hM : M_X2_takeFigure t x1 h = some z) : zw_Ct l E mt_X2_takeFigure [.ref (E.2.1 t), .int x1] h (some (.int z.1)) z.2 := by
  unfold M_X2_takeFigure at hM
  refine zw_ct (lv0 := [(0, .ref (E.2.1 t)), (1, .int x1)]) ok (by decide) rfl (Nat.le_of_ble_eq_true rfl) (fun p e s m args below meth c g hr hlk => ?_)
  replace g : zw_G p E (zw_A E) s m args c RX2 cX2_takeFigure 2 := g
  show zw_V p l e s m args below meth c E mt_X2_takeFigure 2 (some (.int z.1)) z.2 0 [(0, .ref (E.2.1 t)), (1, .int x1)] [] h
  refine zr_aload_n (q := 1) g 0 dX2_takeFigure_0 rfl rfl rfl ?_
  refine zr_geti (q := 4) (k0 := 8) g (hI _ (zb_pl0 k_t)) (zs_pl0 k_t) rfl zf_X2_37 dX2_takeFigure_1 rfl ?_
  by_cases c1 : (h.1 t 8) = (1 : Int32)
  · replace hM := zw_ift c1 hM
    refine zr_tabIn (tgt := 52) (off := 48) g dX2_takeFigure_4 c1 (by decide) rfl ?_
    refine zr_aload_n (q := 53) g 0 dX2_takeFigure_52 rfl rfl rfl ?_
    refine zr_bipush (q := 55) (v := (10 : Int32)) g dX2_takeFigure_53 rfl (by decide) ?_
    refine zr_iload_n (q := 56) g 1 dX2_takeFigure_55 rfl rfl rfl ?_
    refine zr_imul (q := 57) g dX2_takeFigure_56 rfl ?_
    obtain ⟨h2, e3, hM⟩ := zw_nm_ex hM
    refine zr_puti (q := 60) (k0 := 5) (h' := h2) g (hI _ (zb_pl0 k_t)) (zs_pl0 k_t) rfl zp_X2_28 dX2_takeFigure_57 rfl e3 ?_
    refine zr_aload_n (q := 61) g 0 dX2_takeFigure_60 rfl rfl rfl ?_
    refine zr_iconst (q := 62) (v := (2 : Int32)) g dX2_takeFigure_61 rfl (by decide) ?_
    obtain ⟨h4, e5, hM⟩ := zw_nm_ex hM
    refine zr_puti (q := 65) (k0 := 8) (h' := h4) g (hI _ (zb_pl0 k_t)) (zs_pl0 k_t) rfl zp_X2_37 dX2_takeFigure_62 rfl e5 ?_
    refine zr_iconst (q := 66) (v := (1 : Int32)) g dX2_takeFigure_65 rfl (by decide) ?_
    cases hM
    exact zr_zret g hr hlk (by decide) dX2_takeFigure_66 rfl rfl
  · replace hM := zw_iff c1 hM
    by_cases c6 : (h.1 t 8) = (2 : Int32)
    · replace hM := zw_ift c6 hM
      refine zr_tabIn (tgt := 67) (off := 63) g dX2_takeFigure_4 c6 (by decide) rfl ?_
      refine zr_aload_n (q := 68) g 0 dX2_takeFigure_67 rfl rfl rfl ?_
      refine zr_dup (q := 69) g dX2_takeFigure_68 rfl rfl ?_
      refine zr_geti (q := 72) (k0 := 5) g (hI _ (zb_pl0 k_t)) (zs_pl0 k_t) rfl zf_X2_28 dX2_takeFigure_69 rfl ?_
      refine zr_iload_n (q := 73) g 1 dX2_takeFigure_72 rfl rfl rfl ?_
      refine zr_iadd (q := 74) g dX2_takeFigure_73 rfl ?_
      obtain ⟨h7, e8, hM⟩ := zw_nm_ex hM
      refine zr_puti (q := 77) (k0 := 5) (h' := h7) g (hI _ (zb_pl0 k_t)) (zs_pl0 k_t) rfl zp_X2_28 dX2_takeFigure_74 rfl e8 ?_
      refine zr_aload_n (q := 78) g 0 dX2_takeFigure_77 rfl rfl rfl ?_
      refine zr_iconst (q := 79) (v := (3 : Int32)) g dX2_takeFigure_78 rfl (by decide) ?_
      obtain ⟨h9, e10, hM⟩ := zw_nm_ex hM
      refine zr_puti (q := 82) (k0 := 8) (h' := h9) g (hI _ (zb_pl0 k_t)) (zs_pl0 k_t) rfl zp_X2_37 dX2_takeFigure_79 rfl e10 ?_
      refine zr_iconst (q := 83) (v := (1 : Int32)) g dX2_takeFigure_82 rfl (by decide) ?_
      cases hM
      exact zr_zret g hr hlk (by decide) dX2_takeFigure_83 rfl rfl
    · replace hM := zw_iff c6 hM
      by_cases c11 : (h.1 t 8) = (3 : Int32)
      · replace hM := zw_ift c11 hM
        refine zr_tabIn (tgt := 84) (off := 80) g dX2_takeFigure_4 c11 (by decide) rfl ?_
        refine zr_aload_n (q := 85) g 0 dX2_takeFigure_84 rfl rfl rfl ?_
        refine zr_iload_n (q := 86) g 1 dX2_takeFigure_85 rfl rfl rfl ?_
        obtain ⟨h12, e13, hM⟩ := zw_nm_ex hM
        refine zr_puti (q := 89) (k0 := 6) (h' := h12) g (hI _ (zb_pl0 k_t)) (zs_pl0 k_t) rfl zp_X2_31 dX2_takeFigure_86 rfl e13 ?_
        refine zr_aload_n (q := 90) g 0 dX2_takeFigure_89 rfl rfl rfl ?_
        refine zr_iconst (q := 91) (v := (4 : Int32)) g dX2_takeFigure_90 rfl (by decide) ?_
        obtain ⟨h14, e15, hM⟩ := zw_nm_ex hM
        refine zr_puti (q := 94) (k0 := 8) (h' := h14) g (hI _ (zb_pl0 k_t)) (zs_pl0 k_t) rfl zp_X2_37 dX2_takeFigure_91 rfl e15 ?_
        refine zr_iconst (q := 95) (v := (1 : Int32)) g dX2_takeFigure_94 rfl (by decide) ?_
        cases hM
        exact zr_zret g hr hlk (by decide) dX2_takeFigure_95 rfl rfl
      · replace hM := zw_iff c11 hM
        by_cases c16 : (h.1 t 8) = (4 : Int32)
        · replace hM := zw_ift c16 hM
          refine zr_tabIn (tgt := 96) (off := 92) g dX2_takeFigure_4 c16 (by decide) rfl ?_
          refine zr_aload_n (q := 97) g 0 dX2_takeFigure_96 rfl rfl rfl ?_
          refine zr_iload_n (q := 98) g 1 dX2_takeFigure_97 rfl rfl rfl ?_
          obtain ⟨h17, e18, hM⟩ := zw_nm_ex hM
          refine zr_puti (q := 101) (k0 := 7) (h' := h17) g (hI _ (zb_pl0 k_t)) (zs_pl0 k_t) rfl zp_X2_34 dX2_takeFigure_98 rfl e18 ?_
          refine zr_aload_n (q := 102) g 0 dX2_takeFigure_101 rfl rfl rfl ?_
          refine zr_iconst (q := 103) (v := (5 : Int32)) g dX2_takeFigure_102 rfl (by decide) ?_
          obtain ⟨h19, e20, hM⟩ := zw_nm_ex hM
          refine zr_puti (q := 106) (k0 := 8) (h' := h19) g (hI _ (zb_pl0 k_t)) (zs_pl0 k_t) rfl zp_X2_37 dX2_takeFigure_103 rfl e20 ?_
          refine zr_iconst (q := 107) (v := (1 : Int32)) g dX2_takeFigure_106 rfl (by decide) ?_
          cases hM
          exact zr_zret g hr hlk (by decide) dX2_takeFigure_107 rfl rfl
        · replace hM := zw_iff c16 hM
          by_cases c21 : (h.1 t 8) = (5 : Int32)
          · replace hM := zw_ift c21 hM
            refine zr_tabIn (tgt := 126) (off := 122) g dX2_takeFigure_4 c21 (by decide) rfl ?_
            refine zr_iconst (q := 127) (v := (0 : Int32)) g dX2_takeFigure_126 rfl (by decide) ?_
            cases hM
            exact zr_zret g hr hlk (by decide) dX2_takeFigure_127 rfl rfl
          · replace hM := zw_iff c21 hM
            by_cases c22 : (h.1 t 8) = (6 : Int32)
            · replace hM := zw_ift c22 hM
              refine zr_tabIn (tgt := 108) (off := 104) g dX2_takeFigure_4 c22 (by decide) rfl ?_
              refine zr_aload_n (q := 109) g 0 dX2_takeFigure_108 rfl rfl rfl ?_
              refine zr_iload_n (q := 110) g 1 dX2_takeFigure_109 rfl rfl rfl ?_
              obtain ⟨z23, q24, hM⟩ := zw_bd hM
              refine zr_callV (q := 113) (As := [.int x1]) (rest := []) (st' := [.int z23.1]) (i := t) g (R_X2_addPerson k_t ok hI q24) zv_X2_addPerson zl_X2_65 (hI _ (zb_pl0 k_t)) (zs_pl0 k_t) zc_X2.1 dX2_takeFigure_110 rfl rfl ⟨Nat.le_of_ble_eq_true rfl, Nat.le_of_ble_eq_true rfl⟩ ⟨Nat.zero_le _, Nat.zero_le _⟩ (Nat.le_of_ble_eq_true rfl) rfl rfl ?_
              obtain ⟨c25, hM⟩ := zw_gp hM
              cases hM
              exact zr_zret g hr hlk c25 dX2_takeFigure_113 rfl rfl
            · replace hM := zw_iff c22 hM
              by_cases c26 : (h.1 t 8) = (7 : Int32)
              · replace hM := zw_ift c26 hM
                refine zr_tabIn (tgt := 114) (off := 110) g dX2_takeFigure_4 c26 (by decide) rfl ?_
                refine zr_aload_n (q := 115) g 0 dX2_takeFigure_114 rfl rfl rfl ?_
                refine zr_iload_n (q := 116) g 1 dX2_takeFigure_115 rfl rfl rfl ?_
                obtain ⟨z27, q28, hM⟩ := zw_bd hM
                refine zr_callV (q := 119) (As := [.int x1]) (rest := []) (st' := [.int z27.1]) (i := t) g (R_X2_startBucket k_t ok hI q28) zv_X2_startBucket zl_X2_68 (hI _ (zb_pl0 k_t)) (zs_pl0 k_t) zc_X2.1 dX2_takeFigure_116 rfl rfl ⟨Nat.le_of_ble_eq_true rfl, Nat.le_of_ble_eq_true rfl⟩ ⟨Nat.zero_le _, Nat.zero_le _⟩ (Nat.le_of_ble_eq_true rfl) rfl rfl ?_
                obtain ⟨c29, hM⟩ := zw_gp hM
                cases hM
                exact zr_zret g hr hlk c29 dX2_takeFigure_119 rfl rfl
              · replace hM := zw_iff c26 hM
                by_cases c30 : (h.1 t 8) = (8 : Int32)
                · replace hM := zw_ift c30 hM
                  refine zr_tabIn (tgt := 120) (off := 116) g dX2_takeFigure_4 c30 (by decide) rfl ?_
                  refine zr_aload_n (q := 121) g 0 dX2_takeFigure_120 rfl rfl rfl ?_
                  refine zr_iload_n (q := 122) g 1 dX2_takeFigure_121 rfl rfl rfl ?_
                  obtain ⟨z31, q32, hM⟩ := zw_bd hM
                  refine zr_callV (q := 125) (As := [.int x1]) (rest := []) (st' := [.int z31.1]) (i := t) g (R_X2_endBucket k_t ok hI q32) zv_X2_endBucket zl_X2_71 (hI _ (zb_pl0 k_t)) (zs_pl0 k_t) zc_X2.1 dX2_takeFigure_122 rfl rfl ⟨Nat.le_of_ble_eq_true rfl, Nat.le_of_ble_eq_true rfl⟩ ⟨Nat.zero_le _, Nat.zero_le _⟩ (Nat.le_of_ble_eq_true rfl) rfl rfl ?_
                  obtain ⟨c33, hM⟩ := zw_gp hM
                  cases hM
                  exact zr_zret g hr hlk c33 dX2_takeFigure_125 rfl rfl
                · replace hM := zw_iff c30 hM
                  have hx : ((h.1 t 8)).toInt < 1 ∨ 8 < ((h.1 t 8)).toInt := by
                      have := lv_neT (a := 1) c1 (by decide)
                      have := lv_neT (a := 2) c6 (by decide)
                      have := lv_neT (a := 3) c11 (by decide)
                      have := lv_neT (a := 4) c16 (by decide)
                      have := lv_neT (a := 5) c21 (by decide)
                      have := lv_neT (a := 6) c22 (by decide)
                      have := lv_neT (a := 7) c26 (by decide)
                      have := lv_neT (a := 8) c30 (by decide)
                      omega
                  refine zr_tabOut (tgt := 126) g dX2_takeFigure_4 hx rfl ?_
                  refine zr_iconst (q := 127) (v := (0 : Int32)) g dX2_takeFigure_126 rfl (by decide) ?_
                  cases hM
                  exact zr_zret g hr hlk (by decide) dX2_takeFigure_127 rfl rfl
noncomputable def M_X2_takeLetter (t : Nat) (x1 : Int32) (h : zw_Hp) : Option (Int32 × zw_Hp) :=
  if (h.1 t 8) = 0 then (zw_nm (zw_up h t 8 (1 : Int32)) (fun h17 => if x1 = (87 : Int32) then (some ((1 : Int32), h17)) else (some ((0 : Int32), h17)))) else (if (h.1 t 8) = (5 : Int32) then ((M_X2_openPart t x1 h).bind (fun z14 => if z14.1 = 0 ∨ z14.1 = 1 then some (z14.1, z14.2) else none)) else (zw_nm (x1 - (48 : Int32)) (fun y3 => (M_X2_leastFigure t h).bind (fun z5 => if y3 < z5 then (some ((0 : Int32), h)) else ((M_X2_mostFigure t h).bind (fun z8 => if z8 < y3 then (some ((0 : Int32), h)) else ((M_X2_takeFigure t y3 h).bind (fun z11 => if z11.1 = 0 then (some ((0 : Int32), z11.2)) else (some ((1 : Int32), z11.2))))))))))
set_option maxRecDepth 100000 in
set_option maxHeartbeats 4000000 in
theorem R_X2_takeLetter {t : Nat} (k_t : t = 3 ∨ t = 6) (ok : zw_Ok E) (hI : ∀ i, i < 48 → i ∈ E.2.2.1) {x1 : Int32} {h : zw_Hp} {z : Int32 × zw_Hp} (hM : M_X2_takeLetter t x1 h = some z) : zw_Ct l E mt_X2_takeLetter [.ref (E.2.1 t), .int x1] h (some (.int z.1)) z.2 := by
  unfold M_X2_takeLetter at hM
  refine zw_ct (lv0 := [(0, .ref (E.2.1 t)), (1, .int x1)]) ok (by decide) rfl (Nat.le_of_ble_eq_true rfl) (fun p e s m args below meth c g hr hlk => ?_)
  replace g : zw_G p E (zw_A E) s m args c RX2 cX2_takeLetter 3 := g
  show zw_V p l e s m args below meth c E mt_X2_takeLetter 3 (some (.int z.1)) z.2 0 [(0, .ref (E.2.1 t)), (1, .int x1)] [] h
  refine zr_aload_n (q := 1) g 0 dX2_takeLetter_0 rfl rfl rfl ?_
  refine zr_geti (q := 4) (k0 := 8) g (hI _ (zb_pl0 k_t)) (zs_pl0 k_t) rfl zf_X2_37 dX2_takeLetter_1 rfl ?_
  refine zr_if_ne (q := 7) (tgt := 24) g dX2_takeLetter_4 rfl rfl (fun c1 => ?_) (fun c1 => ?_)
  · replace hM := zw_iff c1 hM
    refine zr_aload_n (q := 25) g 0 dX2_takeLetter_24 rfl rfl rfl ?_
    refine zr_geti (q := 28) (k0 := 8) g (hI _ (zb_pl0 k_t)) (zs_pl0 k_t) rfl zf_X2_37 dX2_takeLetter_25 rfl ?_
    refine zr_iconst (q := 29) (v := (5 : Int32)) g dX2_takeLetter_28 rfl (by decide) ?_
    refine zr_icmp_ne (q := 32) (tgt := 38) g dX2_takeLetter_29 rfl rfl (fun c2 => ?_) (fun c2 => ?_)
    · replace hM := zw_iff c2 hM
      refine zr_iload_n (q := 39) g 1 dX2_takeLetter_38 rfl rfl rfl ?_
      refine zr_bipush (q := 41) (v := (48 : Int32)) g dX2_takeLetter_39 rfl (by decide) ?_
      refine zr_isub (q := 42) g dX2_takeLetter_41 rfl ?_
      obtain ⟨y3, e4, hM⟩ := zw_nm_ex hM
      refine zr_nmi e4 ?_
      refine zr_istore_n (q := 43) (lv' := [(2, .int y3), (0, .ref (E.2.1 t)), (1, .int x1)]) g dX2_takeLetter_42 rfl rfl (by decide) rfl ?_
      refine zr_iload_n (q := 44) g 0 dX2_takeLetter_43 rfl rfl rfl ?_
      refine zr_aload_n (q := 45) g 1 dX2_takeLetter_44 rfl rfl rfl ?_
      obtain ⟨z5, q6, hM⟩ := zw_bd hM
      refine zr_callV (q := 48) (As := []) (rest := [.int y3]) (st' := [.int z5, .int y3]) (i := t) g (R_X2_leastFigure k_t ok hI q6) zv_X2_leastFigure zl_X2_55 (hI _ (zb_pl0 k_t)) (zs_pl0 k_t) zc_X2.1 dX2_takeLetter_45 rfl rfl ⟨Nat.le_of_ble_eq_true rfl, Nat.le_of_ble_eq_true rfl⟩ ⟨Nat.zero_le _, Nat.zero_le _⟩ (Nat.le_of_ble_eq_true rfl) rfl rfl ?_
      refine zr_icmp_lt (q := 51) (tgt := 71) g dX2_takeLetter_48 rfl rfl (fun c7 => ?_) (fun c7 => ?_)
      · replace hM := zw_ift c7 hM
        refine zr_iconst (q := 72) (v := (0 : Int32)) g dX2_takeLetter_71 rfl (by decide) ?_
        cases hM
        exact zr_zret g hr hlk (by decide) dX2_takeLetter_72 rfl rfl
      · replace hM := zw_iff c7 hM
        refine zr_iload_n (q := 52) g 0 dX2_takeLetter_51 rfl rfl rfl ?_
        refine zr_aload_n (q := 53) g 1 dX2_takeLetter_52 rfl rfl rfl ?_
        obtain ⟨z8, q9, hM⟩ := zw_bd hM
        refine zr_callV (q := 56) (As := []) (rest := [.int y3]) (st' := [.int z8, .int y3]) (i := t) g (R_X2_mostFigure k_t ok hI q9) zv_X2_mostFigure zl_X2_59 (hI _ (zb_pl0 k_t)) (zs_pl0 k_t) zc_X2.1 dX2_takeLetter_53 rfl rfl ⟨Nat.le_of_ble_eq_true rfl, Nat.le_of_ble_eq_true rfl⟩ ⟨Nat.zero_le _, Nat.zero_le _⟩ (Nat.le_of_ble_eq_true rfl) rfl rfl ?_
        refine zr_icmp_gt (q := 59) (tgt := 71) g dX2_takeLetter_56 rfl rfl (fun c10 => ?_) (fun c10 => ?_)
        · replace hM := zw_ift c10 hM
          refine zr_iconst (q := 72) (v := (0 : Int32)) g dX2_takeLetter_71 rfl (by decide) ?_
          cases hM
          exact zr_zret g hr hlk (by decide) dX2_takeLetter_72 rfl rfl
        · replace hM := zw_iff c10 hM
          refine zr_aload_n (q := 60) g 1 dX2_takeLetter_59 rfl rfl rfl ?_
          refine zr_iload_n (q := 61) g 0 dX2_takeLetter_60 rfl rfl rfl ?_
          obtain ⟨z11, q12, hM⟩ := zw_bd hM
          refine zr_callV (q := 64) (As := [.int y3]) (rest := []) (st' := [.int z11.1]) (i := t) g (R_X2_takeFigure k_t ok hI q12) zv_X2_takeFigure zl_X2_62 (hI _ (zb_pl0 k_t)) (zs_pl0 k_t) zc_X2.1 dX2_takeLetter_61 rfl rfl ⟨Nat.le_of_ble_eq_true rfl, Nat.le_of_ble_eq_true rfl⟩ ⟨Nat.zero_le _, Nat.zero_le _⟩ (Nat.le_of_ble_eq_true rfl) rfl rfl ?_
          refine zr_if_eq (q := 67) (tgt := 71) g dX2_takeLetter_64 rfl rfl (fun c13 => ?_) (fun c13 => ?_)
          · replace hM := zw_ift c13 hM
            refine zr_iconst (q := 72) (v := (0 : Int32)) g dX2_takeLetter_71 rfl (by decide) ?_
            cases hM
            exact zr_zret g hr hlk (by decide) dX2_takeLetter_72 rfl rfl
          · replace hM := zw_iff c13 hM
            refine zr_iconst (q := 68) (v := (1 : Int32)) g dX2_takeLetter_67 rfl (by decide) ?_
            refine zr_goto (tgt := 72) g dX2_takeLetter_68 rfl ?_
            cases hM
            exact zr_zret g hr hlk (by decide) dX2_takeLetter_72 rfl rfl
    · replace hM := zw_ift c2 hM
      refine zr_aload_n (q := 33) g 0 dX2_takeLetter_32 rfl rfl rfl ?_
      refine zr_iload_n (q := 34) g 1 dX2_takeLetter_33 rfl rfl rfl ?_
      obtain ⟨z14, q15, hM⟩ := zw_bd hM
      refine zr_callV (q := 37) (As := [.int x1]) (rest := []) (st' := [.int z14.1]) (i := t) g (R_X2_openPart k_t ok hI q15) zv_X2_openPart zl_X2_52 (hI _ (zb_pl0 k_t)) (zs_pl0 k_t) zc_X2.1 dX2_takeLetter_34 rfl rfl ⟨Nat.le_of_ble_eq_true rfl, Nat.le_of_ble_eq_true rfl⟩ ⟨Nat.zero_le _, Nat.zero_le _⟩ (Nat.le_of_ble_eq_true rfl) rfl rfl ?_
      obtain ⟨c16, hM⟩ := zw_gp hM
      cases hM
      exact zr_zret g hr hlk c16 dX2_takeLetter_37 rfl rfl
  · replace hM := zw_ift c1 hM
    refine zr_aload_n (q := 8) g 0 dX2_takeLetter_7 rfl rfl rfl ?_
    refine zr_iconst (q := 9) (v := (1 : Int32)) g dX2_takeLetter_8 rfl (by decide) ?_
    obtain ⟨h17, e18, hM⟩ := zw_nm_ex hM
    refine zr_puti (q := 12) (k0 := 8) (h' := h17) g (hI _ (zb_pl0 k_t)) (zs_pl0 k_t) rfl zp_X2_37 dX2_takeLetter_9 rfl e18 ?_
    refine zr_iload_n (q := 13) g 1 dX2_takeLetter_12 rfl rfl rfl ?_
    refine zr_bipush (q := 15) (v := (87 : Int32)) g dX2_takeLetter_13 rfl (by decide) ?_
    refine zr_icmp_ne (q := 18) (tgt := 22) g dX2_takeLetter_15 rfl rfl (fun c19 => ?_) (fun c19 => ?_)
    · replace hM := zw_iff c19 hM
      refine zr_iconst (q := 23) (v := (0 : Int32)) g dX2_takeLetter_22 rfl (by decide) ?_
      cases hM
      exact zr_zret g hr hlk (by decide) dX2_takeLetter_23 rfl rfl
    · replace hM := zw_ift c19 hM
      refine zr_iconst (q := 19) (v := (1 : Int32)) g dX2_takeLetter_18 rfl (by decide) ?_
      refine zr_goto (tgt := 23) g dX2_takeLetter_19 rfl ?_
      cases hM
      exact zr_zret g hr hlk (by decide) dX2_takeLetter_23 rfl rfl
noncomputable def B_X2_readFrom_60 (t : Nat) (h : zw_Hp) : Option (Int32 × zw_Hp) :=
  if (h.1 t 8) = (5 : Int32) then (some ((-9 : Int32), h)) else (some ((h.1 1 1), h))
set_option maxRecDepth 100000 in
set_option maxHeartbeats 4000000 in
theorem U_X2_readFrom_60 {t : Nat} (k_t : t = 3 ∨ t = 6) (ok : zw_Ok E) (hI : ∀ i, i < 48 → i ∈ E.2.2.1) (g : zw_G p E (zw_A E) s m args c RX2 cX2_readFrom 3) (hr : meth.sig.returnType = some .int) (hlk : meth.locks = false) :
    ∀ (h : zw_Hp) (z : Int32 × zw_Hp), B_X2_readFrom_60 t h = some z → zw_V p l e s m args below meth c E mt_X2_readFrom 3 (some (.int z.1)) z.2 60 [(0, .ref (E.2.1 t)), (1, .ref (E.2.1 1))] [] h := by
  intro h z hM
  unfold B_X2_readFrom_60 at hM
  refine zr_aload_n (q := 61) g 0 dX2_readFrom_60 rfl rfl rfl ?_
  refine zr_geti (q := 64) (k0 := 8) g (hI _ (zb_pl0 k_t)) (zs_pl0 k_t) rfl zf_X2_37 dX2_readFrom_61 rfl ?_
  refine zr_iconst (q := 65) (v := (5 : Int32)) g dX2_readFrom_64 rfl (by decide) ?_
  refine zr_icmp_ne (q := 68) (tgt := 73) g dX2_readFrom_65 rfl rfl (fun c17 => ?_) (fun c17 => ?_)
  · replace hM := zw_iff c17 hM
    refine zr_aload_n (q := 74) g 1 dX2_readFrom_73 rfl rfl rfl ?_
    refine zr_geti (q := 77) (k0 := 1) g (hI 1 (by decide)) zs_1 rfl zf_X2_40 dX2_readFrom_74 rfl ?_
    cases hM
    exact zr_iret g hr hlk dX2_readFrom_77 rfl rfl
  · replace hM := zw_ift c17 hM
    refine zr_bipush (q := 70) (v := (-9 : Int32)) g dX2_readFrom_68 rfl (by decide) ?_
    refine zr_goto (tgt := 77) g dX2_readFrom_70 rfl ?_
    cases hM
    exact zr_iret g hr hlk dX2_readFrom_77 rfl rfl
noncomputable def B_X2_readFrom_22 (t : Nat) (k22 : (Int32 × zw_Hp) → Option (Int32 × zw_Hp)) (x2 : Int32) (h : zw_Hp) : Option (Int32 × zw_Hp) :=
  if (h.1 1 1) ≤ x2 then (B_X2_readFrom_60 t h) else (if (36 : Int32) ≤ x2 then (B_X2_readFrom_60 t h) else (if zw_ok x2 36 = true then ((M_X2_takeLetter t (h.1 2 (x2).toNatClampNeg) h).bind (fun z12 => if z12.1 = 0 then (some (x2, z12.2)) else (zw_nm (x2 + (1 : Int32)) (fun y15 => k22 (y15, z12.2))))) else none))
set_option maxRecDepth 100000 in
set_option maxHeartbeats 4000000 in
theorem U_X2_readFrom_22 {t : Nat} (k_t : t = 3 ∨ t = 6) (ok : zw_Ok E) (hI : ∀ i, i < 48 → i ∈ E.2.2.1) (g : zw_G p E (zw_A E) s m args c RX2 cX2_readFrom 3) (hr : meth.sig.returnType = some .int) (hlk : meth.locks = false) {k22 : (Int32 × zw_Hp) → Option (Int32 × zw_Hp)} (eL22 : ∀ (w : Int32 × zw_Hp) (z : Int32 × zw_Hp), k22 w = some z → zw_V p l e s m args below meth c E mt_X2_readFrom 3 (some (.int z.1)) z.2 22 [(0, .ref (E.2.1 t)), (1, .ref (E.2.1 1)), (2, .int w.1)] [] w.2) :
    ∀ (x2 : Int32) (h : zw_Hp) (z : Int32 × zw_Hp), B_X2_readFrom_22 t k22 x2 h = some z → zw_V p l e s m args below meth c E mt_X2_readFrom 3 (some (.int z.1)) z.2 22 [(0, .ref (E.2.1 t)), (1, .ref (E.2.1 1)), (2, .int x2)] [] h := by
  intro x2 h z hM
  unfold B_X2_readFrom_22 at hM
  refine zr_iload_n (q := 23) g 2 dX2_readFrom_22 rfl rfl rfl ?_
  refine zr_aload_n (q := 24) g 1 dX2_readFrom_23 rfl rfl rfl ?_
  refine zr_geti (q := 27) (k0 := 1) g (hI 1 (by decide)) zs_1 rfl zf_X2_40 dX2_readFrom_24 rfl ?_
  refine zr_icmp_ge (q := 30) (tgt := 60) g dX2_readFrom_27 rfl rfl (fun c9 => ?_) (fun c9 => ?_)
  · replace hM := zw_ift c9 hM
    refine zr_lv (lv' := [(0, .ref (E.2.1 t)), (1, .ref (E.2.1 1))]) [0, 1] rfl ?_
    exact U_X2_readFrom_60 k_t ok hI g hr hlk _ _ hM
  · replace hM := zw_iff c9 hM
    refine zr_iload_n (q := 31) g 2 dX2_readFrom_30 rfl rfl rfl ?_
    refine zr_aload_n (q := 32) g 1 dX2_readFrom_31 rfl rfl rfl ?_
    refine zr_getr (q := 35) (k0 := 0) (j := 2) g (hI 1 (by decide)) zs_1 rfl zf_X2_45 dX2_readFrom_32 rfl ?_
    refine zr_alen (q := 36) (v := (36 : Int32)) g (hI 2 (by decide)) zs_2 rfl dX2_readFrom_35 rfl ?_
    refine zr_icmp_ge (q := 39) (tgt := 60) g dX2_readFrom_36 rfl rfl (fun c10 => ?_) (fun c10 => ?_)
    · replace hM := zw_ift c10 hM
      refine zr_lv (lv' := [(0, .ref (E.2.1 t)), (1, .ref (E.2.1 1))]) [0, 1] rfl ?_
      exact U_X2_readFrom_60 k_t ok hI g hr hlk _ _ hM
    · replace hM := zw_iff c10 hM
      refine zr_aload_n (q := 40) g 0 dX2_readFrom_39 rfl rfl rfl ?_
      refine zr_aload_n (q := 41) g 1 dX2_readFrom_40 rfl rfl rfl ?_
      refine zr_getr (q := 44) (k0 := 0) (j := 2) g (hI 1 (by decide)) zs_1 rfl zf_X2_45 dX2_readFrom_41 rfl ?_
      refine zr_iload_n (q := 45) g 2 dX2_readFrom_44 rfl rfl rfl ?_
      obtain ⟨c11, hM⟩ := zw_gd hM
      refine zr_iald (q := 46) g (hI 2 (by decide)) zs_2 c11 dX2_readFrom_45 rfl ?_
      obtain ⟨z12, q13, hM⟩ := zw_bd hM
      refine zr_callV (q := 49) (As := [.int (h.1 2 (x2).toNatClampNeg)]) (rest := []) (st' := [.int z12.1]) (i := t) g (R_X2_takeLetter k_t ok hI q13) zv_X2_takeLetter zl_X2_48 (hI _ (zb_pl0 k_t)) (zs_pl0 k_t) zc_X2.1 dX2_readFrom_46 rfl rfl ⟨Nat.le_of_ble_eq_true rfl, Nat.le_of_ble_eq_true rfl⟩ ⟨Nat.zero_le _, Nat.zero_le _⟩ (Nat.le_of_ble_eq_true rfl) rfl rfl ?_
      refine zr_if_ne (q := 52) (tgt := 54) g dX2_readFrom_49 rfl rfl (fun c14 => ?_) (fun c14 => ?_)
      · replace hM := zw_iff c14 hM
        obtain ⟨y15, e16, hM⟩ := zw_nm_ex hM
        refine zr_iinc (q := 57) (v := y15) (lv' := [(2, .int y15), (0, .ref (E.2.1 t)), (1, .ref (E.2.1 1))]) g 2 dX2_readFrom_54 rfl rfl (by rw [e16]; rfl) (by decide) rfl ?_
        refine zr_goto (tgt := 22) g dX2_readFrom_57 rfl ?_
        refine zr_lv (lv' := [(0, .ref (E.2.1 t)), (1, .ref (E.2.1 1)), (2, .int y15)]) [1, 2, 0] rfl ?_
        exact eL22 _ _ hM
      · replace hM := zw_ift c14 hM
        refine zr_iload_n (q := 53) g 2 dX2_readFrom_52 rfl rfl rfl ?_
        cases hM
        exact zr_iret g hr hlk dX2_readFrom_53 rfl rfl
noncomputable def L_X2_readFrom_22 (t : Nat) (w : Int32 × zw_Hp) : Option (Int32 × zw_Hp) :=
  zw_it (fun (k22 : (Int32 × zw_Hp) → Option (Int32 × zw_Hp)) (w : Int32 × zw_Hp) => B_X2_readFrom_22 t k22 (w.1) (w.2)) 600 w
theorem UL_X2_readFrom_22 {t : Nat} (k_t : t = 3 ∨ t = 6) (ok : zw_Ok E) (hI : ∀ i, i < 48 → i ∈ E.2.2.1) (g : zw_G p E (zw_A E) s m args c RX2 cX2_readFrom 3) (hr : meth.sig.returnType = some .int) (hlk : meth.locks = false) :
    ∀ (w : Int32 × zw_Hp) (z : Int32 × zw_Hp), L_X2_readFrom_22 t w = some z → zw_V p l e s m args below meth c E mt_X2_readFrom 3 (some (.int z.1)) z.2 22 [(0, .ref (E.2.1 t)), (1, .ref (E.2.1 1)), (2, .int w.1)] [] w.2 :=
  fun w z hM => zw_it_ind (P := fun (w : Int32 × zw_Hp) (z : Int32 × zw_Hp) => zw_V p l e s m args below meth c E mt_X2_readFrom 3 (some (.int z.1)) z.2 22 [(0, .ref (E.2.1 t)), (1, .ref (E.2.1 1)), (2, .int w.1)] [] w.2) (fun k e w z hM => U_X2_readFrom_22 k_t ok hI g hr hlk e _ _ _ hM) 600 w z hM
noncomputable def M_X2_readFrom (t : Nat) (h : zw_Hp) : Option (Int32 × zw_Hp) :=
  zw_nm (zw_up h t 2 (0 : Int32)) (fun h1 => zw_nm (zw_up h1 t 3 (0 : Int32)) (fun h3 => zw_nm (zw_up h3 t 4 (0 : Int32)) (fun h5 => zw_nm (zw_up h5 t 8 (0 : Int32)) (fun h7 => L_X2_readFrom_22 t ((0 : Int32), h7)))))
set_option maxRecDepth 100000 in
set_option maxHeartbeats 4000000 in
theorem R_X2_readFrom {t : Nat} (k_t : t = 3 ∨ t = 6) (ok : zw_Ok E) (hI : ∀ i, i < 48 → i ∈ E.2.2.1) {h : zw_Hp} {z : Int32 × zw_Hp} (hM : M_X2_readFrom t h = some z) : zw_Ct l E mt_X2_readFrom [.ref (E.2.1 t), .ref (E.2.1 1)] h (some (.int z.1)) z.2 := by
  unfold M_X2_readFrom at hM
  refine zw_ct (lv0 := [(0, .ref (E.2.1 t)), (1, .ref (E.2.1 1))]) ok (by decide) rfl (Nat.le_of_ble_eq_true rfl) (fun p e s m args below meth c g hr hlk => ?_)
  replace g : zw_G p E (zw_A E) s m args c RX2 cX2_readFrom 3 := g
  show zw_V p l e s m args below meth c E mt_X2_readFrom 3 (some (.int z.1)) z.2 0 [(0, .ref (E.2.1 t)), (1, .ref (E.2.1 1))] [] h
  refine zr_aload_n (q := 1) g 0 dX2_readFrom_0 rfl rfl rfl ?_
  refine zr_iconst (q := 2) (v := (0 : Int32)) g dX2_readFrom_1 rfl (by decide) ?_
  obtain ⟨h1, e2, hM⟩ := zw_nm_ex hM
  refine zr_puti (q := 5) (k0 := 2) (h' := h1) g (hI _ (zb_pl0 k_t)) (zs_pl0 k_t) rfl zp_X2_18 dX2_readFrom_2 rfl e2 ?_
  refine zr_aload_n (q := 6) g 0 dX2_readFrom_5 rfl rfl rfl ?_
  refine zr_iconst (q := 7) (v := (0 : Int32)) g dX2_readFrom_6 rfl (by decide) ?_
  obtain ⟨h3, e4, hM⟩ := zw_nm_ex hM
  refine zr_puti (q := 10) (k0 := 3) (h' := h3) g (hI _ (zb_pl0 k_t)) (zs_pl0 k_t) rfl zp_X2_22 dX2_readFrom_7 rfl e4 ?_
  refine zr_aload_n (q := 11) g 0 dX2_readFrom_10 rfl rfl rfl ?_
  refine zr_iconst (q := 12) (v := (0 : Int32)) g dX2_readFrom_11 rfl (by decide) ?_
  obtain ⟨h5, e6, hM⟩ := zw_nm_ex hM
  refine zr_puti (q := 15) (k0 := 4) (h' := h5) g (hI _ (zb_pl0 k_t)) (zs_pl0 k_t) rfl zp_X2_25 dX2_readFrom_12 rfl e6 ?_
  refine zr_aload_n (q := 16) g 0 dX2_readFrom_15 rfl rfl rfl ?_
  refine zr_iconst (q := 17) (v := (0 : Int32)) g dX2_readFrom_16 rfl (by decide) ?_
  obtain ⟨h7, e8, hM⟩ := zw_nm_ex hM
  refine zr_puti (q := 20) (k0 := 8) (h' := h7) g (hI _ (zb_pl0 k_t)) (zs_pl0 k_t) rfl zp_X2_37 dX2_readFrom_17 rfl e8 ?_
  refine zr_iconst (q := 21) (v := (0 : Int32)) g dX2_readFrom_20 rfl (by decide) ?_
  refine zr_istore_n (q := 22) (lv' := [(2, .int (0 : Int32)), (0, .ref (E.2.1 t)), (1, .ref (E.2.1 1))]) g dX2_readFrom_21 rfl rfl (by decide) rfl ?_
  refine zr_lv (lv' := [(0, .ref (E.2.1 t)), (1, .ref (E.2.1 1)), (2, .int (0 : Int32))]) [1, 2, 0] rfl ?_
  exact UL_X2_readFrom_22 k_t ok hI g hr hlk _ _ hM
noncomputable def M_X7_append (x1 : Int32) (h : zw_Hp) : Option (Int32 × zw_Hp) :=
  if (h.1 1 1) < 0 then (some ((0 : Int32), h)) else (if (h.1 1 1) < (36 : Int32) then (if zw_ok (h.1 1 1) 36 = true then zw_nm (zw_up h 2 ((h.1 1 1)).toNatClampNeg x1) (fun h4 => zw_nm (zw_up h4 1 1 ((h4.1 1 1) + (1 : Int32))) (fun h6 => some ((1 : Int32), h6))) else none) else (some ((0 : Int32), h)))
set_option maxRecDepth 100000 in
set_option maxHeartbeats 4000000 in
theorem R_X7_append (ok : zw_Ok E) (hI : ∀ i, i < 48 → i ∈ E.2.2.1) {x1 : Int32} {h : zw_Hp} {z : Int32 × zw_Hp} (hM : M_X7_append x1 h = some z) : zw_Ct l E mt_X7_append [.ref (E.2.1 1), .int x1] h (some (.int z.1)) z.2 := by
  unfold M_X7_append at hM
  refine zw_ct (lv0 := [(0, .ref (E.2.1 1)), (1, .int x1)]) ok (by decide) rfl (Nat.le_of_ble_eq_true rfl) (fun p e s m args below meth c g hr hlk => ?_)
  replace g : zw_G p E (zw_A E) s m args c RX7 cX7_append 2 := g
  show zw_V p l e s m args below meth c E mt_X7_append 2 (some (.int z.1)) z.2 0 [(0, .ref (E.2.1 1)), (1, .int x1)] [] h
  refine zr_aload_n (q := 1) g 0 dX7_append_0 rfl rfl rfl ?_
  refine zr_geti (q := 4) (k0 := 1) g (hI 1 (by decide)) zs_1 rfl zf_X7_15 dX7_append_1 rfl ?_
  refine zr_if_lt (q := 7) (tgt := 19) g dX7_append_4 rfl rfl (fun c1 => ?_) (fun c1 => ?_)
  · replace hM := zw_ift c1 hM
    refine zr_iconst (q := 20) (v := (0 : Int32)) g dX7_append_19 rfl (by decide) ?_
    cases hM
    exact zr_zret g hr hlk (by decide) dX7_append_20 rfl rfl
  · replace hM := zw_iff c1 hM
    refine zr_aload_n (q := 8) g 0 dX7_append_7 rfl rfl rfl ?_
    refine zr_geti (q := 11) (k0 := 1) g (hI 1 (by decide)) zs_1 rfl zf_X7_15 dX7_append_8 rfl ?_
    refine zr_aload_n (q := 12) g 0 dX7_append_11 rfl rfl rfl ?_
    refine zr_getr (q := 15) (k0 := 0) (j := 2) g (hI 1 (by decide)) zs_1 rfl zf_X7_9 dX7_append_12 rfl ?_
    refine zr_alen (q := 16) (v := (36 : Int32)) g (hI 2 (by decide)) zs_2 rfl dX7_append_15 rfl ?_
    refine zr_icmp_lt (q := 19) (tgt := 21) g dX7_append_16 rfl rfl (fun c2 => ?_) (fun c2 => ?_)
    · replace hM := zw_ift c2 hM
      refine zr_aload_n (q := 22) g 0 dX7_append_21 rfl rfl rfl ?_
      refine zr_getr (q := 25) (k0 := 0) (j := 2) g (hI 1 (by decide)) zs_1 rfl zf_X7_9 dX7_append_22 rfl ?_
      refine zr_aload_n (q := 26) g 0 dX7_append_25 rfl rfl rfl ?_
      refine zr_geti (q := 29) (k0 := 1) g (hI 1 (by decide)) zs_1 rfl zf_X7_15 dX7_append_26 rfl ?_
      refine zr_iload_n (q := 30) g 1 dX7_append_29 rfl rfl rfl ?_
      obtain ⟨c3, hM⟩ := zw_gd hM
      obtain ⟨h4, e5, hM⟩ := zw_nm_ex hM
      refine zr_iast (q := 31) (h' := h4) g (hI 2 (by decide)) zs_2 c3 dX7_append_30 rfl e5 ?_
      refine zr_aload_n (q := 32) g 0 dX7_append_31 rfl rfl rfl ?_
      refine zr_dup (q := 33) g dX7_append_32 rfl rfl ?_
      refine zr_geti (q := 36) (k0 := 1) g (hI 1 (by decide)) zs_1 rfl zf_X7_15 dX7_append_33 rfl ?_
      refine zr_iconst (q := 37) (v := (1 : Int32)) g dX7_append_36 rfl (by decide) ?_
      refine zr_iadd (q := 38) g dX7_append_37 rfl ?_
      obtain ⟨h6, e7, hM⟩ := zw_nm_ex hM
      refine zr_puti (q := 41) (k0 := 1) (h' := h6) g (hI 1 (by decide)) zs_1 rfl zp_X7_15 dX7_append_38 rfl e7 ?_
      refine zr_iconst (q := 42) (v := (1 : Int32)) g dX7_append_41 rfl (by decide) ?_
      cases hM
      exact zr_zret g hr hlk (by decide) dX7_append_42 rfl rfl
    · replace hM := zw_iff c2 hM
      refine zr_iconst (q := 20) (v := (0 : Int32)) g dX7_append_19 rfl (by decide) ?_
      cases hM
      exact zr_zret g hr hlk (by decide) dX7_append_20 rfl rfl
noncomputable def B_X3_setUp_58 (t : Nat) (k26 : (Int32 × zw_Hp) → Option (zw_Hp)) (x1 : Int32) (s0 : Int32) (s1 : Int32) (h : zw_Hp) : Option (zw_Hp) :=
  if zw_ok s1 4 = true then zw_nm (zw_up h (t + 2) (s1).toNatClampNeg s0) (fun h10 => zw_nm (x1 + (1 : Int32)) (fun y12 => k26 (y12, h10))) else none
set_option maxRecDepth 100000 in
set_option maxHeartbeats 4000000 in
theorem U_X3_setUp_58 {t : Nat} (k_t : t = 9 ∨ t = 14) (ok : zw_Ok E) (hI : ∀ i, (i = 6 ∨ (t ≤ i ∧ i ≤ t + 4)) → i ∈ E.2.2.1) (g : zw_G p E (zw_A E) s m args c RX3 cX3_setUp 2) (hr : meth.sig.returnType = none) (hlk : meth.locks = false) {k26 : (Int32 × zw_Hp) → Option (zw_Hp)} (eL26 : ∀ (w : Int32 × zw_Hp) (z : zw_Hp), k26 w = some z → zw_V p l e s m args below meth c E mt_X3_setUp 2 none z 26 [(0, .ref (E.2.1 t)), (1, .int w.1)] [] w.2) :
    ∀ (x1 : Int32) (s0 : Int32) (s1 : Int32) (h : zw_Hp) (z : zw_Hp), B_X3_setUp_58 t k26 x1 s0 s1 h = some z → zw_V p l e s m args below meth c E mt_X3_setUp 2 none z 58 [(0, .ref (E.2.1 t)), (1, .int x1)] [.int s0, .int s1, .ref (E.2.1 (t + 2))] h := by
  intro x1 s0 s1 h z hM
  unfold B_X3_setUp_58 at hM
  obtain ⟨c9, hM⟩ := zw_gd hM
  obtain ⟨h10, e11, hM⟩ := zw_nm_ex hM
  refine zr_iast (q := 59) (h' := h10) g (hI _ (Or.inr ⟨by omega, by omega⟩)) (zs_sc2 k_t) c9 dX3_setUp_58 rfl e11 ?_
  obtain ⟨y12, e13, hM⟩ := zw_nm_ex hM
  refine zr_iinc (q := 62) (v := y12) (lv' := [(1, .int y12), (0, .ref (E.2.1 t))]) g 1 dX3_setUp_59 rfl rfl (by rw [e13]; rfl) (by decide) rfl ?_
  refine zr_goto (tgt := 26) g dX3_setUp_62 rfl ?_
  refine zr_lv (lv' := [(0, .ref (E.2.1 t)), (1, .int y12)]) [1, 0] rfl ?_
  exact eL26 _ _ hM
noncomputable def B_X3_setUp_91 (t : Nat) (k91 : (Int32 × zw_Hp) → Option (zw_Hp)) (x1 : Int32) (h : zw_Hp) : Option (zw_Hp) :=
  if (4 : Int32) ≤ x1 then (zw_nm (zw_up h t 5 (h.1 6 4)) (fun h21 => zw_nm (zw_up h21 t 6 (h21.1 6 5)) (fun h23 => zw_nm (zw_up h23 t 7 (0 : Int32)) (fun h25 => zw_nm (zw_up h25 t 8 (0 : Int32)) (fun h27 => zw_nm (zw_up h27 t 9 (0 : Int32)) (fun h29 => some h29)))))) else (if zw_ok x1 4 = true then zw_nm (zw_up h (t + 4) (x1).toNatClampNeg (0 : Int32)) (fun h32 => zw_nm (x1 + (1 : Int32)) (fun y34 => k91 (y34, h32))) else none)
set_option maxRecDepth 100000 in
set_option maxHeartbeats 4000000 in
theorem U_X3_setUp_91 {t : Nat} (k_t : t = 9 ∨ t = 14) (ok : zw_Ok E) (hI : ∀ i, (i = 6 ∨ (t ≤ i ∧ i ≤ t + 4)) → i ∈ E.2.2.1) (g : zw_G p E (zw_A E) s m args c RX3 cX3_setUp 2) (hr : meth.sig.returnType = none) (hlk : meth.locks = false) {k91 : (Int32 × zw_Hp) → Option (zw_Hp)} (eL91 : ∀ (w : Int32 × zw_Hp) (z : zw_Hp), k91 w = some z → zw_V p l e s m args below meth c E mt_X3_setUp 2 none z 91 [(0, .ref (E.2.1 t)), (1, .int w.1)] [] w.2) :
    ∀ (x1 : Int32) (h : zw_Hp) (z : zw_Hp), B_X3_setUp_91 t k91 x1 h = some z → zw_V p l e s m args below meth c E mt_X3_setUp 2 none z 91 [(0, .ref (E.2.1 t)), (1, .int x1)] [] h := by
  intro x1 h z hM
  unfold B_X3_setUp_91 at hM
  refine zr_iload_n (q := 92) g 1 dX3_setUp_91 rfl rfl rfl ?_
  refine zr_aload_n (q := 93) g 0 dX3_setUp_92 rfl rfl rfl ?_
  refine zr_getr (q := 96) (k0 := 4) (j := (t + 4)) g (hI _ (Or.inr ⟨by omega, by omega⟩)) (zs_sc0 k_t) rfl zf_X3_21 dX3_setUp_93 rfl ?_
  refine zr_alen (q := 97) (v := (4 : Int32)) g (hI _ (Or.inr ⟨by omega, by omega⟩)) (zs_sc4 k_t) rfl dX3_setUp_96 rfl ?_
  refine zr_icmp_ge (q := 100) (tgt := 113) g dX3_setUp_97 rfl rfl (fun c20 => ?_) (fun c20 => ?_)
  · replace hM := zw_ift c20 hM
    refine zr_aload_n (q := 114) g 0 dX3_setUp_113 rfl rfl rfl ?_
    refine zr_aload_n (q := 115) g 0 dX3_setUp_114 rfl rfl rfl ?_
    refine zr_getr (q := 118) (k0 := 0) (j := 6) g (hI _ (Or.inr ⟨by omega, by omega⟩)) (zs_sc0 k_t) rfl zf_X3_24 dX3_setUp_115 rfl ?_
    refine zr_geti (q := 121) (k0 := 4) g (hI 6 (Or.inl rfl)) zs_6 rfl zf_X3_37 dX3_setUp_118 rfl ?_
    obtain ⟨h21, e22, hM⟩ := zw_nm_ex hM
    refine zr_puti (q := 124) (k0 := 5) (h' := h21) g (hI _ (Or.inr ⟨by omega, by omega⟩)) (zs_sc0 k_t) rfl zp_X3_40 dX3_setUp_121 rfl e22 ?_
    refine zr_aload_n (q := 125) g 0 dX3_setUp_124 rfl rfl rfl ?_
    refine zr_aload_n (q := 126) g 0 dX3_setUp_125 rfl rfl rfl ?_
    refine zr_getr (q := 129) (k0 := 0) (j := 6) g (hI _ (Or.inr ⟨by omega, by omega⟩)) (zs_sc0 k_t) rfl zf_X3_24 dX3_setUp_126 rfl ?_
    refine zr_geti (q := 132) (k0 := 5) g (hI 6 (Or.inl rfl)) zs_6 rfl zf_X3_41 dX3_setUp_129 rfl ?_
    obtain ⟨h23, e24, hM⟩ := zw_nm_ex hM
    refine zr_puti (q := 135) (k0 := 6) (h' := h23) g (hI _ (Or.inr ⟨by omega, by omega⟩)) (zs_sc0 k_t) rfl zp_X3_44 dX3_setUp_132 rfl e24 ?_
    refine zr_aload_n (q := 136) g 0 dX3_setUp_135 rfl rfl rfl ?_
    refine zr_iconst (q := 137) (v := (0 : Int32)) g dX3_setUp_136 rfl (by decide) ?_
    obtain ⟨h25, e26, hM⟩ := zw_nm_ex hM
    refine zr_puti (q := 140) (k0 := 7) (h' := h25) g (hI _ (Or.inr ⟨by omega, by omega⟩)) (zs_sc0 k_t) rfl zp_X3_45 dX3_setUp_137 rfl e26 ?_
    refine zr_aload_n (q := 141) g 0 dX3_setUp_140 rfl rfl rfl ?_
    refine zr_iconst (q := 142) (v := (0 : Int32)) g dX3_setUp_141 rfl (by decide) ?_
    obtain ⟨h27, e28, hM⟩ := zw_nm_ex hM
    refine zr_puti (q := 145) (k0 := 8) (h' := h27) g (hI _ (Or.inr ⟨by omega, by omega⟩)) (zs_sc0 k_t) rfl zp_X3_48 dX3_setUp_142 rfl e28 ?_
    refine zr_aload_n (q := 146) g 0 dX3_setUp_145 rfl rfl rfl ?_
    refine zr_iconst (q := 147) (v := (0 : Int32)) g dX3_setUp_146 rfl (by decide) ?_
    obtain ⟨h29, e30, hM⟩ := zw_nm_ex hM
    refine zr_puti (q := 150) (k0 := 9) (h' := h29) g (hI _ (Or.inr ⟨by omega, by omega⟩)) (zs_sc0 k_t) rfl zp_X3_51 dX3_setUp_147 rfl e30 ?_
    cases hM
    exact zr_vret g hr hlk dX3_setUp_150 rfl rfl
  · replace hM := zw_iff c20 hM
    refine zr_aload_n (q := 101) g 0 dX3_setUp_100 rfl rfl rfl ?_
    refine zr_getr (q := 104) (k0 := 4) (j := (t + 4)) g (hI _ (Or.inr ⟨by omega, by omega⟩)) (zs_sc0 k_t) rfl zf_X3_21 dX3_setUp_101 rfl ?_
    refine zr_iload_n (q := 105) g 1 dX3_setUp_104 rfl rfl rfl ?_
    refine zr_iconst (q := 106) (v := (0 : Int32)) g dX3_setUp_105 rfl (by decide) ?_
    obtain ⟨c31, hM⟩ := zw_gd hM
    obtain ⟨h32, e33, hM⟩ := zw_nm_ex hM
    refine zr_iast (q := 107) (h' := h32) g (hI _ (Or.inr ⟨by omega, by omega⟩)) (zs_sc4 k_t) c31 dX3_setUp_106 rfl e33 ?_
    obtain ⟨y34, e35, hM⟩ := zw_nm_ex hM
    refine zr_iinc (q := 110) (v := y34) (lv' := [(1, .int y34), (0, .ref (E.2.1 t))]) g 1 dX3_setUp_107 rfl rfl (by rw [e35]; rfl) (by decide) rfl ?_
    refine zr_goto (tgt := 91) g dX3_setUp_110 rfl ?_
    refine zr_lv (lv' := [(0, .ref (E.2.1 t)), (1, .int y34)]) [1, 0] rfl ?_
    exact eL91 _ _ hM
noncomputable def L_X3_setUp_91 (t : Nat) (w : Int32 × zw_Hp) : Option (zw_Hp) :=
  zw_it (fun (k91 : (Int32 × zw_Hp) → Option (zw_Hp)) (w : Int32 × zw_Hp) => B_X3_setUp_91 t k91 (w.1) (w.2)) 600 w
theorem UL_X3_setUp_91 {t : Nat} (k_t : t = 9 ∨ t = 14) (ok : zw_Ok E) (hI : ∀ i, (i = 6 ∨ (t ≤ i ∧ i ≤ t + 4)) → i ∈ E.2.2.1) (g : zw_G p E (zw_A E) s m args c RX3 cX3_setUp 2) (hr : meth.sig.returnType = none) (hlk : meth.locks = false) :
    ∀ (w : Int32 × zw_Hp) (z : zw_Hp), L_X3_setUp_91 t w = some z → zw_V p l e s m args below meth c E mt_X3_setUp 2 none z 91 [(0, .ref (E.2.1 t)), (1, .int w.1)] [] w.2 :=
  fun w z hM => zw_it_ind (P := fun (w : Int32 × zw_Hp) (z : zw_Hp) => zw_V p l e s m args below meth c E mt_X3_setUp 2 none z 91 [(0, .ref (E.2.1 t)), (1, .int w.1)] [] w.2) (fun k e w z hM => U_X3_setUp_91 k_t ok hI g hr hlk e _ _ _ hM) 600 w z hM
noncomputable def B_X3_setUp_67 (t : Nat) (k67 : (Int32 × zw_Hp) → Option (zw_Hp)) (x1 : Int32) (h : zw_Hp) : Option (zw_Hp) :=
  if (4 : Int32) ≤ x1 then (L_X3_setUp_91 t ((0 : Int32), h)) else (if zw_ok x1 4 = true then zw_nm (zw_up h (t + 3) (x1).toNatClampNeg (0 : Int32)) (fun h16 => zw_nm (x1 + (1 : Int32)) (fun y18 => k67 (y18, h16))) else none)
set_option maxRecDepth 100000 in
set_option maxHeartbeats 4000000 in
theorem U_X3_setUp_67 {t : Nat} (k_t : t = 9 ∨ t = 14) (ok : zw_Ok E) (hI : ∀ i, (i = 6 ∨ (t ≤ i ∧ i ≤ t + 4)) → i ∈ E.2.2.1) (g : zw_G p E (zw_A E) s m args c RX3 cX3_setUp 2) (hr : meth.sig.returnType = none) (hlk : meth.locks = false) {k67 : (Int32 × zw_Hp) → Option (zw_Hp)} (eL67 : ∀ (w : Int32 × zw_Hp) (z : zw_Hp), k67 w = some z → zw_V p l e s m args below meth c E mt_X3_setUp 2 none z 67 [(0, .ref (E.2.1 t)), (1, .int w.1)] [] w.2) :
    ∀ (x1 : Int32) (h : zw_Hp) (z : zw_Hp), B_X3_setUp_67 t k67 x1 h = some z → zw_V p l e s m args below meth c E mt_X3_setUp 2 none z 67 [(0, .ref (E.2.1 t)), (1, .int x1)] [] h := by
  intro x1 h z hM
  unfold B_X3_setUp_67 at hM
  refine zr_iload_n (q := 68) g 1 dX3_setUp_67 rfl rfl rfl ?_
  refine zr_aload_n (q := 69) g 0 dX3_setUp_68 rfl rfl rfl ?_
  refine zr_getr (q := 72) (k0 := 3) (j := (t + 3)) g (hI _ (Or.inr ⟨by omega, by omega⟩)) (zs_sc0 k_t) rfl zf_X3_18 dX3_setUp_69 rfl ?_
  refine zr_alen (q := 73) (v := (4 : Int32)) g (hI _ (Or.inr ⟨by omega, by omega⟩)) (zs_sc3 k_t) rfl dX3_setUp_72 rfl ?_
  refine zr_icmp_ge (q := 76) (tgt := 89) g dX3_setUp_73 rfl rfl (fun c14 => ?_) (fun c14 => ?_)
  · replace hM := zw_ift c14 hM
    refine zr_iconst (q := 90) (v := (0 : Int32)) g dX3_setUp_89 rfl (by decide) ?_
    refine zr_istore_n (q := 91) (lv' := [(1, .int (0 : Int32)), (0, .ref (E.2.1 t))]) g dX3_setUp_90 rfl rfl (by decide) rfl ?_
    refine zr_lv (lv' := [(0, .ref (E.2.1 t)), (1, .int (0 : Int32))]) [1, 0] rfl ?_
    exact UL_X3_setUp_91 k_t ok hI g hr hlk _ _ hM
  · replace hM := zw_iff c14 hM
    refine zr_aload_n (q := 77) g 0 dX3_setUp_76 rfl rfl rfl ?_
    refine zr_getr (q := 80) (k0 := 3) (j := (t + 3)) g (hI _ (Or.inr ⟨by omega, by omega⟩)) (zs_sc0 k_t) rfl zf_X3_18 dX3_setUp_77 rfl ?_
    refine zr_iload_n (q := 81) g 1 dX3_setUp_80 rfl rfl rfl ?_
    refine zr_iconst (q := 82) (v := (0 : Int32)) g dX3_setUp_81 rfl (by decide) ?_
    obtain ⟨c15, hM⟩ := zw_gd hM
    obtain ⟨h16, e17, hM⟩ := zw_nm_ex hM
    refine zr_iast (q := 83) (h' := h16) g (hI _ (Or.inr ⟨by omega, by omega⟩)) (zs_sc3 k_t) c15 dX3_setUp_82 rfl e17 ?_
    obtain ⟨y18, e19, hM⟩ := zw_nm_ex hM
    refine zr_iinc (q := 86) (v := y18) (lv' := [(1, .int y18), (0, .ref (E.2.1 t))]) g 1 dX3_setUp_83 rfl rfl (by rw [e19]; rfl) (by decide) rfl ?_
    refine zr_goto (tgt := 67) g dX3_setUp_86 rfl ?_
    refine zr_lv (lv' := [(0, .ref (E.2.1 t)), (1, .int y18)]) [1, 0] rfl ?_
    exact eL67 _ _ hM
noncomputable def L_X3_setUp_67 (t : Nat) (w : Int32 × zw_Hp) : Option (zw_Hp) :=
  zw_it (fun (k67 : (Int32 × zw_Hp) → Option (zw_Hp)) (w : Int32 × zw_Hp) => B_X3_setUp_67 t k67 (w.1) (w.2)) 600 w
theorem UL_X3_setUp_67 {t : Nat} (k_t : t = 9 ∨ t = 14) (ok : zw_Ok E) (hI : ∀ i, (i = 6 ∨ (t ≤ i ∧ i ≤ t + 4)) → i ∈ E.2.2.1) (g : zw_G p E (zw_A E) s m args c RX3 cX3_setUp 2) (hr : meth.sig.returnType = none) (hlk : meth.locks = false) :
    ∀ (w : Int32 × zw_Hp) (z : zw_Hp), L_X3_setUp_67 t w = some z → zw_V p l e s m args below meth c E mt_X3_setUp 2 none z 67 [(0, .ref (E.2.1 t)), (1, .int w.1)] [] w.2 :=
  fun w z hM => zw_it_ind (P := fun (w : Int32 × zw_Hp) (z : zw_Hp) => zw_V p l e s m args below meth c E mt_X3_setUp 2 none z 67 [(0, .ref (E.2.1 t)), (1, .int w.1)] [] w.2) (fun k e w z hM => U_X3_setUp_67 k_t ok hI g hr hlk e _ _ _ hM) 600 w z hM
noncomputable def B_X3_setUp_26 (t : Nat) (k26 : (Int32 × zw_Hp) → Option (zw_Hp)) (x1 : Int32) (h : zw_Hp) : Option (zw_Hp) :=
  if (4 : Int32) ≤ x1 then (L_X3_setUp_67 t ((0 : Int32), h)) else (if (h.1 6 3) ≤ x1 then (B_X3_setUp_58 t k26 x1 (10 : Int32) x1 h) else (B_X3_setUp_58 t k26 x1 (8 : Int32) x1 h))
set_option maxRecDepth 100000 in
set_option maxHeartbeats 4000000 in
theorem U_X3_setUp_26 {t : Nat} (k_t : t = 9 ∨ t = 14) (ok : zw_Ok E) (hI : ∀ i, (i = 6 ∨ (t ≤ i ∧ i ≤ t + 4)) → i ∈ E.2.2.1) (g : zw_G p E (zw_A E) s m args c RX3 cX3_setUp 2) (hr : meth.sig.returnType = none) (hlk : meth.locks = false) {k26 : (Int32 × zw_Hp) → Option (zw_Hp)} (eL26 : ∀ (w : Int32 × zw_Hp) (z : zw_Hp), k26 w = some z → zw_V p l e s m args below meth c E mt_X3_setUp 2 none z 26 [(0, .ref (E.2.1 t)), (1, .int w.1)] [] w.2) :
    ∀ (x1 : Int32) (h : zw_Hp) (z : zw_Hp), B_X3_setUp_26 t k26 x1 h = some z → zw_V p l e s m args below meth c E mt_X3_setUp 2 none z 26 [(0, .ref (E.2.1 t)), (1, .int x1)] [] h := by
  intro x1 h z hM
  unfold B_X3_setUp_26 at hM
  refine zr_iload_n (q := 27) g 1 dX3_setUp_26 rfl rfl rfl ?_
  refine zr_aload_n (q := 28) g 0 dX3_setUp_27 rfl rfl rfl ?_
  refine zr_getr (q := 31) (k0 := 2) (j := (t + 2)) g (hI _ (Or.inr ⟨by omega, by omega⟩)) (zs_sc0 k_t) rfl zf_X3_15 dX3_setUp_28 rfl ?_
  refine zr_alen (q := 32) (v := (4 : Int32)) g (hI _ (Or.inr ⟨by omega, by omega⟩)) (zs_sc2 k_t) rfl dX3_setUp_31 rfl ?_
  refine zr_icmp_ge (q := 35) (tgt := 65) g dX3_setUp_32 rfl rfl (fun c7 => ?_) (fun c7 => ?_)
  · replace hM := zw_ift c7 hM
    refine zr_iconst (q := 66) (v := (0 : Int32)) g dX3_setUp_65 rfl (by decide) ?_
    refine zr_istore_n (q := 67) (lv' := [(1, .int (0 : Int32)), (0, .ref (E.2.1 t))]) g dX3_setUp_66 rfl rfl (by decide) rfl ?_
    refine zr_lv (lv' := [(0, .ref (E.2.1 t)), (1, .int (0 : Int32))]) [1, 0] rfl ?_
    exact UL_X3_setUp_67 k_t ok hI g hr hlk _ _ hM
  · replace hM := zw_iff c7 hM
    refine zr_aload_n (q := 36) g 0 dX3_setUp_35 rfl rfl rfl ?_
    refine zr_getr (q := 39) (k0 := 2) (j := (t + 2)) g (hI _ (Or.inr ⟨by omega, by omega⟩)) (zs_sc0 k_t) rfl zf_X3_15 dX3_setUp_36 rfl ?_
    refine zr_iload_n (q := 40) g 1 dX3_setUp_39 rfl rfl rfl ?_
    refine zr_iload_n (q := 41) g 1 dX3_setUp_40 rfl rfl rfl ?_
    refine zr_aload_n (q := 42) g 0 dX3_setUp_41 rfl rfl rfl ?_
    refine zr_getr (q := 45) (k0 := 0) (j := 6) g (hI _ (Or.inr ⟨by omega, by omega⟩)) (zs_sc0 k_t) rfl zf_X3_24 dX3_setUp_42 rfl ?_
    refine zr_geti (q := 48) (k0 := 3) g (hI 6 (Or.inl rfl)) zs_6 rfl zf_X3_31 dX3_setUp_45 rfl ?_
    refine zr_icmp_ge (q := 51) (tgt := 56) g dX3_setUp_48 rfl rfl (fun c8 => ?_) (fun c8 => ?_)
    · replace hM := zw_ift c8 hM
      refine zr_bipush (q := 58) (v := (10 : Int32)) g dX3_setUp_56 rfl (by decide) ?_
      exact U_X3_setUp_58 k_t ok hI g hr hlk eL26 _ _ _ _ _ hM
    · replace hM := zw_iff c8 hM
      refine zr_bipush (q := 53) (v := (8 : Int32)) g dX3_setUp_51 rfl (by decide) ?_
      refine zr_goto (tgt := 58) g dX3_setUp_53 rfl ?_
      exact U_X3_setUp_58 k_t ok hI g hr hlk eL26 _ _ _ _ _ hM
noncomputable def L_X3_setUp_26 (t : Nat) (w : Int32 × zw_Hp) : Option (zw_Hp) :=
  zw_it (fun (k26 : (Int32 × zw_Hp) → Option (zw_Hp)) (w : Int32 × zw_Hp) => B_X3_setUp_26 t k26 (w.1) (w.2)) 600 w
theorem UL_X3_setUp_26 {t : Nat} (k_t : t = 9 ∨ t = 14) (ok : zw_Ok E) (hI : ∀ i, (i = 6 ∨ (t ≤ i ∧ i ≤ t + 4)) → i ∈ E.2.2.1) (g : zw_G p E (zw_A E) s m args c RX3 cX3_setUp 2) (hr : meth.sig.returnType = none) (hlk : meth.locks = false) :
    ∀ (w : Int32 × zw_Hp) (z : zw_Hp), L_X3_setUp_26 t w = some z → zw_V p l e s m args below meth c E mt_X3_setUp 2 none z 26 [(0, .ref (E.2.1 t)), (1, .int w.1)] [] w.2 :=
  fun w z hM => zw_it_ind (P := fun (w : Int32 × zw_Hp) (z : zw_Hp) => zw_V p l e s m args below meth c E mt_X3_setUp 2 none z 26 [(0, .ref (E.2.1 t)), (1, .int w.1)] [] w.2) (fun k e w z hM => U_X3_setUp_26 k_t ok hI g hr hlk e _ _ _ hM) 600 w z hM
noncomputable def B_X3_setUp_2 (t : Nat) (k2 : (Int32 × zw_Hp) → Option (zw_Hp)) (x1 : Int32) (h : zw_Hp) : Option (zw_Hp) :=
  if (5 : Int32) ≤ x1 then (L_X3_setUp_26 t ((0 : Int32), h)) else (if zw_ok x1 5 = true then zw_nm (zw_up h (t + 1) (x1).toNatClampNeg x1) (fun h3 => zw_nm (x1 + (1 : Int32)) (fun y5 => k2 (y5, h3))) else none)
set_option maxRecDepth 100000 in
set_option maxHeartbeats 4000000 in
theorem U_X3_setUp_2 {t : Nat} (k_t : t = 9 ∨ t = 14) (ok : zw_Ok E) (hI : ∀ i, (i = 6 ∨ (t ≤ i ∧ i ≤ t + 4)) → i ∈ E.2.2.1) (g : zw_G p E (zw_A E) s m args c RX3 cX3_setUp 2) (hr : meth.sig.returnType = none) (hlk : meth.locks = false) {k2 : (Int32 × zw_Hp) → Option (zw_Hp)} (eL2 : ∀ (w : Int32 × zw_Hp) (z : zw_Hp), k2 w = some z → zw_V p l e s m args below meth c E mt_X3_setUp 2 none z 2 [(0, .ref (E.2.1 t)), (1, .int w.1)] [] w.2) :
    ∀ (x1 : Int32) (h : zw_Hp) (z : zw_Hp), B_X3_setUp_2 t k2 x1 h = some z → zw_V p l e s m args below meth c E mt_X3_setUp 2 none z 2 [(0, .ref (E.2.1 t)), (1, .int x1)] [] h := by
  intro x1 h z hM
  unfold B_X3_setUp_2 at hM
  refine zr_iload_n (q := 3) g 1 dX3_setUp_2 rfl rfl rfl ?_
  refine zr_aload_n (q := 4) g 0 dX3_setUp_3 rfl rfl rfl ?_
  refine zr_getr (q := 7) (k0 := 1) (j := (t + 1)) g (hI _ (Or.inr ⟨by omega, by omega⟩)) (zs_sc0 k_t) rfl zf_X3_9 dX3_setUp_4 rfl ?_
  refine zr_alen (q := 8) (v := (5 : Int32)) g (hI _ (Or.inr ⟨by omega, by omega⟩)) (zs_sc1 k_t) rfl dX3_setUp_7 rfl ?_
  refine zr_icmp_ge (q := 11) (tgt := 24) g dX3_setUp_8 rfl rfl (fun c1 => ?_) (fun c1 => ?_)
  · replace hM := zw_ift c1 hM
    refine zr_iconst (q := 25) (v := (0 : Int32)) g dX3_setUp_24 rfl (by decide) ?_
    refine zr_istore_n (q := 26) (lv' := [(1, .int (0 : Int32)), (0, .ref (E.2.1 t))]) g dX3_setUp_25 rfl rfl (by decide) rfl ?_
    refine zr_lv (lv' := [(0, .ref (E.2.1 t)), (1, .int (0 : Int32))]) [1, 0] rfl ?_
    exact UL_X3_setUp_26 k_t ok hI g hr hlk _ _ hM
  · replace hM := zw_iff c1 hM
    refine zr_aload_n (q := 12) g 0 dX3_setUp_11 rfl rfl rfl ?_
    refine zr_getr (q := 15) (k0 := 1) (j := (t + 1)) g (hI _ (Or.inr ⟨by omega, by omega⟩)) (zs_sc0 k_t) rfl zf_X3_9 dX3_setUp_12 rfl ?_
    refine zr_iload_n (q := 16) g 1 dX3_setUp_15 rfl rfl rfl ?_
    refine zr_iload_n (q := 17) g 1 dX3_setUp_16 rfl rfl rfl ?_
    obtain ⟨c2, hM⟩ := zw_gd hM
    obtain ⟨h3, e4, hM⟩ := zw_nm_ex hM
    refine zr_iast (q := 18) (h' := h3) g (hI _ (Or.inr ⟨by omega, by omega⟩)) (zs_sc1 k_t) c2 dX3_setUp_17 rfl e4 ?_
    obtain ⟨y5, e6, hM⟩ := zw_nm_ex hM
    refine zr_iinc (q := 21) (v := y5) (lv' := [(1, .int y5), (0, .ref (E.2.1 t))]) g 1 dX3_setUp_18 rfl rfl (by rw [e6]; rfl) (by decide) rfl ?_
    refine zr_goto (tgt := 2) g dX3_setUp_21 rfl ?_
    refine zr_lv (lv' := [(0, .ref (E.2.1 t)), (1, .int y5)]) [1, 0] rfl ?_
    exact eL2 _ _ hM
noncomputable def L_X3_setUp_2 (t : Nat) (w : Int32 × zw_Hp) : Option (zw_Hp) :=
  zw_it (fun (k2 : (Int32 × zw_Hp) → Option (zw_Hp)) (w : Int32 × zw_Hp) => B_X3_setUp_2 t k2 (w.1) (w.2)) 600 w
theorem UL_X3_setUp_2 {t : Nat} (k_t : t = 9 ∨ t = 14) (ok : zw_Ok E) (hI : ∀ i, (i = 6 ∨ (t ≤ i ∧ i ≤ t + 4)) → i ∈ E.2.2.1) (g : zw_G p E (zw_A E) s m args c RX3 cX3_setUp 2) (hr : meth.sig.returnType = none) (hlk : meth.locks = false) :
    ∀ (w : Int32 × zw_Hp) (z : zw_Hp), L_X3_setUp_2 t w = some z → zw_V p l e s m args below meth c E mt_X3_setUp 2 none z 2 [(0, .ref (E.2.1 t)), (1, .int w.1)] [] w.2 :=
  fun w z hM => zw_it_ind (P := fun (w : Int32 × zw_Hp) (z : zw_Hp) => zw_V p l e s m args below meth c E mt_X3_setUp 2 none z 2 [(0, .ref (E.2.1 t)), (1, .int w.1)] [] w.2) (fun k e w z hM => U_X3_setUp_2 k_t ok hI g hr hlk e _ _ _ hM) 600 w z hM
noncomputable def M_X3_setUp (t : Nat) (h : zw_Hp) : Option (zw_Hp) :=
  L_X3_setUp_2 t ((0 : Int32), h)
set_option maxRecDepth 100000 in
set_option maxHeartbeats 4000000 in
theorem R_X3_setUp {t : Nat} (k_t : t = 9 ∨ t = 14) (ok : zw_Ok E) (hI : ∀ i, (i = 6 ∨ (t ≤ i ∧ i ≤ t + 4)) → i ∈ E.2.2.1) {h : zw_Hp} {z : zw_Hp} (hM : M_X3_setUp t h = some z) : zw_Ct l E mt_X3_setUp [.ref (E.2.1 t)] h none z := by
  unfold M_X3_setUp at hM
  refine zw_ct (lv0 := [(0, .ref (E.2.1 t))]) ok (by decide) rfl (Nat.le_of_ble_eq_true rfl) (fun p e s m args below meth c g hr hlk => ?_)
  replace g : zw_G p E (zw_A E) s m args c RX3 cX3_setUp 2 := g
  show zw_V p l e s m args below meth c E mt_X3_setUp 2 none z 0 [(0, .ref (E.2.1 t))] [] h
  refine zr_iconst (q := 1) (v := (0 : Int32)) g dX3_setUp_0 rfl (by decide) ?_
  refine zr_istore_n (q := 2) (lv' := [(1, .int (0 : Int32)), (0, .ref (E.2.1 t))]) g dX3_setUp_1 rfl rfl (by decide) rfl ?_
  refine zr_lv (lv' := [(0, .ref (E.2.1 t)), (1, .int (0 : Int32))]) [1, 0] rfl ?_
  exact UL_X3_setUp_2 k_t ok hI g hr hlk _ _ hM
noncomputable def M_X3_copyFrom (t : Nat) (u : Nat) (h : zw_Hp) : Option (zw_Hp) :=
  if ¬ (0 : Int32) < 0 ∧ ¬ (0 : Int32) < 0 ∧ ¬ (5 : Int32) < 0 ∧ ((0 : Int32)).toNatClampNeg + ((5 : Int32)).toNatClampNeg ≤ 5 ∧ ((0 : Int32)).toNatClampNeg + ((5 : Int32)).toNatClampNeg ≤ 5 then zw_nm (zw_upR h (t + 1) (va_cpy (h.1 (u + 1)) (h.1 (t + 1)) ((0 : Int32)).toNatClampNeg ((0 : Int32)).toNatClampNeg ((5 : Int32)).toNatClampNeg)) (fun h2 => if ¬ (0 : Int32) < 0 ∧ ¬ (0 : Int32) < 0 ∧ ¬ (4 : Int32) < 0 ∧ ((0 : Int32)).toNatClampNeg + ((4 : Int32)).toNatClampNeg ≤ 4 ∧ ((0 : Int32)).toNatClampNeg + ((4 : Int32)).toNatClampNeg ≤ 4 then zw_nm (zw_upR h2 (t + 2) (va_cpy (h2.1 (u + 2)) (h2.1 (t + 2)) ((0 : Int32)).toNatClampNeg ((0 : Int32)).toNatClampNeg ((4 : Int32)).toNatClampNeg)) (fun h5 => if ¬ (0 : Int32) < 0 ∧ ¬ (0 : Int32) < 0 ∧ ¬ (4 : Int32) < 0 ∧ ((0 : Int32)).toNatClampNeg + ((4 : Int32)).toNatClampNeg ≤ 4 ∧ ((0 : Int32)).toNatClampNeg + ((4 : Int32)).toNatClampNeg ≤ 4 then zw_nm (zw_upR h5 (t + 3) (va_cpy (h5.1 (u + 3)) (h5.1 (t + 3)) ((0 : Int32)).toNatClampNeg ((0 : Int32)).toNatClampNeg ((4 : Int32)).toNatClampNeg)) (fun h8 => if ¬ (0 : Int32) < 0 ∧ ¬ (0 : Int32) < 0 ∧ ¬ (4 : Int32) < 0 ∧ ((0 : Int32)).toNatClampNeg + ((4 : Int32)).toNatClampNeg ≤ 4 ∧ ((0 : Int32)).toNatClampNeg + ((4 : Int32)).toNatClampNeg ≤ 4 then zw_nm (zw_upR h8 (t + 4) (va_cpy (h8.1 (u + 4)) (h8.1 (t + 4)) ((0 : Int32)).toNatClampNeg ((0 : Int32)).toNatClampNeg ((4 : Int32)).toNatClampNeg)) (fun h11 => zw_nm (zw_up h11 t 5 (h11.1 u 5)) (fun h13 => zw_nm (zw_up h13 t 6 (h13.1 u 6)) (fun h15 => zw_nm (zw_up h15 t 7 (h15.1 u 7)) (fun h17 => zw_nm (zw_up h17 t 8 (h17.1 u 8)) (fun h19 => zw_nm (zw_up h19 t 9 (h19.1 u 9)) (fun h21 => some h21)))))) else none) else none) else none) else none
set_option maxRecDepth 100000 in
set_option maxHeartbeats 4000000 in
theorem R_X3_copyFrom {t : Nat} {u : Nat} (k_t : t = 9 ∨ t = 14) (k_u : u = 9 ∨ u = 14) (ok : zw_Ok E) (hI : ∀ i, i < 48 → i ∈ E.2.2.1) {h : zw_Hp} {z : zw_Hp} (hM : M_X3_copyFrom t u h = some z) : zw_Ct l E mt_X3_copyFrom [.ref (E.2.1 t), .ref (E.2.1 u)] h none z := by
  unfold M_X3_copyFrom at hM
  refine zw_ct (lv0 := [(0, .ref (E.2.1 t)), (1, .ref (E.2.1 u))]) ok (by decide) rfl (Nat.le_of_ble_eq_true rfl) (fun p e s m args below meth c g hr hlk => ?_)
  replace g : zw_G p E (zw_A E) s m args c RX3 cX3_copyFrom 2 := g
  show zw_V p l e s m args below meth c E mt_X3_copyFrom 2 none z 0 [(0, .ref (E.2.1 t)), (1, .ref (E.2.1 u))] [] h
  refine zr_aload_n (q := 1) g 1 dX3_copyFrom_0 rfl rfl rfl ?_
  refine zr_getr (q := 4) (k0 := 1) (j := (u + 1)) g (hI _ (zb_sc0 k_u)) (zs_sc0 k_u) rfl zf_X3_9 dX3_copyFrom_1 rfl ?_
  refine zr_iconst (q := 5) (v := (0 : Int32)) g dX3_copyFrom_4 rfl (by decide) ?_
  refine zr_aload_n (q := 6) g 0 dX3_copyFrom_5 rfl rfl rfl ?_
  refine zr_getr (q := 9) (k0 := 1) (j := (t + 1)) g (hI _ (zb_sc0 k_t)) (zs_sc0 k_t) rfl zf_X3_9 dX3_copyFrom_6 rfl ?_
  refine zr_iconst (q := 10) (v := (0 : Int32)) g dX3_copyFrom_9 rfl (by decide) ?_
  refine zr_iconst (q := 11) (v := (5 : Int32)) g dX3_copyFrom_10 rfl (by decide) ?_
  obtain ⟨c1, hM⟩ := zw_gp hM
  obtain ⟨h2, e3, hM⟩ := zw_nm_ex hM
  refine zr_copy (q := 14) (h' := h2) g (hI _ (zb_sc1 k_u)) (zs_sc1 k_u) (hI _ (zb_sc1 k_t)) (zs_sc1 k_t) zl_X3_54 zl_copy c1 ⟨Nat.le_of_ble_eq_true rfl, Nat.le_of_ble_eq_true rfl⟩ (Nat.le_of_ble_eq_true rfl) dX3_copyFrom_11 rfl e3 ?_
  refine zr_aload_n (q := 15) g 1 dX3_copyFrom_14 rfl rfl rfl ?_
  refine zr_getr (q := 18) (k0 := 2) (j := (u + 2)) g (hI _ (zb_sc0 k_u)) (zs_sc0 k_u) rfl zf_X3_15 dX3_copyFrom_15 rfl ?_
  refine zr_iconst (q := 19) (v := (0 : Int32)) g dX3_copyFrom_18 rfl (by decide) ?_
  refine zr_aload_n (q := 20) g 0 dX3_copyFrom_19 rfl rfl rfl ?_
  refine zr_getr (q := 23) (k0 := 2) (j := (t + 2)) g (hI _ (zb_sc0 k_t)) (zs_sc0 k_t) rfl zf_X3_15 dX3_copyFrom_20 rfl ?_
  refine zr_iconst (q := 24) (v := (0 : Int32)) g dX3_copyFrom_23 rfl (by decide) ?_
  refine zr_iconst (q := 25) (v := (4 : Int32)) g dX3_copyFrom_24 rfl (by decide) ?_
  obtain ⟨c4, hM⟩ := zw_gp hM
  obtain ⟨h5, e6, hM⟩ := zw_nm_ex hM
  refine zr_copy (q := 28) (h' := h5) g (hI _ (zb_sc2 k_u)) (zs_sc2 k_u) (hI _ (zb_sc2 k_t)) (zs_sc2 k_t) zl_X3_54 zl_copy c4 ⟨Nat.le_of_ble_eq_true rfl, Nat.le_of_ble_eq_true rfl⟩ (Nat.le_of_ble_eq_true rfl) dX3_copyFrom_25 rfl e6 ?_
  refine zr_aload_n (q := 29) g 1 dX3_copyFrom_28 rfl rfl rfl ?_
  refine zr_getr (q := 32) (k0 := 3) (j := (u + 3)) g (hI _ (zb_sc0 k_u)) (zs_sc0 k_u) rfl zf_X3_18 dX3_copyFrom_29 rfl ?_
  refine zr_iconst (q := 33) (v := (0 : Int32)) g dX3_copyFrom_32 rfl (by decide) ?_
  refine zr_aload_n (q := 34) g 0 dX3_copyFrom_33 rfl rfl rfl ?_
  refine zr_getr (q := 37) (k0 := 3) (j := (t + 3)) g (hI _ (zb_sc0 k_t)) (zs_sc0 k_t) rfl zf_X3_18 dX3_copyFrom_34 rfl ?_
  refine zr_iconst (q := 38) (v := (0 : Int32)) g dX3_copyFrom_37 rfl (by decide) ?_
  refine zr_iconst (q := 39) (v := (4 : Int32)) g dX3_copyFrom_38 rfl (by decide) ?_
  obtain ⟨c7, hM⟩ := zw_gp hM
  obtain ⟨h8, e9, hM⟩ := zw_nm_ex hM
  refine zr_copy (q := 42) (h' := h8) g (hI _ (zb_sc3 k_u)) (zs_sc3 k_u) (hI _ (zb_sc3 k_t)) (zs_sc3 k_t) zl_X3_54 zl_copy c7 ⟨Nat.le_of_ble_eq_true rfl, Nat.le_of_ble_eq_true rfl⟩ (Nat.le_of_ble_eq_true rfl) dX3_copyFrom_39 rfl e9 ?_
  refine zr_aload_n (q := 43) g 1 dX3_copyFrom_42 rfl rfl rfl ?_
  refine zr_getr (q := 46) (k0 := 4) (j := (u + 4)) g (hI _ (zb_sc0 k_u)) (zs_sc0 k_u) rfl zf_X3_21 dX3_copyFrom_43 rfl ?_
  refine zr_iconst (q := 47) (v := (0 : Int32)) g dX3_copyFrom_46 rfl (by decide) ?_
  refine zr_aload_n (q := 48) g 0 dX3_copyFrom_47 rfl rfl rfl ?_
  refine zr_getr (q := 51) (k0 := 4) (j := (t + 4)) g (hI _ (zb_sc0 k_t)) (zs_sc0 k_t) rfl zf_X3_21 dX3_copyFrom_48 rfl ?_
  refine zr_iconst (q := 52) (v := (0 : Int32)) g dX3_copyFrom_51 rfl (by decide) ?_
  refine zr_iconst (q := 53) (v := (4 : Int32)) g dX3_copyFrom_52 rfl (by decide) ?_
  obtain ⟨c10, hM⟩ := zw_gp hM
  obtain ⟨h11, e12, hM⟩ := zw_nm_ex hM
  refine zr_copy (q := 56) (h' := h11) g (hI _ (zb_sc4 k_u)) (zs_sc4 k_u) (hI _ (zb_sc4 k_t)) (zs_sc4 k_t) zl_X3_54 zl_copy c10 ⟨Nat.le_of_ble_eq_true rfl, Nat.le_of_ble_eq_true rfl⟩ (Nat.le_of_ble_eq_true rfl) dX3_copyFrom_53 rfl e12 ?_
  refine zr_aload_n (q := 57) g 0 dX3_copyFrom_56 rfl rfl rfl ?_
  refine zr_aload_n (q := 58) g 1 dX3_copyFrom_57 rfl rfl rfl ?_
  refine zr_geti (q := 61) (k0 := 5) g (hI _ (zb_sc0 k_u)) (zs_sc0 k_u) rfl zf_X3_40 dX3_copyFrom_58 rfl ?_
  obtain ⟨h13, e14, hM⟩ := zw_nm_ex hM
  refine zr_puti (q := 64) (k0 := 5) (h' := h13) g (hI _ (zb_sc0 k_t)) (zs_sc0 k_t) rfl zp_X3_40 dX3_copyFrom_61 rfl e14 ?_
  refine zr_aload_n (q := 65) g 0 dX3_copyFrom_64 rfl rfl rfl ?_
  refine zr_aload_n (q := 66) g 1 dX3_copyFrom_65 rfl rfl rfl ?_
  refine zr_geti (q := 69) (k0 := 6) g (hI _ (zb_sc0 k_u)) (zs_sc0 k_u) rfl zf_X3_44 dX3_copyFrom_66 rfl ?_
  obtain ⟨h15, e16, hM⟩ := zw_nm_ex hM
  refine zr_puti (q := 72) (k0 := 6) (h' := h15) g (hI _ (zb_sc0 k_t)) (zs_sc0 k_t) rfl zp_X3_44 dX3_copyFrom_69 rfl e16 ?_
  refine zr_aload_n (q := 73) g 0 dX3_copyFrom_72 rfl rfl rfl ?_
  refine zr_aload_n (q := 74) g 1 dX3_copyFrom_73 rfl rfl rfl ?_
  refine zr_geti (q := 77) (k0 := 7) g (hI _ (zb_sc0 k_u)) (zs_sc0 k_u) rfl zf_X3_45 dX3_copyFrom_74 rfl ?_
  obtain ⟨h17, e18, hM⟩ := zw_nm_ex hM
  refine zr_puti (q := 80) (k0 := 7) (h' := h17) g (hI _ (zb_sc0 k_t)) (zs_sc0 k_t) rfl zp_X3_45 dX3_copyFrom_77 rfl e18 ?_
  refine zr_aload_n (q := 81) g 0 dX3_copyFrom_80 rfl rfl rfl ?_
  refine zr_aload_n (q := 82) g 1 dX3_copyFrom_81 rfl rfl rfl ?_
  refine zr_geti (q := 85) (k0 := 8) g (hI _ (zb_sc0 k_u)) (zs_sc0 k_u) rfl zf_X3_48 dX3_copyFrom_82 rfl ?_
  obtain ⟨h19, e20, hM⟩ := zw_nm_ex hM
  refine zr_puti (q := 88) (k0 := 8) (h' := h19) g (hI _ (zb_sc0 k_t)) (zs_sc0 k_t) rfl zp_X3_48 dX3_copyFrom_85 rfl e20 ?_
  refine zr_aload_n (q := 89) g 0 dX3_copyFrom_88 rfl rfl rfl ?_
  refine zr_aload_n (q := 90) g 1 dX3_copyFrom_89 rfl rfl rfl ?_
  refine zr_geti (q := 93) (k0 := 9) g (hI _ (zb_sc0 k_u)) (zs_sc0 k_u) rfl zf_X3_51 dX3_copyFrom_90 rfl ?_
  obtain ⟨h21, e22, hM⟩ := zw_nm_ex hM
  refine zr_puti (q := 96) (k0 := 9) (h' := h21) g (hI _ (zb_sc0 k_t)) (zs_sc0 k_t) rfl zp_X3_51 dX3_copyFrom_93 rfl e22 ?_
  cases hM
  exact zr_vret g hr hlk dX3_copyFrom_96 rfl rfl
noncomputable def B_X3_standOf_2 (t : Nat) (h : zw_Hp) (k2 : (Int32 × Int32) → Option (Int32)) (x1 : Int32) (x2 : Int32) : Option (Int32) :=
  if (5 : Int32) ≤ x2 then (some (-9 : Int32)) else (if zw_ok x2 5 = true then (if (h.1 (t + 1) (x2).toNatClampNeg) = x1 then (some x2) else (zw_nm (x2 + (1 : Int32)) (fun y4 => k2 (x1, y4)))) else none)
set_option maxRecDepth 100000 in
set_option maxHeartbeats 4000000 in
theorem U_X3_standOf_2 {t : Nat} (k_t : t = 9 ∨ t = 14) {h : zw_Hp} (ok : zw_Ok E) (hI : ∀ i, i < 48 → i ∈ E.2.2.1) (g : zw_G p E (zw_A E) s m args c RX3 cX3_standOf 3) (hr : meth.sig.returnType = some .int) (hlk : meth.locks = false) {k2 : (Int32 × Int32) → Option (Int32)} (eL2 : ∀ (w : Int32 × Int32) (z : Int32), k2 w = some z → zw_V p l e s m args below meth c E mt_X3_standOf 3 (some (.int z)) h 2 [(0, .ref (E.2.1 t)), (1, .int w.1), (2, .int w.2)] [] h) :
    ∀ (x1 : Int32) (x2 : Int32) (z : Int32), B_X3_standOf_2 t h k2 x1 x2 = some z → zw_V p l e s m args below meth c E mt_X3_standOf 3 (some (.int z)) h 2 [(0, .ref (E.2.1 t)), (1, .int x1), (2, .int x2)] [] h := by
  intro x1 x2 z hM
  unfold B_X3_standOf_2 at hM
  refine zr_iload_n (q := 3) g 2 dX3_standOf_2 rfl rfl rfl ?_
  refine zr_aload_n (q := 4) g 0 dX3_standOf_3 rfl rfl rfl ?_
  refine zr_getr (q := 7) (k0 := 1) (j := (t + 1)) g (hI _ (zb_sc0 k_t)) (zs_sc0 k_t) rfl zf_X3_9 dX3_standOf_4 rfl ?_
  refine zr_alen (q := 8) (v := (5 : Int32)) g (hI _ (zb_sc1 k_t)) (zs_sc1 k_t) rfl dX3_standOf_7 rfl ?_
  refine zr_icmp_ge (q := 11) (tgt := 29) g dX3_standOf_8 rfl rfl (fun c1 => ?_) (fun c1 => ?_)
  · replace hM := zw_ift c1 hM
    refine zr_bipush (q := 31) (v := (-9 : Int32)) g dX3_standOf_29 rfl (by decide) ?_
    cases hM
    exact zr_iret g hr hlk dX3_standOf_31 rfl rfl
  · replace hM := zw_iff c1 hM
    refine zr_aload_n (q := 12) g 0 dX3_standOf_11 rfl rfl rfl ?_
    refine zr_getr (q := 15) (k0 := 1) (j := (t + 1)) g (hI _ (zb_sc0 k_t)) (zs_sc0 k_t) rfl zf_X3_9 dX3_standOf_12 rfl ?_
    refine zr_iload_n (q := 16) g 2 dX3_standOf_15 rfl rfl rfl ?_
    obtain ⟨c2, hM⟩ := zw_gd hM
    refine zr_iald (q := 17) g (hI _ (zb_sc1 k_t)) (zs_sc1 k_t) c2 dX3_standOf_16 rfl ?_
    refine zr_iload_n (q := 18) g 1 dX3_standOf_17 rfl rfl rfl ?_
    refine zr_icmp_ne (q := 21) (tgt := 23) g dX3_standOf_18 rfl rfl (fun c3 => ?_) (fun c3 => ?_)
    · replace hM := zw_iff c3 hM
      obtain ⟨y4, e5, hM⟩ := zw_nm_ex hM
      refine zr_iinc (q := 26) (v := y4) (lv' := [(2, .int y4), (0, .ref (E.2.1 t)), (1, .int x1)]) g 2 dX3_standOf_23 rfl rfl (by rw [e5]; rfl) (by decide) rfl ?_
      refine zr_goto (tgt := 2) g dX3_standOf_26 rfl ?_
      refine zr_lv (lv' := [(0, .ref (E.2.1 t)), (1, .int x1), (2, .int y4)]) [1, 2, 0] rfl ?_
      exact eL2 _ _ hM
    · replace hM := zw_ift c3 hM
      refine zr_iload_n (q := 22) g 2 dX3_standOf_21 rfl rfl rfl ?_
      cases hM
      exact zr_iret g hr hlk dX3_standOf_22 rfl rfl
noncomputable def L_X3_standOf_2 (t : Nat) (h : zw_Hp) (w : Int32 × Int32) : Option (Int32) :=
  zw_it (fun (k2 : (Int32 × Int32) → Option (Int32)) (w : Int32 × Int32) => B_X3_standOf_2 t h k2 (w.1) (w.2)) 600 w
theorem UL_X3_standOf_2 {t : Nat} (k_t : t = 9 ∨ t = 14) {h : zw_Hp} (ok : zw_Ok E) (hI : ∀ i, i < 48 → i ∈ E.2.2.1) (g : zw_G p E (zw_A E) s m args c RX3 cX3_standOf 3) (hr : meth.sig.returnType = some .int) (hlk : meth.locks = false) :
    ∀ (w : Int32 × Int32) (z : Int32), L_X3_standOf_2 t h w = some z → zw_V p l e s m args below meth c E mt_X3_standOf 3 (some (.int z)) h 2 [(0, .ref (E.2.1 t)), (1, .int w.1), (2, .int w.2)] [] h :=
  fun w z hM => zw_it_ind (P := fun (w : Int32 × Int32) (z : Int32) => zw_V p l e s m args below meth c E mt_X3_standOf 3 (some (.int z)) h 2 [(0, .ref (E.2.1 t)), (1, .int w.1), (2, .int w.2)] [] h) (fun k e w z hM => U_X3_standOf_2 k_t ok hI g hr hlk e _ _ _ hM) 600 w z hM
noncomputable def M_X3_standOf (t : Nat) (x1 : Int32) (h : zw_Hp) : Option (Int32) :=
  L_X3_standOf_2 t h (x1, (0 : Int32))
set_option maxRecDepth 100000 in
set_option maxHeartbeats 4000000 in
theorem R_X3_standOf {t : Nat} (k_t : t = 9 ∨ t = 14) (ok : zw_Ok E) (hI : ∀ i, i < 48 → i ∈ E.2.2.1) {x1 : Int32} {h : zw_Hp} {z : Int32} (hM : M_X3_standOf t x1 h = some z) : zw_Ct l E mt_X3_standOf [.ref (E.2.1 t), .int x1] h (some (.int z)) h := by
  unfold M_X3_standOf at hM
  refine zw_ct (lv0 := [(0, .ref (E.2.1 t)), (1, .int x1)]) ok (by decide) rfl (Nat.le_of_ble_eq_true rfl) (fun p e s m args below meth c g hr hlk => ?_)
  replace g : zw_G p E (zw_A E) s m args c RX3 cX3_standOf 3 := g
  show zw_V p l e s m args below meth c E mt_X3_standOf 3 (some (.int z)) h 0 [(0, .ref (E.2.1 t)), (1, .int x1)] [] h
  refine zr_iconst (q := 1) (v := (0 : Int32)) g dX3_standOf_0 rfl (by decide) ?_
  refine zr_istore_n (q := 2) (lv' := [(2, .int (0 : Int32)), (0, .ref (E.2.1 t)), (1, .int x1)]) g dX3_standOf_1 rfl rfl (by decide) rfl ?_
  refine zr_lv (lv' := [(0, .ref (E.2.1 t)), (1, .int x1), (2, .int (0 : Int32))]) [1, 2, 0] rfl ?_
  exact UL_X3_standOf_2 k_t ok hI g hr hlk _ _ hM
noncomputable def B_X3_leastBucketAt_2 (t : Nat) (h : zw_Hp) (k2 : (Int32 × Int32) → Option (Int32)) (x1 : Int32) (x2 : Int32) : Option (Int32) :=
  if (4 : Int32) ≤ x2 then (some (-9 : Int32)) else (if zw_ok x2 4 = true then (if (h.1 (t + 2) (x2).toNatClampNeg) = x1 then (some x2) else (zw_nm (x2 + (1 : Int32)) (fun y4 => k2 (x1, y4)))) else none)
set_option maxRecDepth 100000 in
set_option maxHeartbeats 4000000 in
theorem U_X3_leastBucketAt_2 {t : Nat} (k_t : t = 9 ∨ t = 14) {h : zw_Hp} (ok : zw_Ok E) (hI : ∀ i, i < 48 → i ∈ E.2.2.1) (g : zw_G p E (zw_A E) s m args c RX3 cX3_leastBucketAt 3) (hr : meth.sig.returnType = some .int) (hlk : meth.locks = false) {k2 : (Int32 × Int32) → Option (Int32)} (eL2 : ∀ (w : Int32 × Int32) (z : Int32), k2 w = some z → zw_V p l e s m args below meth c E mt_X3_leastBucketAt 3 (some (.int z)) h 2 [(0, .ref (E.2.1 t)), (1, .int w.1), (2, .int w.2)] [] h) :
    ∀ (x1 : Int32) (x2 : Int32) (z : Int32), B_X3_leastBucketAt_2 t h k2 x1 x2 = some z → zw_V p l e s m args below meth c E mt_X3_leastBucketAt 3 (some (.int z)) h 2 [(0, .ref (E.2.1 t)), (1, .int x1), (2, .int x2)] [] h := by
  intro x1 x2 z hM
  unfold B_X3_leastBucketAt_2 at hM
  refine zr_iload_n (q := 3) g 2 dX3_leastBucketAt_2 rfl rfl rfl ?_
  refine zr_aload_n (q := 4) g 0 dX3_leastBucketAt_3 rfl rfl rfl ?_
  refine zr_getr (q := 7) (k0 := 2) (j := (t + 2)) g (hI _ (zb_sc0 k_t)) (zs_sc0 k_t) rfl zf_X3_15 dX3_leastBucketAt_4 rfl ?_
  refine zr_alen (q := 8) (v := (4 : Int32)) g (hI _ (zb_sc2 k_t)) (zs_sc2 k_t) rfl dX3_leastBucketAt_7 rfl ?_
  refine zr_icmp_ge (q := 11) (tgt := 29) g dX3_leastBucketAt_8 rfl rfl (fun c1 => ?_) (fun c1 => ?_)
  · replace hM := zw_ift c1 hM
    refine zr_bipush (q := 31) (v := (-9 : Int32)) g dX3_leastBucketAt_29 rfl (by decide) ?_
    cases hM
    exact zr_iret g hr hlk dX3_leastBucketAt_31 rfl rfl
  · replace hM := zw_iff c1 hM
    refine zr_aload_n (q := 12) g 0 dX3_leastBucketAt_11 rfl rfl rfl ?_
    refine zr_getr (q := 15) (k0 := 2) (j := (t + 2)) g (hI _ (zb_sc0 k_t)) (zs_sc0 k_t) rfl zf_X3_15 dX3_leastBucketAt_12 rfl ?_
    refine zr_iload_n (q := 16) g 2 dX3_leastBucketAt_15 rfl rfl rfl ?_
    obtain ⟨c2, hM⟩ := zw_gd hM
    refine zr_iald (q := 17) g (hI _ (zb_sc2 k_t)) (zs_sc2 k_t) c2 dX3_leastBucketAt_16 rfl ?_
    refine zr_iload_n (q := 18) g 1 dX3_leastBucketAt_17 rfl rfl rfl ?_
    refine zr_icmp_ne (q := 21) (tgt := 23) g dX3_leastBucketAt_18 rfl rfl (fun c3 => ?_) (fun c3 => ?_)
    · replace hM := zw_iff c3 hM
      obtain ⟨y4, e5, hM⟩ := zw_nm_ex hM
      refine zr_iinc (q := 26) (v := y4) (lv' := [(2, .int y4), (0, .ref (E.2.1 t)), (1, .int x1)]) g 2 dX3_leastBucketAt_23 rfl rfl (by rw [e5]; rfl) (by decide) rfl ?_
      refine zr_goto (tgt := 2) g dX3_leastBucketAt_26 rfl ?_
      refine zr_lv (lv' := [(0, .ref (E.2.1 t)), (1, .int x1), (2, .int y4)]) [1, 2, 0] rfl ?_
      exact eL2 _ _ hM
    · replace hM := zw_ift c3 hM
      refine zr_iload_n (q := 22) g 2 dX3_leastBucketAt_21 rfl rfl rfl ?_
      cases hM
      exact zr_iret g hr hlk dX3_leastBucketAt_22 rfl rfl
noncomputable def L_X3_leastBucketAt_2 (t : Nat) (h : zw_Hp) (w : Int32 × Int32) : Option (Int32) :=
  zw_it (fun (k2 : (Int32 × Int32) → Option (Int32)) (w : Int32 × Int32) => B_X3_leastBucketAt_2 t h k2 (w.1) (w.2)) 600 w
theorem UL_X3_leastBucketAt_2 {t : Nat} (k_t : t = 9 ∨ t = 14) {h : zw_Hp} (ok : zw_Ok E) (hI : ∀ i, i < 48 → i ∈ E.2.2.1) (g : zw_G p E (zw_A E) s m args c RX3 cX3_leastBucketAt 3) (hr : meth.sig.returnType = some .int) (hlk : meth.locks = false) :
    ∀ (w : Int32 × Int32) (z : Int32), L_X3_leastBucketAt_2 t h w = some z → zw_V p l e s m args below meth c E mt_X3_leastBucketAt 3 (some (.int z)) h 2 [(0, .ref (E.2.1 t)), (1, .int w.1), (2, .int w.2)] [] h :=
  fun w z hM => zw_it_ind (P := fun (w : Int32 × Int32) (z : Int32) => zw_V p l e s m args below meth c E mt_X3_leastBucketAt 3 (some (.int z)) h 2 [(0, .ref (E.2.1 t)), (1, .int w.1), (2, .int w.2)] [] h) (fun k e w z hM => U_X3_leastBucketAt_2 k_t ok hI g hr hlk e _ _ _ hM) 600 w z hM
noncomputable def M_X3_leastBucketAt (t : Nat) (x1 : Int32) (h : zw_Hp) : Option (Int32) :=
  L_X3_leastBucketAt_2 t h (x1, (0 : Int32))
set_option maxRecDepth 100000 in
set_option maxHeartbeats 4000000 in
theorem R_X3_leastBucketAt {t : Nat} (k_t : t = 9 ∨ t = 14) (ok : zw_Ok E) (hI : ∀ i, i < 48 → i ∈ E.2.2.1) {x1 : Int32} {h : zw_Hp} {z : Int32} (hM : M_X3_leastBucketAt t x1 h = some z) : zw_Ct l E mt_X3_leastBucketAt [.ref (E.2.1 t), .int x1] h (some (.int z)) h := by
  unfold M_X3_leastBucketAt at hM
  refine zw_ct (lv0 := [(0, .ref (E.2.1 t)), (1, .int x1)]) ok (by decide) rfl (Nat.le_of_ble_eq_true rfl) (fun p e s m args below meth c g hr hlk => ?_)
  replace g : zw_G p E (zw_A E) s m args c RX3 cX3_leastBucketAt 3 := g
  show zw_V p l e s m args below meth c E mt_X3_leastBucketAt 3 (some (.int z)) h 0 [(0, .ref (E.2.1 t)), (1, .int x1)] [] h
  refine zr_iconst (q := 1) (v := (0 : Int32)) g dX3_leastBucketAt_0 rfl (by decide) ?_
  refine zr_istore_n (q := 2) (lv' := [(2, .int (0 : Int32)), (0, .ref (E.2.1 t)), (1, .int x1)]) g dX3_leastBucketAt_1 rfl rfl (by decide) rfl ?_
  refine zr_lv (lv' := [(0, .ref (E.2.1 t)), (1, .int x1), (2, .int (0 : Int32))]) [1, 2, 0] rfl ?_
  exact UL_X3_leastBucketAt_2 k_t ok hI g hr hlk _ _ hM
noncomputable def B_X3_bucketsAt_29 (t : Nat) (h : zw_Hp) (k4 : (Int32 × Int32 × Int32) → Option (Int32)) (x1 : Int32) (x2 : Int32) (x3 : Int32) : Option (Int32) :=
  zw_nm (x3 + (1 : Int32)) (fun y6 => k4 (x1, x2, y6))
set_option maxRecDepth 100000 in
set_option maxHeartbeats 4000000 in
theorem U_X3_bucketsAt_29 {t : Nat} (k_t : t = 9 ∨ t = 14) {h : zw_Hp} (ok : zw_Ok E) (hI : ∀ i, i < 48 → i ∈ E.2.2.1) (g : zw_G p E (zw_A E) s m args c RX3 cX3_bucketsAt 4) (hr : meth.sig.returnType = some .int) (hlk : meth.locks = false) {k4 : (Int32 × Int32 × Int32) → Option (Int32)} (eL4 : ∀ (w : Int32 × Int32 × Int32) (z : Int32), k4 w = some z → zw_V p l e s m args below meth c E mt_X3_bucketsAt 4 (some (.int z)) h 4 [(0, .ref (E.2.1 t)), (1, .int w.1), (2, .int w.2.1), (3, .int w.2.2)] [] h) :
    ∀ (x1 : Int32) (x2 : Int32) (x3 : Int32) (z : Int32), B_X3_bucketsAt_29 t h k4 x1 x2 x3 = some z → zw_V p l e s m args below meth c E mt_X3_bucketsAt 4 (some (.int z)) h 29 [(0, .ref (E.2.1 t)), (1, .int x1), (2, .int x2), (3, .int x3)] [] h := by
  intro x1 x2 x3 z hM
  unfold B_X3_bucketsAt_29 at hM
  obtain ⟨y6, e7, hM⟩ := zw_nm_ex hM
  refine zr_iinc (q := 32) (v := y6) (lv' := [(3, .int y6), (0, .ref (E.2.1 t)), (1, .int x1), (2, .int x2)]) g 3 dX3_bucketsAt_29 rfl rfl (by rw [e7]; rfl) (by decide) rfl ?_
  refine zr_goto (tgt := 4) g dX3_bucketsAt_32 rfl ?_
  refine zr_lv (lv' := [(0, .ref (E.2.1 t)), (1, .int x1), (2, .int x2), (3, .int y6)]) [1, 2, 3, 0] rfl ?_
  exact eL4 _ _ hM
noncomputable def B_X3_bucketsAt_4 (t : Nat) (h : zw_Hp) (k4 : (Int32 × Int32 × Int32) → Option (Int32)) (x1 : Int32) (x2 : Int32) (x3 : Int32) : Option (Int32) :=
  if (4 : Int32) ≤ x3 then (some x2) else (if zw_ok x3 4 = true then (if (h.1 (t + 2) (x3).toNatClampNeg) = x1 then (zw_nm (x2 ||| ((1 : Int32) <<< (x3 &&& 31))) (fun y4 => B_X3_bucketsAt_29 t h k4 x1 y4 x3)) else (B_X3_bucketsAt_29 t h k4 x1 x2 x3)) else none)
set_option maxRecDepth 100000 in
set_option maxHeartbeats 4000000 in
theorem U_X3_bucketsAt_4 {t : Nat} (k_t : t = 9 ∨ t = 14) {h : zw_Hp} (ok : zw_Ok E) (hI : ∀ i, i < 48 → i ∈ E.2.2.1) (g : zw_G p E (zw_A E) s m args c RX3 cX3_bucketsAt 4) (hr : meth.sig.returnType = some .int) (hlk : meth.locks = false) {k4 : (Int32 × Int32 × Int32) → Option (Int32)} (eL4 : ∀ (w : Int32 × Int32 × Int32) (z : Int32), k4 w = some z → zw_V p l e s m args below meth c E mt_X3_bucketsAt 4 (some (.int z)) h 4 [(0, .ref (E.2.1 t)), (1, .int w.1), (2, .int w.2.1), (3, .int w.2.2)] [] h) :
    ∀ (x1 : Int32) (x2 : Int32) (x3 : Int32) (z : Int32), B_X3_bucketsAt_4 t h k4 x1 x2 x3 = some z → zw_V p l e s m args below meth c E mt_X3_bucketsAt 4 (some (.int z)) h 4 [(0, .ref (E.2.1 t)), (1, .int x1), (2, .int x2), (3, .int x3)] [] h := by
  intro x1 x2 x3 z hM
  unfold B_X3_bucketsAt_4 at hM
  refine zr_iload_n (q := 5) g 3 dX3_bucketsAt_4 rfl rfl rfl ?_
  refine zr_aload_n (q := 6) g 0 dX3_bucketsAt_5 rfl rfl rfl ?_
  refine zr_getr (q := 9) (k0 := 2) (j := (t + 2)) g (hI _ (zb_sc0 k_t)) (zs_sc0 k_t) rfl zf_X3_15 dX3_bucketsAt_6 rfl ?_
  refine zr_alen (q := 10) (v := (4 : Int32)) g (hI _ (zb_sc2 k_t)) (zs_sc2 k_t) rfl dX3_bucketsAt_9 rfl ?_
  refine zr_icmp_ge (q := 13) (tgt := 35) g dX3_bucketsAt_10 rfl rfl (fun c1 => ?_) (fun c1 => ?_)
  · replace hM := zw_ift c1 hM
    refine zr_iload_n (q := 36) g 2 dX3_bucketsAt_35 rfl rfl rfl ?_
    cases hM
    exact zr_iret g hr hlk dX3_bucketsAt_36 rfl rfl
  · replace hM := zw_iff c1 hM
    refine zr_aload_n (q := 14) g 0 dX3_bucketsAt_13 rfl rfl rfl ?_
    refine zr_getr (q := 17) (k0 := 2) (j := (t + 2)) g (hI _ (zb_sc0 k_t)) (zs_sc0 k_t) rfl zf_X3_15 dX3_bucketsAt_14 rfl ?_
    refine zr_iload_n (q := 18) g 3 dX3_bucketsAt_17 rfl rfl rfl ?_
    obtain ⟨c2, hM⟩ := zw_gd hM
    refine zr_iald (q := 19) g (hI _ (zb_sc2 k_t)) (zs_sc2 k_t) c2 dX3_bucketsAt_18 rfl ?_
    refine zr_iload_n (q := 20) g 1 dX3_bucketsAt_19 rfl rfl rfl ?_
    refine zr_icmp_ne (q := 23) (tgt := 29) g dX3_bucketsAt_20 rfl rfl (fun c3 => ?_) (fun c3 => ?_)
    · replace hM := zw_iff c3 hM
      exact U_X3_bucketsAt_29 k_t ok hI g hr hlk eL4 _ _ _ _ hM
    · replace hM := zw_ift c3 hM
      refine zr_iload_n (q := 24) g 2 dX3_bucketsAt_23 rfl rfl rfl ?_
      refine zr_iconst (q := 25) (v := (1 : Int32)) g dX3_bucketsAt_24 rfl (by decide) ?_
      refine zr_iload_n (q := 26) g 3 dX3_bucketsAt_25 rfl rfl rfl ?_
      refine zr_ishl (q := 27) g dX3_bucketsAt_26 rfl ?_
      refine zr_ior (q := 28) g dX3_bucketsAt_27 rfl ?_
      obtain ⟨y4, e5, hM⟩ := zw_nm_ex hM
      refine zr_nmi e5 ?_
      refine zr_istore_n (q := 29) (lv' := [(2, .int y4), (0, .ref (E.2.1 t)), (1, .int x1), (3, .int x3)]) g dX3_bucketsAt_28 rfl rfl (by decide) rfl ?_
      refine zr_lv (lv' := [(0, .ref (E.2.1 t)), (1, .int x1), (2, .int y4), (3, .int x3)]) [1, 2, 0, 3] rfl ?_
      exact U_X3_bucketsAt_29 k_t ok hI g hr hlk eL4 _ _ _ _ hM
noncomputable def L_X3_bucketsAt_4 (t : Nat) (h : zw_Hp) (w : Int32 × Int32 × Int32) : Option (Int32) :=
  zw_it (fun (k4 : (Int32 × Int32 × Int32) → Option (Int32)) (w : Int32 × Int32 × Int32) => B_X3_bucketsAt_4 t h k4 (w.1) (w.2.1) (w.2.2)) 600 w
theorem UL_X3_bucketsAt_4 {t : Nat} (k_t : t = 9 ∨ t = 14) {h : zw_Hp} (ok : zw_Ok E) (hI : ∀ i, i < 48 → i ∈ E.2.2.1) (g : zw_G p E (zw_A E) s m args c RX3 cX3_bucketsAt 4) (hr : meth.sig.returnType = some .int) (hlk : meth.locks = false) :
    ∀ (w : Int32 × Int32 × Int32) (z : Int32), L_X3_bucketsAt_4 t h w = some z → zw_V p l e s m args below meth c E mt_X3_bucketsAt 4 (some (.int z)) h 4 [(0, .ref (E.2.1 t)), (1, .int w.1), (2, .int w.2.1), (3, .int w.2.2)] [] h :=
  fun w z hM => zw_it_ind (P := fun (w : Int32 × Int32 × Int32) (z : Int32) => zw_V p l e s m args below meth c E mt_X3_bucketsAt 4 (some (.int z)) h 4 [(0, .ref (E.2.1 t)), (1, .int w.1), (2, .int w.2.1), (3, .int w.2.2)] [] h) (fun k e w z hM => U_X3_bucketsAt_4 k_t ok hI g hr hlk e _ _ _ _ hM) 600 w z hM
noncomputable def M_X3_bucketsAt (t : Nat) (x1 : Int32) (h : zw_Hp) : Option (Int32) :=
  L_X3_bucketsAt_4 t h (x1, (0 : Int32), (0 : Int32))
set_option maxRecDepth 100000 in
set_option maxHeartbeats 4000000 in
theorem R_X3_bucketsAt {t : Nat} (k_t : t = 9 ∨ t = 14) (ok : zw_Ok E) (hI : ∀ i, i < 48 → i ∈ E.2.2.1) {x1 : Int32} {h : zw_Hp} {z : Int32} (hM : M_X3_bucketsAt t x1 h = some z) : zw_Ct l E mt_X3_bucketsAt [.ref (E.2.1 t), .int x1] h (some (.int z)) h := by
  unfold M_X3_bucketsAt at hM
  refine zw_ct (lv0 := [(0, .ref (E.2.1 t)), (1, .int x1)]) ok (by decide) rfl (Nat.le_of_ble_eq_true rfl) (fun p e s m args below meth c g hr hlk => ?_)
  replace g : zw_G p E (zw_A E) s m args c RX3 cX3_bucketsAt 4 := g
  show zw_V p l e s m args below meth c E mt_X3_bucketsAt 4 (some (.int z)) h 0 [(0, .ref (E.2.1 t)), (1, .int x1)] [] h
  refine zr_iconst (q := 1) (v := (0 : Int32)) g dX3_bucketsAt_0 rfl (by decide) ?_
  refine zr_istore_n (q := 2) (lv' := [(2, .int (0 : Int32)), (0, .ref (E.2.1 t)), (1, .int x1)]) g dX3_bucketsAt_1 rfl rfl (by decide) rfl ?_
  refine zr_iconst (q := 3) (v := (0 : Int32)) g dX3_bucketsAt_2 rfl (by decide) ?_
  refine zr_istore_n (q := 4) (lv' := [(3, .int (0 : Int32)), (2, .int (0 : Int32)), (0, .ref (E.2.1 t)), (1, .int x1)]) g dX3_bucketsAt_3 rfl rfl (by decide) rfl ?_
  refine zr_lv (lv' := [(0, .ref (E.2.1 t)), (1, .int x1), (2, .int (0 : Int32)), (3, .int (0 : Int32))]) [2, 3, 1, 0] rfl ?_
  exact UL_X3_bucketsAt_4 k_t ok hI g hr hlk _ _ hM
noncomputable def B_X3_holdingStands_34 (t : Nat) (h : zw_Hp) (k4 : (Int32 × Int32) → Option (Int32)) (x1 : Int32) (x2 : Int32) : Option (Int32) :=
  zw_nm (x2 + (1 : Int32)) (fun y7 => k4 (x1, y7))
set_option maxRecDepth 100000 in
set_option maxHeartbeats 4000000 in
theorem U_X3_holdingStands_34 {t : Nat} (k_t : t = 9 ∨ t = 14) {h : zw_Hp} (ok : zw_Ok E) (hI : ∀ i, i < 48 → i ∈ E.2.2.1) (g : zw_G p E (zw_A E) s m args c RX3 cX3_holdingStands 3) (hr : meth.sig.returnType = some .int) (hlk : meth.locks = false) {k4 : (Int32 × Int32) → Option (Int32)} (eL4 : ∀ (w : Int32 × Int32) (z : Int32), k4 w = some z → zw_V p l e s m args below meth c E mt_X3_holdingStands 3 (some (.int z)) h 4 [(0, .ref (E.2.1 t)), (1, .int w.1), (2, .int w.2)] [] h) :
    ∀ (x1 : Int32) (x2 : Int32) (z : Int32), B_X3_holdingStands_34 t h k4 x1 x2 = some z → zw_V p l e s m args below meth c E mt_X3_holdingStands 3 (some (.int z)) h 34 [(0, .ref (E.2.1 t)), (1, .int x1), (2, .int x2)] [] h := by
  intro x1 x2 z hM
  unfold B_X3_holdingStands_34 at hM
  obtain ⟨y7, e8, hM⟩ := zw_nm_ex hM
  refine zr_iinc (q := 37) (v := y7) (lv' := [(2, .int y7), (0, .ref (E.2.1 t)), (1, .int x1)]) g 2 dX3_holdingStands_34 rfl rfl (by rw [e8]; rfl) (by decide) rfl ?_
  refine zr_goto (tgt := 4) g dX3_holdingStands_37 rfl ?_
  refine zr_lv (lv' := [(0, .ref (E.2.1 t)), (1, .int x1), (2, .int y7)]) [1, 2, 0] rfl ?_
  exact eL4 _ _ hM
noncomputable def B_X3_holdingStands_4 (t : Nat) (h : zw_Hp) (k4 : (Int32 × Int32) → Option (Int32)) (x1 : Int32) (x2 : Int32) : Option (Int32) :=
  if (4 : Int32) ≤ x2 then (some x1) else (if zw_ok x2 4 = true then (if (5 : Int32) ≤ (h.1 (t + 2) (x2).toNatClampNeg) then (B_X3_holdingStands_34 t h k4 x1 x2) else (if zw_ok x2 4 = true then (zw_nm (x1 ||| ((1 : Int32) <<< ((h.1 (t + 2) (x2).toNatClampNeg) &&& 31))) (fun y5 => B_X3_holdingStands_34 t h k4 y5 x2)) else none)) else none)
set_option maxRecDepth 100000 in
set_option maxHeartbeats 4000000 in
theorem U_X3_holdingStands_4 {t : Nat} (k_t : t = 9 ∨ t = 14) {h : zw_Hp} (ok : zw_Ok E) (hI : ∀ i, i < 48 → i ∈ E.2.2.1) (g : zw_G p E (zw_A E) s m args c RX3 cX3_holdingStands 3) (hr : meth.sig.returnType = some .int) (hlk : meth.locks = false) {k4 : (Int32 × Int32) → Option (Int32)} (eL4 : ∀ (w : Int32 × Int32) (z : Int32), k4 w = some z → zw_V p l e s m args below meth c E mt_X3_holdingStands 3 (some (.int z)) h 4 [(0, .ref (E.2.1 t)), (1, .int w.1), (2, .int w.2)] [] h) :
    ∀ (x1 : Int32) (x2 : Int32) (z : Int32), B_X3_holdingStands_4 t h k4 x1 x2 = some z → zw_V p l e s m args below meth c E mt_X3_holdingStands 3 (some (.int z)) h 4 [(0, .ref (E.2.1 t)), (1, .int x1), (2, .int x2)] [] h := by
  intro x1 x2 z hM
  unfold B_X3_holdingStands_4 at hM
  refine zr_iload_n (q := 5) g 2 dX3_holdingStands_4 rfl rfl rfl ?_
  refine zr_aload_n (q := 6) g 0 dX3_holdingStands_5 rfl rfl rfl ?_
  refine zr_getr (q := 9) (k0 := 2) (j := (t + 2)) g (hI _ (zb_sc0 k_t)) (zs_sc0 k_t) rfl zf_X3_15 dX3_holdingStands_6 rfl ?_
  refine zr_alen (q := 10) (v := (4 : Int32)) g (hI _ (zb_sc2 k_t)) (zs_sc2 k_t) rfl dX3_holdingStands_9 rfl ?_
  refine zr_icmp_ge (q := 13) (tgt := 40) g dX3_holdingStands_10 rfl rfl (fun c1 => ?_) (fun c1 => ?_)
  · replace hM := zw_ift c1 hM
    refine zr_iload_n (q := 41) g 1 dX3_holdingStands_40 rfl rfl rfl ?_
    cases hM
    exact zr_iret g hr hlk dX3_holdingStands_41 rfl rfl
  · replace hM := zw_iff c1 hM
    refine zr_aload_n (q := 14) g 0 dX3_holdingStands_13 rfl rfl rfl ?_
    refine zr_getr (q := 17) (k0 := 2) (j := (t + 2)) g (hI _ (zb_sc0 k_t)) (zs_sc0 k_t) rfl zf_X3_15 dX3_holdingStands_14 rfl ?_
    refine zr_iload_n (q := 18) g 2 dX3_holdingStands_17 rfl rfl rfl ?_
    obtain ⟨c2, hM⟩ := zw_gd hM
    refine zr_iald (q := 19) g (hI _ (zb_sc2 k_t)) (zs_sc2 k_t) c2 dX3_holdingStands_18 rfl ?_
    refine zr_iconst (q := 20) (v := (5 : Int32)) g dX3_holdingStands_19 rfl (by decide) ?_
    refine zr_icmp_ge (q := 23) (tgt := 34) g dX3_holdingStands_20 rfl rfl (fun c3 => ?_) (fun c3 => ?_)
    · replace hM := zw_ift c3 hM
      exact U_X3_holdingStands_34 k_t ok hI g hr hlk eL4 _ _ _ hM
    · replace hM := zw_iff c3 hM
      refine zr_iload_n (q := 24) g 1 dX3_holdingStands_23 rfl rfl rfl ?_
      refine zr_iconst (q := 25) (v := (1 : Int32)) g dX3_holdingStands_24 rfl (by decide) ?_
      refine zr_aload_n (q := 26) g 0 dX3_holdingStands_25 rfl rfl rfl ?_
      refine zr_getr (q := 29) (k0 := 2) (j := (t + 2)) g (hI _ (zb_sc0 k_t)) (zs_sc0 k_t) rfl zf_X3_15 dX3_holdingStands_26 rfl ?_
      refine zr_iload_n (q := 30) g 2 dX3_holdingStands_29 rfl rfl rfl ?_
      obtain ⟨c4, hM⟩ := zw_gd hM
      refine zr_iald (q := 31) g (hI _ (zb_sc2 k_t)) (zs_sc2 k_t) c4 dX3_holdingStands_30 rfl ?_
      refine zr_ishl (q := 32) g dX3_holdingStands_31 rfl ?_
      refine zr_ior (q := 33) g dX3_holdingStands_32 rfl ?_
      obtain ⟨y5, e6, hM⟩ := zw_nm_ex hM
      refine zr_nmi e6 ?_
      refine zr_istore_n (q := 34) (lv' := [(1, .int y5), (0, .ref (E.2.1 t)), (2, .int x2)]) g dX3_holdingStands_33 rfl rfl (by decide) rfl ?_
      refine zr_lv (lv' := [(0, .ref (E.2.1 t)), (1, .int y5), (2, .int x2)]) [1, 0, 2] rfl ?_
      exact U_X3_holdingStands_34 k_t ok hI g hr hlk eL4 _ _ _ hM
noncomputable def L_X3_holdingStands_4 (t : Nat) (h : zw_Hp) (w : Int32 × Int32) : Option (Int32) :=
  zw_it (fun (k4 : (Int32 × Int32) → Option (Int32)) (w : Int32 × Int32) => B_X3_holdingStands_4 t h k4 (w.1) (w.2)) 600 w
theorem UL_X3_holdingStands_4 {t : Nat} (k_t : t = 9 ∨ t = 14) {h : zw_Hp} (ok : zw_Ok E) (hI : ∀ i, i < 48 → i ∈ E.2.2.1) (g : zw_G p E (zw_A E) s m args c RX3 cX3_holdingStands 3) (hr : meth.sig.returnType = some .int) (hlk : meth.locks = false) :
    ∀ (w : Int32 × Int32) (z : Int32), L_X3_holdingStands_4 t h w = some z → zw_V p l e s m args below meth c E mt_X3_holdingStands 3 (some (.int z)) h 4 [(0, .ref (E.2.1 t)), (1, .int w.1), (2, .int w.2)] [] h :=
  fun w z hM => zw_it_ind (P := fun (w : Int32 × Int32) (z : Int32) => zw_V p l e s m args below meth c E mt_X3_holdingStands 3 (some (.int z)) h 4 [(0, .ref (E.2.1 t)), (1, .int w.1), (2, .int w.2)] [] h) (fun k e w z hM => U_X3_holdingStands_4 k_t ok hI g hr hlk e _ _ _ hM) 600 w z hM
noncomputable def M_X3_holdingStands (t : Nat) (h : zw_Hp) : Option (Int32) :=
  L_X3_holdingStands_4 t h ((0 : Int32), (0 : Int32))
set_option maxRecDepth 100000 in
set_option maxHeartbeats 4000000 in
theorem R_X3_holdingStands {t : Nat} (k_t : t = 9 ∨ t = 14) (ok : zw_Ok E) (hI : ∀ i, i < 48 → i ∈ E.2.2.1) {h : zw_Hp} {z : Int32} (hM : M_X3_holdingStands t h = some z) : zw_Ct l E mt_X3_holdingStands [.ref (E.2.1 t)] h (some (.int z)) h := by
  unfold M_X3_holdingStands at hM
  refine zw_ct (lv0 := [(0, .ref (E.2.1 t))]) ok (by decide) rfl (Nat.le_of_ble_eq_true rfl) (fun p e s m args below meth c g hr hlk => ?_)
  replace g : zw_G p E (zw_A E) s m args c RX3 cX3_holdingStands 3 := g
  show zw_V p l e s m args below meth c E mt_X3_holdingStands 3 (some (.int z)) h 0 [(0, .ref (E.2.1 t))] [] h
  refine zr_iconst (q := 1) (v := (0 : Int32)) g dX3_holdingStands_0 rfl (by decide) ?_
  refine zr_istore_n (q := 2) (lv' := [(1, .int (0 : Int32)), (0, .ref (E.2.1 t))]) g dX3_holdingStands_1 rfl rfl (by decide) rfl ?_
  refine zr_iconst (q := 3) (v := (0 : Int32)) g dX3_holdingStands_2 rfl (by decide) ?_
  refine zr_istore_n (q := 4) (lv' := [(2, .int (0 : Int32)), (1, .int (0 : Int32)), (0, .ref (E.2.1 t))]) g dX3_holdingStands_3 rfl rfl (by decide) rfl ?_
  refine zr_lv (lv' := [(0, .ref (E.2.1 t)), (1, .int (0 : Int32)), (2, .int (0 : Int32))]) [2, 1, 0] rfl ?_
  exact UL_X3_holdingStands_4 k_t ok hI g hr hlk _ _ hM
noncomputable def M_X3_isHeld (t : Nat) (x1 : Int32) (h : zw_Hp) : Option (Int32) :=
  if x1 < 0 then (some (0 : Int32)) else (if (4 : Int32) ≤ x1 then (some (0 : Int32)) else (if zw_ok x1 4 = true then (if (5 : Int32) ≤ (h.1 (t + 2) (x1).toNatClampNeg) then (some (0 : Int32)) else (some (1 : Int32))) else none))
set_option maxRecDepth 100000 in
set_option maxHeartbeats 4000000 in
theorem R_X3_isHeld {t : Nat} (k_t : t = 9 ∨ t = 14) (ok : zw_Ok E) (hI : ∀ i, i < 48 → i ∈ E.2.2.1) {x1 : Int32} {h : zw_Hp} {z : Int32} (hM : M_X3_isHeld t x1 h = some z) : zw_Ct l E mt_X3_isHeld [.ref (E.2.1 t), .int x1] h (some (.int z)) h := by
  unfold M_X3_isHeld at hM
  refine zw_ct (lv0 := [(0, .ref (E.2.1 t)), (1, .int x1)]) ok (by decide) rfl (Nat.le_of_ble_eq_true rfl) (fun p e s m args below meth c g hr hlk => ?_)
  replace g : zw_G p E (zw_A E) s m args c RX3 cX3_isHeld 2 := g
  show zw_V p l e s m args below meth c E mt_X3_isHeld 2 (some (.int z)) h 0 [(0, .ref (E.2.1 t)), (1, .int x1)] [] h
  refine zr_iload_n (q := 1) g 1 dX3_isHeld_0 rfl rfl rfl ?_
  refine zr_if_lt (q := 4) (tgt := 27) g dX3_isHeld_1 rfl rfl (fun c1 => ?_) (fun c1 => ?_)
  · replace hM := zw_ift c1 hM
    refine zr_iconst (q := 28) (v := (0 : Int32)) g dX3_isHeld_27 rfl (by decide) ?_
    cases hM
    exact zr_zret g hr hlk (by decide) dX3_isHeld_28 rfl rfl
  · replace hM := zw_iff c1 hM
    refine zr_iload_n (q := 5) g 1 dX3_isHeld_4 rfl rfl rfl ?_
    refine zr_aload_n (q := 6) g 0 dX3_isHeld_5 rfl rfl rfl ?_
    refine zr_getr (q := 9) (k0 := 2) (j := (t + 2)) g (hI _ (zb_sc0 k_t)) (zs_sc0 k_t) rfl zf_X3_15 dX3_isHeld_6 rfl ?_
    refine zr_alen (q := 10) (v := (4 : Int32)) g (hI _ (zb_sc2 k_t)) (zs_sc2 k_t) rfl dX3_isHeld_9 rfl ?_
    refine zr_icmp_ge (q := 13) (tgt := 27) g dX3_isHeld_10 rfl rfl (fun c2 => ?_) (fun c2 => ?_)
    · replace hM := zw_ift c2 hM
      refine zr_iconst (q := 28) (v := (0 : Int32)) g dX3_isHeld_27 rfl (by decide) ?_
      cases hM
      exact zr_zret g hr hlk (by decide) dX3_isHeld_28 rfl rfl
    · replace hM := zw_iff c2 hM
      refine zr_aload_n (q := 14) g 0 dX3_isHeld_13 rfl rfl rfl ?_
      refine zr_getr (q := 17) (k0 := 2) (j := (t + 2)) g (hI _ (zb_sc0 k_t)) (zs_sc0 k_t) rfl zf_X3_15 dX3_isHeld_14 rfl ?_
      refine zr_iload_n (q := 18) g 1 dX3_isHeld_17 rfl rfl rfl ?_
      obtain ⟨c3, hM⟩ := zw_gd hM
      refine zr_iald (q := 19) g (hI _ (zb_sc2 k_t)) (zs_sc2 k_t) c3 dX3_isHeld_18 rfl ?_
      refine zr_iconst (q := 20) (v := (5 : Int32)) g dX3_isHeld_19 rfl (by decide) ?_
      refine zr_icmp_ge (q := 23) (tgt := 27) g dX3_isHeld_20 rfl rfl (fun c4 => ?_) (fun c4 => ?_)
      · replace hM := zw_ift c4 hM
        refine zr_iconst (q := 28) (v := (0 : Int32)) g dX3_isHeld_27 rfl (by decide) ?_
        cases hM
        exact zr_zret g hr hlk (by decide) dX3_isHeld_28 rfl rfl
      · replace hM := zw_iff c4 hM
        refine zr_iconst (q := 24) (v := (1 : Int32)) g dX3_isHeld_23 rfl (by decide) ?_
        refine zr_goto (tgt := 28) g dX3_isHeld_24 rfl ?_
        cases hM
        exact zr_zret g hr hlk (by decide) dX3_isHeld_28 rfl rfl
noncomputable def M_X3_hasHole (t : Nat) (x1 : Int32) (h : zw_Hp) : Option (Int32) :=
  if x1 < 0 then (some (0 : Int32)) else (if (4 : Int32) ≤ x1 then (some (0 : Int32)) else (if (((h.1 t 5) >>> (x1 &&& 31)) &&& (1 : Int32)) = (1 : Int32) then (some (1 : Int32)) else (some (0 : Int32))))
set_option maxRecDepth 100000 in
set_option maxHeartbeats 4000000 in
theorem R_X3_hasHole {t : Nat} (k_t : t = 9 ∨ t = 14) (ok : zw_Ok E) (hI : ∀ i, i < 48 → i ∈ E.2.2.1) {x1 : Int32} {h : zw_Hp} {z : Int32} (hM : M_X3_hasHole t x1 h = some z) : zw_Ct l E mt_X3_hasHole [.ref (E.2.1 t), .int x1] h (some (.int z)) h := by
  unfold M_X3_hasHole at hM
  refine zw_ct (lv0 := [(0, .ref (E.2.1 t)), (1, .int x1)]) ok (by decide) rfl (Nat.le_of_ble_eq_true rfl) (fun p e s m args below meth c g hr hlk => ?_)
  replace g : zw_G p E (zw_A E) s m args c RX3 cX3_hasHole 2 := g
  show zw_V p l e s m args below meth c E mt_X3_hasHole 2 (some (.int z)) h 0 [(0, .ref (E.2.1 t)), (1, .int x1)] [] h
  refine zr_iload_n (q := 1) g 1 dX3_hasHole_0 rfl rfl rfl ?_
  refine zr_if_lt (q := 4) (tgt := 25) g dX3_hasHole_1 rfl rfl (fun c1 => ?_) (fun c1 => ?_)
  · replace hM := zw_ift c1 hM
    refine zr_iconst (q := 26) (v := (0 : Int32)) g dX3_hasHole_25 rfl (by decide) ?_
    cases hM
    exact zr_zret g hr hlk (by decide) dX3_hasHole_26 rfl rfl
  · replace hM := zw_iff c1 hM
    refine zr_iload_n (q := 5) g 1 dX3_hasHole_4 rfl rfl rfl ?_
    refine zr_iconst (q := 6) (v := (4 : Int32)) g dX3_hasHole_5 rfl (by decide) ?_
    refine zr_icmp_ge (q := 9) (tgt := 25) g dX3_hasHole_6 rfl rfl (fun c2 => ?_) (fun c2 => ?_)
    · replace hM := zw_ift c2 hM
      refine zr_iconst (q := 26) (v := (0 : Int32)) g dX3_hasHole_25 rfl (by decide) ?_
      cases hM
      exact zr_zret g hr hlk (by decide) dX3_hasHole_26 rfl rfl
    · replace hM := zw_iff c2 hM
      refine zr_aload_n (q := 10) g 0 dX3_hasHole_9 rfl rfl rfl ?_
      refine zr_geti (q := 13) (k0 := 5) g (hI _ (zb_sc0 k_t)) (zs_sc0 k_t) rfl zf_X3_40 dX3_hasHole_10 rfl ?_
      refine zr_iload_n (q := 14) g 1 dX3_hasHole_13 rfl rfl rfl ?_
      refine zr_ishr (q := 15) g dX3_hasHole_14 rfl ?_
      refine zr_iconst (q := 16) (v := (1 : Int32)) g dX3_hasHole_15 rfl (by decide) ?_
      refine zr_iand (q := 17) g dX3_hasHole_16 rfl ?_
      refine zr_iconst (q := 18) (v := (1 : Int32)) g dX3_hasHole_17 rfl (by decide) ?_
      refine zr_icmp_ne (q := 21) (tgt := 25) g dX3_hasHole_18 rfl rfl (fun c3 => ?_) (fun c3 => ?_)
      · replace hM := zw_iff c3 hM
        refine zr_iconst (q := 26) (v := (0 : Int32)) g dX3_hasHole_25 rfl (by decide) ?_
        cases hM
        exact zr_zret g hr hlk (by decide) dX3_hasHole_26 rfl rfl
      · replace hM := zw_ift c3 hM
        refine zr_iconst (q := 22) (v := (1 : Int32)) g dX3_hasHole_21 rfl (by decide) ?_
        refine zr_goto (tgt := 26) g dX3_hasHole_22 rfl ?_
        cases hM
        exact zr_zret g hr hlk (by decide) dX3_hasHole_26 rfl rfl
noncomputable def M_X3_kindAt (t : Nat) (x1 : Int32) (h : zw_Hp) : Option (Int32) :=
  if x1 < 0 then (some (0 : Int32)) else (if x1 < (5 : Int32) then (if zw_ok x1 5 = true then (zw_nm (h.1 (t + 1) (x1).toNatClampNeg) (fun y4 => if y4 < 0 then (some (0 : Int32)) else (if (5 : Int32) ≤ y4 then (some (0 : Int32)) else (if zw_ok y4 5 = true then (some (h.1 7 (y4).toNatClampNeg)) else none)))) else none) else (some (0 : Int32)))
set_option maxRecDepth 100000 in
set_option maxHeartbeats 4000000 in
theorem R_X3_kindAt {t : Nat} (k_t : t = 9 ∨ t = 14) (ok : zw_Ok E) (hI : ∀ i, i < 48 → i ∈ E.2.2.1) {x1 : Int32} {h : zw_Hp} {z : Int32} (hM : M_X3_kindAt t x1 h = some z) : zw_Ct l E mt_X3_kindAt [.ref (E.2.1 t), .int x1] h (some (.int z)) h := by
  unfold M_X3_kindAt at hM
  refine zw_ct (lv0 := [(0, .ref (E.2.1 t)), (1, .int x1)]) ok (by decide) rfl (Nat.le_of_ble_eq_true rfl) (fun p e s m args below meth c g hr hlk => ?_)
  replace g : zw_G p E (zw_A E) s m args c RX3 cX3_kindAt 3 := g
  show zw_V p l e s m args below meth c E mt_X3_kindAt 3 (some (.int z)) h 0 [(0, .ref (E.2.1 t)), (1, .int x1)] [] h
  refine zr_iload_n (q := 1) g 1 dX3_kindAt_0 rfl rfl rfl ?_
  refine zr_if_lt (q := 4) (tgt := 13) g dX3_kindAt_1 rfl rfl (fun c1 => ?_) (fun c1 => ?_)
  · replace hM := zw_ift c1 hM
    refine zr_iconst (q := 14) (v := (0 : Int32)) g dX3_kindAt_13 rfl (by decide) ?_
    cases hM
    exact zr_iret g hr hlk dX3_kindAt_14 rfl rfl
  · replace hM := zw_iff c1 hM
    refine zr_iload_n (q := 5) g 1 dX3_kindAt_4 rfl rfl rfl ?_
    refine zr_aload_n (q := 6) g 0 dX3_kindAt_5 rfl rfl rfl ?_
    refine zr_getr (q := 9) (k0 := 1) (j := (t + 1)) g (hI _ (zb_sc0 k_t)) (zs_sc0 k_t) rfl zf_X3_9 dX3_kindAt_6 rfl ?_
    refine zr_alen (q := 10) (v := (5 : Int32)) g (hI _ (zb_sc1 k_t)) (zs_sc1 k_t) rfl dX3_kindAt_9 rfl ?_
    refine zr_icmp_lt (q := 13) (tgt := 15) g dX3_kindAt_10 rfl rfl (fun c2 => ?_) (fun c2 => ?_)
    · replace hM := zw_ift c2 hM
      refine zr_aload_n (q := 16) g 0 dX3_kindAt_15 rfl rfl rfl ?_
      refine zr_getr (q := 19) (k0 := 1) (j := (t + 1)) g (hI _ (zb_sc0 k_t)) (zs_sc0 k_t) rfl zf_X3_9 dX3_kindAt_16 rfl ?_
      refine zr_iload_n (q := 20) g 1 dX3_kindAt_19 rfl rfl rfl ?_
      obtain ⟨c3, hM⟩ := zw_gd hM
      refine zr_iald (q := 21) g (hI _ (zb_sc1 k_t)) (zs_sc1 k_t) c3 dX3_kindAt_20 rfl ?_
      obtain ⟨y4, e5, hM⟩ := zw_nm_ex hM
      refine zr_nmi e5 ?_
      refine zr_istore_n (q := 22) (lv' := [(2, .int y4), (0, .ref (E.2.1 t)), (1, .int x1)]) g dX3_kindAt_21 rfl rfl (by decide) rfl ?_
      refine zr_iload_n (q := 23) g 0 dX3_kindAt_22 rfl rfl rfl ?_
      refine zr_if_lt (q := 26) (tgt := 50) g dX3_kindAt_23 rfl rfl (fun c6 => ?_) (fun c6 => ?_)
      · replace hM := zw_ift c6 hM
        refine zr_iconst (q := 51) (v := (0 : Int32)) g dX3_kindAt_50 rfl (by decide) ?_
        cases hM
        exact zr_iret g hr hlk dX3_kindAt_51 rfl rfl
      · replace hM := zw_iff c6 hM
        refine zr_iload_n (q := 27) g 0 dX3_kindAt_26 rfl rfl rfl ?_
        refine zr_aload_n (q := 28) g 1 dX3_kindAt_27 rfl rfl rfl ?_
        refine zr_getr (q := 31) (k0 := 0) (j := 6) g (hI _ (zb_sc0 k_t)) (zs_sc0 k_t) rfl zf_X3_24 dX3_kindAt_28 rfl ?_
        refine zr_getr (q := 34) (k0 := 0) (j := 7) g (hI 6 (by decide)) zs_6 rfl zf_X3_60 dX3_kindAt_31 rfl ?_
        refine zr_alen (q := 35) (v := (5 : Int32)) g (hI 7 (by decide)) zs_7 rfl dX3_kindAt_34 rfl ?_
        refine zr_icmp_ge (q := 38) (tgt := 50) g dX3_kindAt_35 rfl rfl (fun c7 => ?_) (fun c7 => ?_)
        · replace hM := zw_ift c7 hM
          refine zr_iconst (q := 51) (v := (0 : Int32)) g dX3_kindAt_50 rfl (by decide) ?_
          cases hM
          exact zr_iret g hr hlk dX3_kindAt_51 rfl rfl
        · replace hM := zw_iff c7 hM
          refine zr_aload_n (q := 39) g 1 dX3_kindAt_38 rfl rfl rfl ?_
          refine zr_getr (q := 42) (k0 := 0) (j := 6) g (hI _ (zb_sc0 k_t)) (zs_sc0 k_t) rfl zf_X3_24 dX3_kindAt_39 rfl ?_
          refine zr_getr (q := 45) (k0 := 0) (j := 7) g (hI 6 (by decide)) zs_6 rfl zf_X3_60 dX3_kindAt_42 rfl ?_
          refine zr_iload_n (q := 46) g 0 dX3_kindAt_45 rfl rfl rfl ?_
          obtain ⟨c8, hM⟩ := zw_gd hM
          refine zr_iald (q := 47) g (hI 7 (by decide)) zs_7 c8 dX3_kindAt_46 rfl ?_
          refine zr_goto (tgt := 51) g dX3_kindAt_47 rfl ?_
          cases hM
          exact zr_iret g hr hlk dX3_kindAt_51 rfl rfl
    · replace hM := zw_iff c2 hM
      refine zr_iconst (q := 14) (v := (0 : Int32)) g dX3_kindAt_13 rfl (by decide) ?_
      cases hM
      exact zr_iret g hr hlk dX3_kindAt_14 rfl rfl
noncomputable def M_X3_worksAt (t : Nat) (x1 : Int32) (h : zw_Hp) : Option (Int32) :=
  if x1 < 0 then (some (0 : Int32)) else (if (5 : Int32) ≤ x1 then (some (0 : Int32)) else (if zw_ok x1 5 = true then (if (((h.1 t 9) >>> ((h.1 (t + 1) (x1).toNatClampNeg) &&& 31)) &&& (1 : Int32)) = (1 : Int32) then (some (0 : Int32)) else ((M_X3_kindAt t x1 h).bind (fun z5 => if z5 = (2 : Int32) then (if ((h.1 t 8) &&& (1 : Int32)) = 0 then (some (1 : Int32)) else (some (0 : Int32))) else (some (1 : Int32))))) else none))
set_option maxRecDepth 100000 in
set_option maxHeartbeats 4000000 in
theorem R_X3_worksAt {t : Nat} (k_t : t = 9 ∨ t = 14) (ok : zw_Ok E) (hI : ∀ i, i < 48 → i ∈ E.2.2.1) {x1 : Int32} {h : zw_Hp} {z : Int32} (hM : M_X3_worksAt t x1 h = some z) : zw_Ct l E mt_X3_worksAt [.ref (E.2.1 t), .int x1] h (some (.int z)) h := by
  unfold M_X3_worksAt at hM
  refine zw_ct (lv0 := [(0, .ref (E.2.1 t)), (1, .int x1)]) ok (by decide) rfl (Nat.le_of_ble_eq_true rfl) (fun p e s m args below meth c g hr hlk => ?_)
  replace g : zw_G p E (zw_A E) s m args c RX3 cX3_worksAt 2 := g
  show zw_V p l e s m args below meth c E mt_X3_worksAt 2 (some (.int z)) h 0 [(0, .ref (E.2.1 t)), (1, .int x1)] [] h
  refine zr_iload_n (q := 1) g 1 dX3_worksAt_0 rfl rfl rfl ?_
  refine zr_if_lt (q := 4) (tgt := 30) g dX3_worksAt_1 rfl rfl (fun c1 => ?_) (fun c1 => ?_)
  · replace hM := zw_ift c1 hM
    refine zr_iconst (q := 31) (v := (0 : Int32)) g dX3_worksAt_30 rfl (by decide) ?_
    cases hM
    exact zr_zret g hr hlk (by decide) dX3_worksAt_31 rfl rfl
  · replace hM := zw_iff c1 hM
    refine zr_iload_n (q := 5) g 1 dX3_worksAt_4 rfl rfl rfl ?_
    refine zr_aload_n (q := 6) g 0 dX3_worksAt_5 rfl rfl rfl ?_
    refine zr_getr (q := 9) (k0 := 1) (j := (t + 1)) g (hI _ (zb_sc0 k_t)) (zs_sc0 k_t) rfl zf_X3_9 dX3_worksAt_6 rfl ?_
    refine zr_alen (q := 10) (v := (5 : Int32)) g (hI _ (zb_sc1 k_t)) (zs_sc1 k_t) rfl dX3_worksAt_9 rfl ?_
    refine zr_icmp_ge (q := 13) (tgt := 30) g dX3_worksAt_10 rfl rfl (fun c2 => ?_) (fun c2 => ?_)
    · replace hM := zw_ift c2 hM
      refine zr_iconst (q := 31) (v := (0 : Int32)) g dX3_worksAt_30 rfl (by decide) ?_
      cases hM
      exact zr_zret g hr hlk (by decide) dX3_worksAt_31 rfl rfl
    · replace hM := zw_iff c2 hM
      refine zr_aload_n (q := 14) g 0 dX3_worksAt_13 rfl rfl rfl ?_
      refine zr_geti (q := 17) (k0 := 9) g (hI _ (zb_sc0 k_t)) (zs_sc0 k_t) rfl zf_X3_51 dX3_worksAt_14 rfl ?_
      refine zr_aload_n (q := 18) g 0 dX3_worksAt_17 rfl rfl rfl ?_
      refine zr_getr (q := 21) (k0 := 1) (j := (t + 1)) g (hI _ (zb_sc0 k_t)) (zs_sc0 k_t) rfl zf_X3_9 dX3_worksAt_18 rfl ?_
      refine zr_iload_n (q := 22) g 1 dX3_worksAt_21 rfl rfl rfl ?_
      obtain ⟨c3, hM⟩ := zw_gd hM
      refine zr_iald (q := 23) g (hI _ (zb_sc1 k_t)) (zs_sc1 k_t) c3 dX3_worksAt_22 rfl ?_
      refine zr_ishr (q := 24) g dX3_worksAt_23 rfl ?_
      refine zr_iconst (q := 25) (v := (1 : Int32)) g dX3_worksAt_24 rfl (by decide) ?_
      refine zr_iand (q := 26) g dX3_worksAt_25 rfl ?_
      refine zr_iconst (q := 27) (v := (1 : Int32)) g dX3_worksAt_26 rfl (by decide) ?_
      refine zr_icmp_ne (q := 30) (tgt := 32) g dX3_worksAt_27 rfl rfl (fun c4 => ?_) (fun c4 => ?_)
      · replace hM := zw_iff c4 hM
        refine zr_aload_n (q := 33) g 0 dX3_worksAt_32 rfl rfl rfl ?_
        refine zr_iload_n (q := 34) g 1 dX3_worksAt_33 rfl rfl rfl ?_
        obtain ⟨z5, q6, hM⟩ := zw_bd hM
        refine zr_callV (q := 37) (As := [.int x1]) (rest := []) (st' := [.int z5]) (i := t) g (R_X3_kindAt k_t ok hI q6) zv_X3_kindAt zl_X3_63 (hI _ (zb_sc0 k_t)) (zs_sc0 k_t) zc_X3.1 dX3_worksAt_34 rfl rfl ⟨Nat.le_of_ble_eq_true rfl, Nat.le_of_ble_eq_true rfl⟩ ⟨Nat.zero_le _, Nat.zero_le _⟩ (Nat.le_of_ble_eq_true rfl) rfl rfl ?_
        refine zr_iconst (q := 38) (v := (2 : Int32)) g dX3_worksAt_37 rfl (by decide) ?_
        refine zr_icmp_ne (q := 41) (tgt := 50) g dX3_worksAt_38 rfl rfl (fun c7 => ?_) (fun c7 => ?_)
        · replace hM := zw_iff c7 hM
          refine zr_iconst (q := 51) (v := (1 : Int32)) g dX3_worksAt_50 rfl (by decide) ?_
          refine zr_goto (tgt := 55) g dX3_worksAt_51 rfl ?_
          cases hM
          exact zr_zret g hr hlk (by decide) dX3_worksAt_55 rfl rfl
        · replace hM := zw_ift c7 hM
          refine zr_aload_n (q := 42) g 0 dX3_worksAt_41 rfl rfl rfl ?_
          refine zr_geti (q := 45) (k0 := 8) g (hI _ (zb_sc0 k_t)) (zs_sc0 k_t) rfl zf_X3_48 dX3_worksAt_42 rfl ?_
          refine zr_iconst (q := 46) (v := (1 : Int32)) g dX3_worksAt_45 rfl (by decide) ?_
          refine zr_iand (q := 47) g dX3_worksAt_46 rfl ?_
          refine zr_if_ne (q := 50) (tgt := 54) g dX3_worksAt_47 rfl rfl (fun c8 => ?_) (fun c8 => ?_)
          · replace hM := zw_iff c8 hM
            refine zr_iconst (q := 55) (v := (0 : Int32)) g dX3_worksAt_54 rfl (by decide) ?_
            cases hM
            exact zr_zret g hr hlk (by decide) dX3_worksAt_55 rfl rfl
          · replace hM := zw_ift c8 hM
            refine zr_iconst (q := 51) (v := (1 : Int32)) g dX3_worksAt_50 rfl (by decide) ?_
            refine zr_goto (tgt := 55) g dX3_worksAt_51 rfl ?_
            cases hM
            exact zr_zret g hr hlk (by decide) dX3_worksAt_55 rfl rfl
      · replace hM := zw_ift c4 hM
        refine zr_iconst (q := 31) (v := (0 : Int32)) g dX3_worksAt_30 rfl (by decide) ?_
        cases hM
        exact zr_zret g hr hlk (by decide) dX3_worksAt_31 rfl rfl
end
