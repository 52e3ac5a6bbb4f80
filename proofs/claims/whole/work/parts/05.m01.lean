section
variable {p : Program} {l : Launch} {e : Env} {s : State} {m : MethodId} {args : Array Value} {below : List Frame} {meth : Method} {c : Code} {E : zw_En}
noncomputable def M_X3_exchange (t : Nat) (x1 : Int32) (x2 : Int32) (h : zw_Hp) : Option (zw_Hp) :=
  (M_X3_standOf t x1 h).bind (fun z1 => (M_X3_standOf t x2 h).bind (fun z3 => if z1 < 0 then (some h) else (if 0 ≤ z3 then (if zw_ok z1 5 = true then zw_nm (zw_up h (t + 1) (z1).toNatClampNeg x2) (fun h8 => if zw_ok z3 5 = true then zw_nm (zw_up h8 (t + 1) (z3).toNatClampNeg x1) (fun h11 => some h11) else none) else none) else (some h))))
set_option maxRecDepth 100000 in
set_option maxHeartbeats 4000000 in
theorem R_X3_exchange {t : Nat} (k_t : t = 9 ∨ t = 14) (ok : zw_Ok E) (hI : ∀ i, i < 48 → i ∈ E.2.2.1) {x1 : Int32} {x2 : Int32} {h : zw_Hp} {z : zw_Hp} (hM : M_X3_exchange t x1 x2 h = some z) : zw_Ct l E mt_X3_exchange [.ref (E.2.1 t), .int x1, .int x2] h none z := by
  unfold M_X3_exchange at hM
  refine zw_ct (lv0 := [(0, .ref (E.2.1 t)), (1, .int x1), (2, .int x2)]) ok (by decide) rfl (Nat.le_of_ble_eq_true rfl) (fun p e s m args below meth c g hr hlk => ?_)
  replace g : zw_G p E (zw_A E) s m args c RX3 cX3_exchange 5 := g
  show zw_V p l e s m args below meth c E mt_X3_exchange 5 none z 0 [(0, .ref (E.2.1 t)), (1, .int x1), (2, .int x2)] [] h
  refine zr_aload_n (q := 1) g 0 dX3_exchange_0 rfl rfl rfl ?_
  refine zr_iload_n (q := 2) g 1 dX3_exchange_1 rfl rfl rfl ?_
  obtain ⟨z1, q2, hM⟩ := zw_bd hM
  refine zr_callV (q := 5) (As := [.int x1]) (rest := []) (st' := [.int z1]) (i := t) g (R_X3_standOf k_t ok hI q2) zv_X3_standOf zl_X3_67 (hI _ (zb_sc0 k_t)) (zs_sc0 k_t) zc_X3.1 dX3_exchange_2 rfl rfl ⟨Nat.le_of_ble_eq_true rfl, Nat.le_of_ble_eq_true rfl⟩ ⟨Nat.zero_le _, Nat.zero_le _⟩ (Nat.le_of_ble_eq_true rfl) rfl rfl ?_
  refine zr_istore_n (q := 6) (lv' := [(3, .int z1), (0, .ref (E.2.1 t)), (1, .int x1), (2, .int x2)]) g dX3_exchange_5 rfl rfl (by decide) rfl ?_
  refine zr_aload_n (q := 7) g 1 dX3_exchange_6 rfl rfl rfl ?_
  refine zr_iload_n (q := 8) g 3 dX3_exchange_7 rfl rfl rfl ?_
  obtain ⟨z3, q4, hM⟩ := zw_bd hM
  refine zr_callV (q := 11) (As := [.int x2]) (rest := []) (st' := [.int z3]) (i := t) g (R_X3_standOf k_t ok hI q4) zv_X3_standOf zl_X3_67 (hI _ (zb_sc0 k_t)) (zs_sc0 k_t) zc_X3.1 dX3_exchange_8 rfl rfl ⟨Nat.le_of_ble_eq_true rfl, Nat.le_of_ble_eq_true rfl⟩ ⟨Nat.zero_le _, Nat.zero_le _⟩ (Nat.le_of_ble_eq_true rfl) rfl rfl ?_
  refine zr_istore (q := 13) (lv' := [(4, .int z3), (3, .int z1), (0, .ref (E.2.1 t)), (1, .int x1), (2, .int x2)]) g dX3_exchange_11 rfl (by decide) rfl ?_
  refine zr_iload_n (q := 14) g 1 dX3_exchange_13 rfl rfl rfl ?_
  refine zr_if_lt (q := 17) (tgt := 22) g dX3_exchange_14 rfl rfl (fun c5 => ?_) (fun c5 => ?_)
  · replace hM := zw_ift c5 hM
    cases hM
    exact zr_vret g hr hlk dX3_exchange_22 rfl rfl
  · replace hM := zw_iff c5 hM
    refine zr_iload (q := 19) g 0 dX3_exchange_17 rfl rfl ?_
    refine zr_if_ge (q := 22) (tgt := 23) g dX3_exchange_19 rfl rfl (fun c6 => ?_) (fun c6 => ?_)
    · replace hM := zw_ift c6 hM
      refine zr_aload_n (q := 24) g 2 dX3_exchange_23 rfl rfl rfl ?_
      refine zr_getr (q := 27) (k0 := 1) (j := (t + 1)) g (hI _ (zb_sc0 k_t)) (zs_sc0 k_t) rfl zf_X3_9 dX3_exchange_24 rfl ?_
      refine zr_iload_n (q := 28) g 1 dX3_exchange_27 rfl rfl rfl ?_
      refine zr_iload_n (q := 29) g 4 dX3_exchange_28 rfl rfl rfl ?_
      obtain ⟨c7, hM⟩ := zw_gd hM
      obtain ⟨h8, e9, hM⟩ := zw_nm_ex hM
      refine zr_iast (q := 30) (h' := h8) g (hI _ (zb_sc1 k_t)) (zs_sc1 k_t) c7 dX3_exchange_29 rfl e9 ?_
      refine zr_aload_n (q := 31) g 2 dX3_exchange_30 rfl rfl rfl ?_
      refine zr_getr (q := 34) (k0 := 1) (j := (t + 1)) g (hI _ (zb_sc0 k_t)) (zs_sc0 k_t) rfl zf_X3_9 dX3_exchange_31 rfl ?_
      refine zr_iload (q := 36) g 0 dX3_exchange_34 rfl rfl ?_
      refine zr_iload_n (q := 37) g 3 dX3_exchange_36 rfl rfl rfl ?_
      obtain ⟨c10, hM⟩ := zw_gd hM
      obtain ⟨h11, e12, hM⟩ := zw_nm_ex hM
      refine zr_iast (q := 38) (h' := h11) g (hI _ (zb_sc1 k_t)) (zs_sc1 k_t) c10 dX3_exchange_37 rfl e12 ?_
      cases hM
      exact zr_vret g hr hlk dX3_exchange_38 rfl rfl
    · replace hM := zw_iff c6 hM
      cases hM
      exact zr_vret g hr hlk dX3_exchange_22 rfl rfl
noncomputable def M_X3_closeHole (t : Nat) (x1 : Int32) (h : zw_Hp) : Option (zw_Hp) :=
  zw_nm (zw_up h t 5 ((h.1 t 5) &&& (((1 : Int32) <<< (x1 &&& 31)) ^^^ (-1 : Int32)))) (fun h1 => some h1)
set_option maxRecDepth 100000 in
set_option maxHeartbeats 4000000 in
theorem R_X3_closeHole {t : Nat} (k_t : t = 9 ∨ t = 14) (ok : zw_Ok E) (hI : ∀ i, i < 48 → i ∈ E.2.2.1) {x1 : Int32} {h : zw_Hp} {z : zw_Hp} (hM : M_X3_closeHole t x1 h = some z) : zw_Ct l E mt_X3_closeHole [.ref (E.2.1 t), .int x1] h none z := by
  unfold M_X3_closeHole at hM
  refine zw_ct (lv0 := [(0, .ref (E.2.1 t)), (1, .int x1)]) ok (by decide) rfl (Nat.le_of_ble_eq_true rfl) (fun p e s m args below meth c g hr hlk => ?_)
  replace g : zw_G p E (zw_A E) s m args c RX3 cX3_closeHole 2 := g
  show zw_V p l e s m args below meth c E mt_X3_closeHole 2 none z 0 [(0, .ref (E.2.1 t)), (1, .int x1)] [] h
  refine zr_aload_n (q := 1) g 0 dX3_closeHole_0 rfl rfl rfl ?_
  refine zr_dup (q := 2) g dX3_closeHole_1 rfl rfl ?_
  refine zr_geti (q := 5) (k0 := 5) g (hI _ (zb_sc0 k_t)) (zs_sc0 k_t) rfl zf_X3_40 dX3_closeHole_2 rfl ?_
  refine zr_iconst (q := 6) (v := (1 : Int32)) g dX3_closeHole_5 rfl (by decide) ?_
  refine zr_iload_n (q := 7) g 1 dX3_closeHole_6 rfl rfl rfl ?_
  refine zr_ishl (q := 8) g dX3_closeHole_7 rfl ?_
  refine zr_iconst (q := 9) (v := (-1 : Int32)) g dX3_closeHole_8 rfl (by decide) ?_
  refine zr_ixor (q := 10) g dX3_closeHole_9 rfl ?_
  refine zr_iand (q := 11) g dX3_closeHole_10 rfl ?_
  obtain ⟨h1, e2, hM⟩ := zw_nm_ex hM
  refine zr_puti (q := 14) (k0 := 5) (h' := h1) g (hI _ (zb_sc0 k_t)) (zs_sc0 k_t) rfl zp_X3_40 dX3_closeHole_11 rfl e2 ?_
  cases hM
  exact zr_vret g hr hlk dX3_closeHole_14 rfl rfl
noncomputable def M_X3_sendBack (t : Nat) (x1 : Int32) (h : zw_Hp) : Option (zw_Hp) :=
  if zw_ok x1 4 = true then zw_nm (zw_up h (t + 2) (x1).toNatClampNeg (9 : Int32)) (fun h2 => if zw_ok x1 4 = true then zw_nm (zw_up h2 (t + 3) (x1).toNatClampNeg (0 : Int32)) (fun h5 => if zw_ok x1 4 = true then zw_nm (zw_up h5 (t + 4) (x1).toNatClampNeg (h5.1 6 7)) (fun h8 => some h8) else none) else none) else none
set_option maxRecDepth 100000 in
set_option maxHeartbeats 4000000 in
theorem R_X3_sendBack {t : Nat} (k_t : t = 9 ∨ t = 14) (ok : zw_Ok E) (hI : ∀ i, i < 48 → i ∈ E.2.2.1) {x1 : Int32} {h : zw_Hp} {z : zw_Hp} (hM : M_X3_sendBack t x1 h = some z) : zw_Ct l E mt_X3_sendBack [.ref (E.2.1 t), .int x1] h none z := by
  unfold M_X3_sendBack at hM
  refine zw_ct (lv0 := [(0, .ref (E.2.1 t)), (1, .int x1)]) ok (by decide) rfl (Nat.le_of_ble_eq_true rfl) (fun p e s m args below meth c g hr hlk => ?_)
  replace g : zw_G p E (zw_A E) s m args c RX3 cX3_sendBack 2 := g
  show zw_V p l e s m args below meth c E mt_X3_sendBack 2 none z 0 [(0, .ref (E.2.1 t)), (1, .int x1)] [] h
  refine zr_aload_n (q := 1) g 0 dX3_sendBack_0 rfl rfl rfl ?_
  refine zr_getr (q := 4) (k0 := 2) (j := (t + 2)) g (hI _ (zb_sc0 k_t)) (zs_sc0 k_t) rfl zf_X3_15 dX3_sendBack_1 rfl ?_
  refine zr_iload_n (q := 5) g 1 dX3_sendBack_4 rfl rfl rfl ?_
  refine zr_bipush (q := 7) (v := (9 : Int32)) g dX3_sendBack_5 rfl (by decide) ?_
  obtain ⟨c1, hM⟩ := zw_gd hM
  obtain ⟨h2, e3, hM⟩ := zw_nm_ex hM
  refine zr_iast (q := 8) (h' := h2) g (hI _ (zb_sc2 k_t)) (zs_sc2 k_t) c1 dX3_sendBack_7 rfl e3 ?_
  refine zr_aload_n (q := 9) g 0 dX3_sendBack_8 rfl rfl rfl ?_
  refine zr_getr (q := 12) (k0 := 3) (j := (t + 3)) g (hI _ (zb_sc0 k_t)) (zs_sc0 k_t) rfl zf_X3_18 dX3_sendBack_9 rfl ?_
  refine zr_iload_n (q := 13) g 1 dX3_sendBack_12 rfl rfl rfl ?_
  refine zr_iconst (q := 14) (v := (0 : Int32)) g dX3_sendBack_13 rfl (by decide) ?_
  obtain ⟨c4, hM⟩ := zw_gd hM
  obtain ⟨h5, e6, hM⟩ := zw_nm_ex hM
  refine zr_iast (q := 15) (h' := h5) g (hI _ (zb_sc3 k_t)) (zs_sc3 k_t) c4 dX3_sendBack_14 rfl e6 ?_
  refine zr_aload_n (q := 16) g 0 dX3_sendBack_15 rfl rfl rfl ?_
  refine zr_getr (q := 19) (k0 := 4) (j := (t + 4)) g (hI _ (zb_sc0 k_t)) (zs_sc0 k_t) rfl zf_X3_21 dX3_sendBack_16 rfl ?_
  refine zr_iload_n (q := 20) g 1 dX3_sendBack_19 rfl rfl rfl ?_
  refine zr_aload_n (q := 21) g 0 dX3_sendBack_20 rfl rfl rfl ?_
  refine zr_getr (q := 24) (k0 := 0) (j := 6) g (hI _ (zb_sc0 k_t)) (zs_sc0 k_t) rfl zf_X3_24 dX3_sendBack_21 rfl ?_
  refine zr_geti (q := 27) (k0 := 7) g (hI 6 (by decide)) zs_6 rfl zf_X3_118 dX3_sendBack_24 rfl ?_
  obtain ⟨c7, hM⟩ := zw_gd hM
  obtain ⟨h8, e9, hM⟩ := zw_nm_ex hM
  refine zr_iast (q := 28) (h' := h8) g (hI _ (zb_sc4 k_t)) (zs_sc4 k_t) c7 dX3_sendBack_27 rfl e9 ?_
  cases hM
  exact zr_vret g hr hlk dX3_sendBack_28 rfl rfl
noncomputable def M_X3_letFall (t : Nat) (x1 : Int32) (h : zw_Hp) : Option (zw_Hp) :=
  (M_X3_isHeld t x1 h).bind (fun z1 => if z1 = 0 then (some h) else ((M_X3_sendBack t x1 h).bind (fun z4 => if zw_ok x1 4 = true then (if (z4.1 (t + 4) (x1).toNatClampNeg) = 0 then (if zw_ok x1 4 = true then zw_nm (zw_up z4 (t + 2) (x1).toNatClampNeg (8 : Int32)) (fun h9 => some h9) else none) else (some z4)) else none)))
set_option maxRecDepth 100000 in
set_option maxHeartbeats 4000000 in
theorem R_X3_letFall {t : Nat} (k_t : t = 9 ∨ t = 14) (ok : zw_Ok E) (hI : ∀ i, i < 48 → i ∈ E.2.2.1) {x1 : Int32} {h : zw_Hp} {z : zw_Hp} (hM : M_X3_letFall t x1 h = some z) : zw_Ct l E mt_X3_letFall [.ref (E.2.1 t), .int x1] h none z := by
  unfold M_X3_letFall at hM
  refine zw_ct (lv0 := [(0, .ref (E.2.1 t)), (1, .int x1)]) ok (by decide) rfl (Nat.le_of_ble_eq_true rfl) (fun p e s m args below meth c g hr hlk => ?_)
  replace g : zw_G p E (zw_A E) s m args c RX3 cX3_letFall 2 := g
  show zw_V p l e s m args below meth c E mt_X3_letFall 2 none z 0 [(0, .ref (E.2.1 t)), (1, .int x1)] [] h
  refine zr_aload_n (q := 1) g 0 dX3_letFall_0 rfl rfl rfl ?_
  refine zr_iload_n (q := 2) g 1 dX3_letFall_1 rfl rfl rfl ?_
  obtain ⟨z1, q2, hM⟩ := zw_bd hM
  refine zr_callV (q := 5) (As := [.int x1]) (rest := []) (st' := [.int z1]) (i := t) g (R_X3_isHeld k_t ok hI q2) zv_X3_isHeld zl_X3_70 (hI _ (zb_sc0 k_t)) (zs_sc0 k_t) zc_X3.1 dX3_letFall_2 rfl rfl ⟨Nat.le_of_ble_eq_true rfl, Nat.le_of_ble_eq_true rfl⟩ ⟨Nat.zero_le _, Nat.zero_le _⟩ (Nat.le_of_ble_eq_true rfl) rfl rfl ?_
  refine zr_if_ne (q := 8) (tgt := 9) g dX3_letFall_5 rfl rfl (fun c3 => ?_) (fun c3 => ?_)
  · replace hM := zw_iff c3 hM
    refine zr_aload_n (q := 10) g 0 dX3_letFall_9 rfl rfl rfl ?_
    refine zr_iload_n (q := 11) g 1 dX3_letFall_10 rfl rfl rfl ?_
    obtain ⟨z4, q5, hM⟩ := zw_bd hM
    refine zr_callV (q := 14) (As := [.int x1]) (rest := []) (st' := []) (i := t) g (R_X3_sendBack k_t ok hI q5) zv_X3_sendBack zl_X3_74 (hI _ (zb_sc0 k_t)) (zs_sc0 k_t) zc_X3.1 dX3_letFall_11 rfl rfl ⟨Nat.le_of_ble_eq_true rfl, Nat.le_of_ble_eq_true rfl⟩ ⟨Nat.zero_le _, Nat.zero_le _⟩ (Nat.le_of_ble_eq_true rfl) rfl rfl ?_
    refine zr_aload_n (q := 15) g 0 dX3_letFall_14 rfl rfl rfl ?_
    refine zr_getr (q := 18) (k0 := 4) (j := (t + 4)) g (hI _ (zb_sc0 k_t)) (zs_sc0 k_t) rfl zf_X3_21 dX3_letFall_15 rfl ?_
    refine zr_iload_n (q := 19) g 1 dX3_letFall_18 rfl rfl rfl ?_
    obtain ⟨c6, hM⟩ := zw_gd hM
    refine zr_iald (q := 20) g (hI _ (zb_sc4 k_t)) (zs_sc4 k_t) c6 dX3_letFall_19 rfl ?_
    refine zr_if_ne (q := 23) (tgt := 31) g dX3_letFall_20 rfl rfl (fun c7 => ?_) (fun c7 => ?_)
    · replace hM := zw_iff c7 hM
      cases hM
      exact zr_vret g hr hlk dX3_letFall_31 rfl rfl
    · replace hM := zw_ift c7 hM
      refine zr_aload_n (q := 24) g 0 dX3_letFall_23 rfl rfl rfl ?_
      refine zr_getr (q := 27) (k0 := 2) (j := (t + 2)) g (hI _ (zb_sc0 k_t)) (zs_sc0 k_t) rfl zf_X3_15 dX3_letFall_24 rfl ?_
      refine zr_iload_n (q := 28) g 1 dX3_letFall_27 rfl rfl rfl ?_
      refine zr_bipush (q := 30) (v := (8 : Int32)) g dX3_letFall_28 rfl (by decide) ?_
      obtain ⟨c8, hM⟩ := zw_gd hM
      obtain ⟨h9, e10, hM⟩ := zw_nm_ex hM
      refine zr_iast (q := 31) (h' := h9) g (hI _ (zb_sc2 k_t)) (zs_sc2 k_t) c8 dX3_letFall_30 rfl e10 ?_
      cases hM
      exact zr_vret g hr hlk dX3_letFall_31 rfl rfl
  · replace hM := zw_ift c3 hM
    cases hM
    exact zr_vret g hr hlk dX3_letFall_8 rfl rfl
noncomputable def M_X3_throwLast (t : Nat) (h : zw_Hp) : Option (Int32 × zw_Hp) :=
  zw_nm ((h.1 6 2) - (1 : Int32)) (fun y1 => (M_X3_leastBucketAt t y1 h).bind (fun z3 => if z3 < 0 then (some ((-9 : Int32), h)) else ((M_X3_worksAt t y1 h).bind (fun z6 => if z6 = 0 then (some ((-9 : Int32), h)) else (if zw_ok z3 4 = true then (zw_nm (zw_up h t 6 (if (0 : Int32) < ((h.1 t 6) - (h.1 (t + 3) (z3).toNatClampNeg)) then ((h.1 t 6) - (h.1 (t + 3) (z3).toNatClampNeg)) else (0 : Int32))) (fun h10 => if zw_ok z3 4 = true then (zw_nm (zw_up h10 t 7 ((h10.1 t 7) + (h10.1 (t + 3) (z3).toNatClampNeg))) (fun h13 => (M_X3_sendBack t z3 h13).bind (fun z15 => some (z3, z15)))) else none)) else none)))))
set_option maxRecDepth 100000 in
set_option maxHeartbeats 4000000 in
theorem R_X3_throwLast {t : Nat} (k_t : t = 9 ∨ t = 14) (ok : zw_Ok E) (hI : ∀ i, i < 48 → i ∈ E.2.2.1) {h : zw_Hp} {z : Int32 × zw_Hp} (hM : M_X3_throwLast t h = some z) : zw_Ct l E mt_X3_throwLast [.ref (E.2.1 t)] h (some (.int z.1)) z.2 := by
  unfold M_X3_throwLast at hM
  refine zw_ct (lv0 := [(0, .ref (E.2.1 t))]) ok (by decide) rfl (Nat.le_of_ble_eq_true rfl) (fun p e s m args below meth c g hr hlk => ?_)
  replace g : zw_G p E (zw_A E) s m args c RX3 cX3_throwLast 3 := g
  show zw_V p l e s m args below meth c E mt_X3_throwLast 3 (some (.int z.1)) z.2 0 [(0, .ref (E.2.1 t))] [] h
  refine zr_aload_n (q := 1) g 0 dX3_throwLast_0 rfl rfl rfl ?_
  refine zr_getr (q := 4) (k0 := 0) (j := 6) g (hI _ (zb_sc0 k_t)) (zs_sc0 k_t) rfl zf_X3_24 dX3_throwLast_1 rfl ?_
  refine zr_geti (q := 7) (k0 := 2) g (hI 6 (by decide)) zs_6 rfl zf_X3_85 dX3_throwLast_4 rfl ?_
  refine zr_iconst (q := 8) (v := (1 : Int32)) g dX3_throwLast_7 rfl (by decide) ?_
  refine zr_isub (q := 9) g dX3_throwLast_8 rfl ?_
  obtain ⟨y1, e2, hM⟩ := zw_nm_ex hM
  refine zr_nmi e2 ?_
  refine zr_istore_n (q := 10) (lv' := [(1, .int y1), (0, .ref (E.2.1 t))]) g dX3_throwLast_9 rfl rfl (by decide) rfl ?_
  refine zr_aload_n (q := 11) g 1 dX3_throwLast_10 rfl rfl rfl ?_
  refine zr_iload_n (q := 12) g 0 dX3_throwLast_11 rfl rfl rfl ?_
  obtain ⟨z3, q4, hM⟩ := zw_bd hM
  refine zr_callV (q := 15) (As := [.int y1]) (rest := []) (st' := [.int z3]) (i := t) g (R_X3_leastBucketAt k_t ok hI q4) zv_X3_leastBucketAt zl_X3_109 (hI _ (zb_sc0 k_t)) (zs_sc0 k_t) zc_X3.1 dX3_throwLast_12 rfl rfl ⟨Nat.le_of_ble_eq_true rfl, Nat.le_of_ble_eq_true rfl⟩ ⟨Nat.zero_le _, Nat.zero_le _⟩ (Nat.le_of_ble_eq_true rfl) rfl rfl ?_
  refine zr_istore_n (q := 16) (lv' := [(2, .int z3), (1, .int y1), (0, .ref (E.2.1 t))]) g dX3_throwLast_15 rfl rfl (by decide) rfl ?_
  refine zr_iload_n (q := 17) g 0 dX3_throwLast_16 rfl rfl rfl ?_
  refine zr_if_lt (q := 20) (tgt := 28) g dX3_throwLast_17 rfl rfl (fun c5 => ?_) (fun c5 => ?_)
  · replace hM := zw_ift c5 hM
    refine zr_bipush (q := 30) (v := (-9 : Int32)) g dX3_throwLast_28 rfl (by decide) ?_
    cases hM
    exact zr_iret g hr hlk dX3_throwLast_30 rfl rfl
  · replace hM := zw_iff c5 hM
    refine zr_aload_n (q := 21) g 2 dX3_throwLast_20 rfl rfl rfl ?_
    refine zr_iload_n (q := 22) g 1 dX3_throwLast_21 rfl rfl rfl ?_
    obtain ⟨z6, q7, hM⟩ := zw_bd hM
    refine zr_callV (q := 25) (As := [.int y1]) (rest := []) (st' := [.int z6]) (i := t) g (R_X3_worksAt k_t ok hI q7) zv_X3_worksAt zl_X3_112 (hI _ (zb_sc0 k_t)) (zs_sc0 k_t) zc_X3.1 dX3_throwLast_22 rfl rfl ⟨Nat.le_of_ble_eq_true rfl, Nat.le_of_ble_eq_true rfl⟩ ⟨Nat.zero_le _, Nat.zero_le _⟩ (Nat.le_of_ble_eq_true rfl) rfl rfl ?_
    refine zr_if_ne (q := 28) (tgt := 31) g dX3_throwLast_25 rfl rfl (fun c8 => ?_) (fun c8 => ?_)
    · replace hM := zw_iff c8 hM
      refine zr_aload_n (q := 32) g 2 dX3_throwLast_31 rfl rfl rfl ?_
      refine zr_iconst (q := 33) (v := (0 : Int32)) g dX3_throwLast_32 rfl (by decide) ?_
      refine zr_aload_n (q := 34) g 2 dX3_throwLast_33 rfl rfl rfl ?_
      refine zr_geti (q := 37) (k0 := 6) g (hI _ (zb_sc0 k_t)) (zs_sc0 k_t) rfl zf_X3_44 dX3_throwLast_34 rfl ?_
      refine zr_aload_n (q := 38) g 2 dX3_throwLast_37 rfl rfl rfl ?_
      refine zr_getr (q := 41) (k0 := 3) (j := (t + 3)) g (hI _ (zb_sc0 k_t)) (zs_sc0 k_t) rfl zf_X3_18 dX3_throwLast_38 rfl ?_
      refine zr_iload_n (q := 42) g 0 dX3_throwLast_41 rfl rfl rfl ?_
      obtain ⟨c9, hM⟩ := zw_gd hM
      refine zr_iald (q := 43) g (hI _ (zb_sc3 k_t)) (zs_sc3 k_t) c9 dX3_throwLast_42 rfl ?_
      refine zr_isub (q := 44) g dX3_throwLast_43 rfl ?_
      refine zr_mmax (q := 47) g zl_X3_115 zl_mmax ⟨Nat.le_of_ble_eq_true rfl, Nat.le_of_ble_eq_true rfl⟩ ⟨Nat.zero_le _, Nat.zero_le _⟩ (Nat.le_of_ble_eq_true rfl) dX3_throwLast_44 rfl ?_
      obtain ⟨h10, e11, hM⟩ := zw_nm_ex hM
      refine zr_puti (q := 50) (k0 := 6) (h' := h10) g (hI _ (zb_sc0 k_t)) (zs_sc0 k_t) rfl zp_X3_44 dX3_throwLast_47 rfl e11 ?_
      refine zr_aload_n (q := 51) g 2 dX3_throwLast_50 rfl rfl rfl ?_
      refine zr_dup (q := 52) g dX3_throwLast_51 rfl rfl ?_
      refine zr_geti (q := 55) (k0 := 7) g (hI _ (zb_sc0 k_t)) (zs_sc0 k_t) rfl zf_X3_45 dX3_throwLast_52 rfl ?_
      refine zr_aload_n (q := 56) g 2 dX3_throwLast_55 rfl rfl rfl ?_
      refine zr_getr (q := 59) (k0 := 3) (j := (t + 3)) g (hI _ (zb_sc0 k_t)) (zs_sc0 k_t) rfl zf_X3_18 dX3_throwLast_56 rfl ?_
      refine zr_iload_n (q := 60) g 0 dX3_throwLast_59 rfl rfl rfl ?_
      obtain ⟨c12, hM⟩ := zw_gd hM
      refine zr_iald (q := 61) g (hI _ (zb_sc3 k_t)) (zs_sc3 k_t) c12 dX3_throwLast_60 rfl ?_
      refine zr_iadd (q := 62) g dX3_throwLast_61 rfl ?_
      obtain ⟨h13, e14, hM⟩ := zw_nm_ex hM
      refine zr_puti (q := 65) (k0 := 7) (h' := h13) g (hI _ (zb_sc0 k_t)) (zs_sc0 k_t) rfl zp_X3_45 dX3_throwLast_62 rfl e14 ?_
      refine zr_aload_n (q := 66) g 2 dX3_throwLast_65 rfl rfl rfl ?_
      refine zr_iload_n (q := 67) g 0 dX3_throwLast_66 rfl rfl rfl ?_
      obtain ⟨z15, q16, hM⟩ := zw_bd hM
      refine zr_callV (q := 70) (As := [.int z3]) (rest := []) (st' := []) (i := t) g (R_X3_sendBack k_t ok hI q16) zv_X3_sendBack zl_X3_74 (hI _ (zb_sc0 k_t)) (zs_sc0 k_t) zc_X3.1 dX3_throwLast_67 rfl rfl ⟨Nat.le_of_ble_eq_true rfl, Nat.le_of_ble_eq_true rfl⟩ ⟨Nat.zero_le _, Nat.zero_le _⟩ (Nat.le_of_ble_eq_true rfl) rfl rfl ?_
      refine zr_iload_n (q := 71) g 0 dX3_throwLast_70 rfl rfl rfl ?_
      cases hM
      exact zr_iret g hr hlk dX3_throwLast_71 rfl rfl
    · replace hM := zw_ift c8 hM
      refine zr_bipush (q := 30) (v := (-9 : Int32)) g dX3_throwLast_28 rfl (by decide) ?_
      cases hM
      exact zr_iret g hr hlk dX3_throwLast_30 rfl rfl
noncomputable def B_X3_give_30 (t : Nat) (s0 : Int32) (s1 : Int32) (h : zw_Hp) : Option (zw_Hp) :=
  if zw_ok s1 4 = true then zw_nm (zw_up h (t + 3) (s1).toNatClampNeg s0) (fun h8 => some h8) else none
set_option maxRecDepth 100000 in
set_option maxHeartbeats 4000000 in
theorem U_X3_give_30 {t : Nat} (k_t : t = 9 ∨ t = 14) (ok : zw_Ok E) (hI : ∀ i, i < 48 → i ∈ E.2.2.1) (g : zw_G p E (zw_A E) s m args c RX3 cX3_give 4) (hr : meth.sig.returnType = none) (hlk : meth.locks = false) :
    ∀ (s0 : Int32) (s1 : Int32) (h : zw_Hp) (z : zw_Hp), B_X3_give_30 t s0 s1 h = some z → zw_V p l e s m args below meth c E mt_X3_give 4 none z 30 [] [.int s0, .int s1, .ref (E.2.1 (t + 3))] h := by
  intro s0 s1 h z hM
  unfold B_X3_give_30 at hM
  obtain ⟨c7, hM⟩ := zw_gd hM
  obtain ⟨h8, e9, hM⟩ := zw_nm_ex hM
  refine zr_iast (q := 31) (h' := h8) g (hI _ (zb_sc3 k_t)) (zs_sc3 k_t) c7 dX3_give_30 rfl e9 ?_
  cases hM
  exact zr_vret g hr hlk dX3_give_31 rfl rfl
noncomputable def M_X3_give (t : Nat) (x1 : Int32) (x2 : Int32) (x3 : Int32) (h : zw_Hp) : Option (zw_Hp) :=
  if zw_ok x1 4 = true then zw_nm (zw_up h (t + 2) (x1).toNatClampNeg x2) (fun h2 => (M_X3_kindAt t x2 h2).bind (fun z4 => if z4 = (3 : Int32) then (B_X3_give_30 t (if x3 < (2 : Int32) then x3 else (2 : Int32)) x1 h2) else (B_X3_give_30 t x3 x1 h2))) else none
set_option maxRecDepth 100000 in
set_option maxHeartbeats 4000000 in
theorem R_X3_give {t : Nat} (k_t : t = 9 ∨ t = 14) (ok : zw_Ok E) (hI : ∀ i, i < 48 → i ∈ E.2.2.1) {x1 : Int32} {x2 : Int32} {x3 : Int32} {h : zw_Hp} {z : zw_Hp} (hM : M_X3_give t x1 x2 x3 h = some z) : zw_Ct l E mt_X3_give [.ref (E.2.1 t), .int x1, .int x2, .int x3] h none z := by
  unfold M_X3_give at hM
  refine zw_ct (lv0 := [(0, .ref (E.2.1 t)), (1, .int x1), (2, .int x2), (3, .int x3)]) ok (by decide) rfl (Nat.le_of_ble_eq_true rfl) (fun p e s m args below meth c g hr hlk => ?_)
  replace g : zw_G p E (zw_A E) s m args c RX3 cX3_give 4 := g
  show zw_V p l e s m args below meth c E mt_X3_give 4 none z 0 [(0, .ref (E.2.1 t)), (1, .int x1), (2, .int x2), (3, .int x3)] [] h
  refine zr_aload_n (q := 1) g 0 dX3_give_0 rfl rfl rfl ?_
  refine zr_getr (q := 4) (k0 := 2) (j := (t + 2)) g (hI _ (zb_sc0 k_t)) (zs_sc0 k_t) rfl zf_X3_15 dX3_give_1 rfl ?_
  refine zr_iload_n (q := 5) g 1 dX3_give_4 rfl rfl rfl ?_
  refine zr_iload_n (q := 6) g 2 dX3_give_5 rfl rfl rfl ?_
  obtain ⟨c1, hM⟩ := zw_gd hM
  obtain ⟨h2, e3, hM⟩ := zw_nm_ex hM
  refine zr_iast (q := 7) (h' := h2) g (hI _ (zb_sc2 k_t)) (zs_sc2 k_t) c1 dX3_give_6 rfl e3 ?_
  refine zr_aload_n (q := 8) g 0 dX3_give_7 rfl rfl rfl ?_
  refine zr_getr (q := 11) (k0 := 3) (j := (t + 3)) g (hI _ (zb_sc0 k_t)) (zs_sc0 k_t) rfl zf_X3_18 dX3_give_8 rfl ?_
  refine zr_iload_n (q := 12) g 1 dX3_give_11 rfl rfl rfl ?_
  refine zr_aload_n (q := 13) g 0 dX3_give_12 rfl rfl rfl ?_
  refine zr_iload_n (q := 14) g 2 dX3_give_13 rfl rfl rfl ?_
  obtain ⟨z4, q5, hM⟩ := zw_bd hM
  refine zr_callV (q := 17) (As := [.int x2]) (rest := [.int x1, .ref (E.2.1 (t + 3))]) (st' := [.int z4, .int x1, .ref (E.2.1 (t + 3))]) (i := t) g (R_X3_kindAt k_t ok hI q5) zv_X3_kindAt zl_X3_63 (hI _ (zb_sc0 k_t)) (zs_sc0 k_t) zc_X3.1 dX3_give_14 rfl rfl ⟨Nat.le_of_ble_eq_true rfl, Nat.le_of_ble_eq_true rfl⟩ ⟨Nat.zero_le _, Nat.zero_le _⟩ (Nat.le_of_ble_eq_true rfl) rfl rfl ?_
  refine zr_iconst (q := 18) (v := (3 : Int32)) g dX3_give_17 rfl (by decide) ?_
  refine zr_icmp_ne (q := 21) (tgt := 29) g dX3_give_18 rfl rfl (fun c6 => ?_) (fun c6 => ?_)
  · replace hM := zw_iff c6 hM
    refine zr_iload_n (q := 30) g 3 dX3_give_29 rfl rfl rfl ?_
    refine zr_lv (lv' := []) [] rfl ?_
    exact U_X3_give_30 k_t ok hI g hr hlk _ _ _ _ hM
  · replace hM := zw_ift c6 hM
    refine zr_iconst (q := 22) (v := (2 : Int32)) g dX3_give_21 rfl (by decide) ?_
    refine zr_iload_n (q := 23) g 3 dX3_give_22 rfl rfl rfl ?_
    refine zr_mmin (q := 26) g zl_X3_103 zl_mmin ⟨Nat.le_of_ble_eq_true rfl, Nat.le_of_ble_eq_true rfl⟩ ⟨Nat.zero_le _, Nat.zero_le _⟩ (Nat.le_of_ble_eq_true rfl) dX3_give_23 rfl ?_
    refine zr_goto (tgt := 30) g dX3_give_26 rfl ?_
    refine zr_lv (lv' := []) [] rfl ?_
    exact U_X3_give_30 k_t ok hI g hr hlk _ _ _ _ hM
noncomputable def B_X3_handOn_43 (t : Nat) (x1 : Int32) (x2 : Int32) (s0 : Int32) (h : zw_Hp) : Option (zw_Hp) :=
  if zw_ok x2 4 = true then ((M_X3_give t x2 (x1 + (1 : Int32)) (if (0 : Int32) < ((h.1 (t + 3) (x2).toNatClampNeg) - s0) then ((h.1 (t + 3) (x2).toNatClampNeg) - s0) else (0 : Int32)) h).bind (fun z14 => some z14)) else none
set_option maxRecDepth 100000 in
set_option maxHeartbeats 4000000 in
theorem U_X3_handOn_43 {t : Nat} (k_t : t = 9 ∨ t = 14) (ok : zw_Ok E) (hI : ∀ i, i < 48 → i ∈ E.2.2.1) (g : zw_G p E (zw_A E) s m args c RX3 cX3_handOn 4) (hr : meth.sig.returnType = none) (hlk : meth.locks = false) :
    ∀ (x1 : Int32) (x2 : Int32) (s0 : Int32) (h : zw_Hp) (z : zw_Hp), B_X3_handOn_43 t x1 x2 s0 h = some z → zw_V p l e s m args below meth c E mt_X3_handOn 4 none z 43 [(0, .ref (E.2.1 t)), (1, .int x1), (2, .int x2)] [.int s0] h := by
  intro x1 x2 s0 h z hM
  unfold B_X3_handOn_43 at hM
  refine zr_istore_n (q := 44) (lv' := [(3, .int s0), (0, .ref (E.2.1 t)), (1, .int x1), (2, .int x2)]) g dX3_handOn_43 rfl rfl (by decide) rfl ?_
  refine zr_aload_n (q := 45) g 1 dX3_handOn_44 rfl rfl rfl ?_
  refine zr_iload_n (q := 46) g 3 dX3_handOn_45 rfl rfl rfl ?_
  refine zr_iload_n (q := 47) g 2 dX3_handOn_46 rfl rfl rfl ?_
  refine zr_iconst (q := 48) (v := (1 : Int32)) g dX3_handOn_47 rfl (by decide) ?_
  refine zr_iadd (q := 49) g dX3_handOn_48 rfl ?_
  refine zr_iconst (q := 50) (v := (0 : Int32)) g dX3_handOn_49 rfl (by decide) ?_
  refine zr_aload_n (q := 51) g 1 dX3_handOn_50 rfl rfl rfl ?_
  refine zr_getr (q := 54) (k0 := 3) (j := (t + 3)) g (hI _ (zb_sc0 k_t)) (zs_sc0 k_t) rfl zf_X3_18 dX3_handOn_51 rfl ?_
  refine zr_iload_n (q := 55) g 3 dX3_handOn_54 rfl rfl rfl ?_
  obtain ⟨c13, hM⟩ := zw_gd hM
  refine zr_iald (q := 56) g (hI _ (zb_sc3 k_t)) (zs_sc3 k_t) c13 dX3_handOn_55 rfl ?_
  refine zr_iload_n (q := 57) g 0 dX3_handOn_56 rfl rfl rfl ?_
  refine zr_isub (q := 58) g dX3_handOn_57 rfl ?_
  refine zr_mmax (q := 61) g zl_X3_115 zl_mmax ⟨Nat.le_of_ble_eq_true rfl, Nat.le_of_ble_eq_true rfl⟩ ⟨Nat.zero_le _, Nat.zero_le _⟩ (Nat.le_of_ble_eq_true rfl) dX3_handOn_58 rfl ?_
  obtain ⟨z14, q15, hM⟩ := zw_bd hM
  refine zr_callV (q := 64) (As := [.int x2, .int (x1 + (1 : Int32)), .int (if (0 : Int32) < ((h.1 (t + 3) (x2).toNatClampNeg) - s0) then ((h.1 (t + 3) (x2).toNatClampNeg) - s0) else (0 : Int32))]) (rest := []) (st' := []) (i := t) g (R_X3_give k_t ok hI q15) zv_X3_give zl_X3_121 (hI _ (zb_sc0 k_t)) (zs_sc0 k_t) zc_X3.1 dX3_handOn_61 rfl rfl ⟨Nat.le_of_ble_eq_true rfl, Nat.le_of_ble_eq_true rfl⟩ ⟨Nat.zero_le _, Nat.zero_le _⟩ (Nat.le_of_ble_eq_true rfl) rfl rfl ?_
  cases hM
  exact zr_vret g hr hlk dX3_handOn_64 rfl rfl
noncomputable def M_X3_handOn (t : Nat) (x1 : Int32) (h : zw_Hp) : Option (zw_Hp) :=
  (M_X3_leastBucketAt t x1 h).bind (fun z1 => if z1 < 0 then (some h) else ((M_X3_worksAt t x1 h).bind (fun z4 => if z4 = 0 then (some h) else ((M_X3_leastBucketAt t (x1 + (1 : Int32)) h).bind (fun z7 => if z7 < 0 then ((M_X3_kindAt t x1 h).bind (fun z10 => if z10 = (1 : Int32) then (B_X3_handOn_43 t x1 z1 (1 : Int32) h) else (B_X3_handOn_43 t x1 z1 (0 : Int32) h))) else (some h))))))
set_option maxRecDepth 100000 in
set_option maxHeartbeats 4000000 in
theorem R_X3_handOn {t : Nat} (k_t : t = 9 ∨ t = 14) (ok : zw_Ok E) (hI : ∀ i, i < 48 → i ∈ E.2.2.1) {x1 : Int32} {h : zw_Hp} {z : zw_Hp} (hM : M_X3_handOn t x1 h = some z) : zw_Ct l E mt_X3_handOn [.ref (E.2.1 t), .int x1] h none z := by
  unfold M_X3_handOn at hM
  refine zw_ct (lv0 := [(0, .ref (E.2.1 t)), (1, .int x1)]) ok (by decide) rfl (Nat.le_of_ble_eq_true rfl) (fun p e s m args below meth c g hr hlk => ?_)
  replace g : zw_G p E (zw_A E) s m args c RX3 cX3_handOn 4 := g
  show zw_V p l e s m args below meth c E mt_X3_handOn 4 none z 0 [(0, .ref (E.2.1 t)), (1, .int x1)] [] h
  refine zr_aload_n (q := 1) g 0 dX3_handOn_0 rfl rfl rfl ?_
  refine zr_iload_n (q := 2) g 1 dX3_handOn_1 rfl rfl rfl ?_
  obtain ⟨z1, q2, hM⟩ := zw_bd hM
  refine zr_callV (q := 5) (As := [.int x1]) (rest := []) (st' := [.int z1]) (i := t) g (R_X3_leastBucketAt k_t ok hI q2) zv_X3_leastBucketAt zl_X3_109 (hI _ (zb_sc0 k_t)) (zs_sc0 k_t) zc_X3.1 dX3_handOn_2 rfl rfl ⟨Nat.le_of_ble_eq_true rfl, Nat.le_of_ble_eq_true rfl⟩ ⟨Nat.zero_le _, Nat.zero_le _⟩ (Nat.le_of_ble_eq_true rfl) rfl rfl ?_
  refine zr_istore_n (q := 6) (lv' := [(2, .int z1), (0, .ref (E.2.1 t)), (1, .int x1)]) g dX3_handOn_5 rfl rfl (by decide) rfl ?_
  refine zr_iload_n (q := 7) g 0 dX3_handOn_6 rfl rfl rfl ?_
  refine zr_if_lt (q := 10) (tgt := 28) g dX3_handOn_7 rfl rfl (fun c3 => ?_) (fun c3 => ?_)
  · replace hM := zw_ift c3 hM
    cases hM
    exact zr_vret g hr hlk dX3_handOn_28 rfl rfl
  · replace hM := zw_iff c3 hM
    refine zr_aload_n (q := 11) g 1 dX3_handOn_10 rfl rfl rfl ?_
    refine zr_iload_n (q := 12) g 2 dX3_handOn_11 rfl rfl rfl ?_
    obtain ⟨z4, q5, hM⟩ := zw_bd hM
    refine zr_callV (q := 15) (As := [.int x1]) (rest := []) (st' := [.int z4]) (i := t) g (R_X3_worksAt k_t ok hI q5) zv_X3_worksAt zl_X3_112 (hI _ (zb_sc0 k_t)) (zs_sc0 k_t) zc_X3.1 dX3_handOn_12 rfl rfl ⟨Nat.le_of_ble_eq_true rfl, Nat.le_of_ble_eq_true rfl⟩ ⟨Nat.zero_le _, Nat.zero_le _⟩ (Nat.le_of_ble_eq_true rfl) rfl rfl ?_
    refine zr_if_eq (q := 18) (tgt := 28) g dX3_handOn_15 rfl rfl (fun c6 => ?_) (fun c6 => ?_)
    · replace hM := zw_ift c6 hM
      cases hM
      exact zr_vret g hr hlk dX3_handOn_28 rfl rfl
    · replace hM := zw_iff c6 hM
      refine zr_aload_n (q := 19) g 1 dX3_handOn_18 rfl rfl rfl ?_
      refine zr_iload_n (q := 20) g 2 dX3_handOn_19 rfl rfl rfl ?_
      refine zr_iconst (q := 21) (v := (1 : Int32)) g dX3_handOn_20 rfl (by decide) ?_
      refine zr_iadd (q := 22) g dX3_handOn_21 rfl ?_
      obtain ⟨z7, q8, hM⟩ := zw_bd hM
      refine zr_callV (q := 25) (As := [.int (x1 + (1 : Int32))]) (rest := []) (st' := [.int z7]) (i := t) g (R_X3_leastBucketAt k_t ok hI q8) zv_X3_leastBucketAt zl_X3_109 (hI _ (zb_sc0 k_t)) (zs_sc0 k_t) zc_X3.1 dX3_handOn_22 rfl rfl ⟨Nat.le_of_ble_eq_true rfl, Nat.le_of_ble_eq_true rfl⟩ ⟨Nat.zero_le _, Nat.zero_le _⟩ (Nat.le_of_ble_eq_true rfl) rfl rfl ?_
      refine zr_if_lt (q := 28) (tgt := 29) g dX3_handOn_25 rfl rfl (fun c9 => ?_) (fun c9 => ?_)
      · replace hM := zw_ift c9 hM
        refine zr_aload_n (q := 30) g 1 dX3_handOn_29 rfl rfl rfl ?_
        refine zr_iload_n (q := 31) g 2 dX3_handOn_30 rfl rfl rfl ?_
        obtain ⟨z10, q11, hM⟩ := zw_bd hM
        refine zr_callV (q := 34) (As := [.int x1]) (rest := []) (st' := [.int z10]) (i := t) g (R_X3_kindAt k_t ok hI q11) zv_X3_kindAt zl_X3_63 (hI _ (zb_sc0 k_t)) (zs_sc0 k_t) zc_X3.1 dX3_handOn_31 rfl rfl ⟨Nat.le_of_ble_eq_true rfl, Nat.le_of_ble_eq_true rfl⟩ ⟨Nat.zero_le _, Nat.zero_le _⟩ (Nat.le_of_ble_eq_true rfl) rfl rfl ?_
        refine zr_iconst (q := 35) (v := (1 : Int32)) g dX3_handOn_34 rfl (by decide) ?_
        refine zr_icmp_ne (q := 38) (tgt := 42) g dX3_handOn_35 rfl rfl (fun c12 => ?_) (fun c12 => ?_)
        · replace hM := zw_iff c12 hM
          refine zr_iconst (q := 43) (v := (0 : Int32)) g dX3_handOn_42 rfl (by decide) ?_
          refine zr_lv (lv' := [(0, .ref (E.2.1 t)), (1, .int x1), (2, .int z1)]) [1, 2, 0] rfl ?_
          exact U_X3_handOn_43 k_t ok hI g hr hlk _ _ _ _ _ hM
        · replace hM := zw_ift c12 hM
          refine zr_iconst (q := 39) (v := (1 : Int32)) g dX3_handOn_38 rfl (by decide) ?_
          refine zr_goto (tgt := 43) g dX3_handOn_39 rfl ?_
          refine zr_lv (lv' := [(0, .ref (E.2.1 t)), (1, .int x1), (2, .int z1)]) [1, 2, 0] rfl ?_
          exact U_X3_handOn_43 k_t ok hI g hr hlk _ _ _ _ _ hM
      · replace hM := zw_iff c9 hM
        cases hM
        exact zr_vret g hr hlk dX3_handOn_28 rfl rfl
noncomputable def M_X3_fillAtWell (t : Nat) (h : zw_Hp) : Option (zw_Hp) :=
  if (h.1 6 2) = 0 then (some h) else ((M_X3_leastBucketAt t (0 : Int32) h).bind (fun z2 => if z2 < 0 then ((M_X3_leastBucketAt t (8 : Int32) h).bind (fun z5 => if z5 < 0 then (some h) else (if zw_ok z5 4 = true then ((M_X3_give t z5 (0 : Int32) (h.1 8 (z5).toNatClampNeg) h).bind (fun z9 => some z9)) else none))) else (some h)))
set_option maxRecDepth 100000 in
set_option maxHeartbeats 4000000 in
theorem R_X3_fillAtWell {t : Nat} (k_t : t = 9 ∨ t = 14) (ok : zw_Ok E) (hI : ∀ i, i < 48 → i ∈ E.2.2.1) {h : zw_Hp} {z : zw_Hp} (hM : M_X3_fillAtWell t h = some z) : zw_Ct l E mt_X3_fillAtWell [.ref (E.2.1 t)] h none z := by
  unfold M_X3_fillAtWell at hM
  refine zw_ct (lv0 := [(0, .ref (E.2.1 t))]) ok (by decide) rfl (Nat.le_of_ble_eq_true rfl) (fun p e s m args below meth c g hr hlk => ?_)
  replace g : zw_G p E (zw_A E) s m args c RX3 cX3_fillAtWell 2 := g
  show zw_V p l e s m args below meth c E mt_X3_fillAtWell 2 none z 0 [(0, .ref (E.2.1 t))] [] h
  refine zr_aload_n (q := 1) g 0 dX3_fillAtWell_0 rfl rfl rfl ?_
  refine zr_getr (q := 4) (k0 := 0) (j := 6) g (hI _ (zb_sc0 k_t)) (zs_sc0 k_t) rfl zf_X3_24 dX3_fillAtWell_1 rfl ?_
  refine zr_geti (q := 7) (k0 := 2) g (hI 6 (by decide)) zs_6 rfl zf_X3_85 dX3_fillAtWell_4 rfl ?_
  refine zr_if_eq (q := 10) (tgt := 18) g dX3_fillAtWell_7 rfl rfl (fun c1 => ?_) (fun c1 => ?_)
  · replace hM := zw_ift c1 hM
    cases hM
    exact zr_vret g hr hlk dX3_fillAtWell_18 rfl rfl
  · replace hM := zw_iff c1 hM
    refine zr_aload_n (q := 11) g 0 dX3_fillAtWell_10 rfl rfl rfl ?_
    refine zr_iconst (q := 12) (v := (0 : Int32)) g dX3_fillAtWell_11 rfl (by decide) ?_
    obtain ⟨z2, q3, hM⟩ := zw_bd hM
    refine zr_callV (q := 15) (As := [.int (0 : Int32)]) (rest := []) (st' := [.int z2]) (i := t) g (R_X3_leastBucketAt k_t ok hI q3) zv_X3_leastBucketAt zl_X3_109 (hI _ (zb_sc0 k_t)) (zs_sc0 k_t) zc_X3.1 dX3_fillAtWell_12 rfl rfl ⟨Nat.le_of_ble_eq_true rfl, Nat.le_of_ble_eq_true rfl⟩ ⟨Nat.zero_le _, Nat.zero_le _⟩ (Nat.le_of_ble_eq_true rfl) rfl rfl ?_
    refine zr_if_lt (q := 18) (tgt := 19) g dX3_fillAtWell_15 rfl rfl (fun c4 => ?_) (fun c4 => ?_)
    · replace hM := zw_ift c4 hM
      refine zr_aload_n (q := 20) g 0 dX3_fillAtWell_19 rfl rfl rfl ?_
      refine zr_bipush (q := 22) (v := (8 : Int32)) g dX3_fillAtWell_20 rfl (by decide) ?_
      obtain ⟨z5, q6, hM⟩ := zw_bd hM
      refine zr_callV (q := 25) (As := [.int (8 : Int32)]) (rest := []) (st' := [.int z5]) (i := t) g (R_X3_leastBucketAt k_t ok hI q6) zv_X3_leastBucketAt zl_X3_109 (hI _ (zb_sc0 k_t)) (zs_sc0 k_t) zc_X3.1 dX3_fillAtWell_22 rfl rfl ⟨Nat.le_of_ble_eq_true rfl, Nat.le_of_ble_eq_true rfl⟩ ⟨Nat.zero_le _, Nat.zero_le _⟩ (Nat.le_of_ble_eq_true rfl) rfl rfl ?_
      refine zr_istore_n (q := 26) (lv' := [(1, .int z5), (0, .ref (E.2.1 t))]) g dX3_fillAtWell_25 rfl rfl (by decide) rfl ?_
      refine zr_iload_n (q := 27) g 0 dX3_fillAtWell_26 rfl rfl rfl ?_
      refine zr_if_lt (q := 30) (tgt := 45) g dX3_fillAtWell_27 rfl rfl (fun c7 => ?_) (fun c7 => ?_)
      · replace hM := zw_ift c7 hM
        cases hM
        exact zr_vret g hr hlk dX3_fillAtWell_45 rfl rfl
      · replace hM := zw_iff c7 hM
        refine zr_aload_n (q := 31) g 1 dX3_fillAtWell_30 rfl rfl rfl ?_
        refine zr_iload_n (q := 32) g 0 dX3_fillAtWell_31 rfl rfl rfl ?_
        refine zr_iconst (q := 33) (v := (0 : Int32)) g dX3_fillAtWell_32 rfl (by decide) ?_
        refine zr_aload_n (q := 34) g 1 dX3_fillAtWell_33 rfl rfl rfl ?_
        refine zr_getr (q := 37) (k0 := 0) (j := 6) g (hI _ (zb_sc0 k_t)) (zs_sc0 k_t) rfl zf_X3_24 dX3_fillAtWell_34 rfl ?_
        refine zr_getr (q := 40) (k0 := 1) (j := 8) g (hI 6 (by decide)) zs_6 rfl zf_X3_125 dX3_fillAtWell_37 rfl ?_
        refine zr_iload_n (q := 41) g 0 dX3_fillAtWell_40 rfl rfl rfl ?_
        obtain ⟨c8, hM⟩ := zw_gd hM
        refine zr_iald (q := 42) g (hI 8 (by decide)) zs_8 c8 dX3_fillAtWell_41 rfl ?_
        obtain ⟨z9, q10, hM⟩ := zw_bd hM
        refine zr_callV (q := 45) (As := [.int z5, .int (0 : Int32), .int (h.1 8 (z5).toNatClampNeg)]) (rest := []) (st' := []) (i := t) g (R_X3_give k_t ok hI q10) zv_X3_give zl_X3_121 (hI _ (zb_sc0 k_t)) (zs_sc0 k_t) zc_X3.1 dX3_fillAtWell_42 rfl rfl ⟨Nat.le_of_ble_eq_true rfl, Nat.le_of_ble_eq_true rfl⟩ ⟨Nat.zero_le _, Nat.zero_le _⟩ (Nat.le_of_ble_eq_true rfl) rfl rfl ?_
        cases hM
        exact zr_vret g hr hlk dX3_fillAtWell_45 rfl rfl
    · replace hM := zw_iff c4 hM
      cases hM
      exact zr_vret g hr hlk dX3_fillAtWell_18 rfl rfl
noncomputable def B_X3_leak_45 (t : Nat) (k2 : (Int32 × zw_Hp) → Option (zw_Hp)) (x1 : Int32) (h : zw_Hp) : Option (zw_Hp) :=
  zw_nm (x1 + (1 : Int32)) (fun y12 => k2 (y12, h))
set_option maxRecDepth 100000 in
set_option maxHeartbeats 4000000 in
theorem U_X3_leak_45 {t : Nat} (k_t : t = 9 ∨ t = 14) (ok : zw_Ok E) (hI : ∀ i, i < 48 → i ∈ E.2.2.1) (g : zw_G p E (zw_A E) s m args c RX3 cX3_leak 2) (hr : meth.sig.returnType = none) (hlk : meth.locks = false) {k2 : (Int32 × zw_Hp) → Option (zw_Hp)} (eL2 : ∀ (w : Int32 × zw_Hp) (z : zw_Hp), k2 w = some z → zw_V p l e s m args below meth c E mt_X3_leak 2 none z 2 [(0, .ref (E.2.1 t)), (1, .int w.1)] [] w.2) :
    ∀ (x1 : Int32) (h : zw_Hp) (z : zw_Hp), B_X3_leak_45 t k2 x1 h = some z → zw_V p l e s m args below meth c E mt_X3_leak 2 none z 45 [(0, .ref (E.2.1 t)), (1, .int x1)] [] h := by
  intro x1 h z hM
  unfold B_X3_leak_45 at hM
  obtain ⟨y12, e13, hM⟩ := zw_nm_ex hM
  refine zr_iinc (q := 48) (v := y12) (lv' := [(1, .int y12), (0, .ref (E.2.1 t))]) g 1 dX3_leak_45 rfl rfl (by rw [e13]; rfl) (by decide) rfl ?_
  refine zr_goto (tgt := 2) g dX3_leak_48 rfl ?_
  refine zr_lv (lv' := [(0, .ref (E.2.1 t)), (1, .int y12)]) [1, 0] rfl ?_
  exact eL2 _ _ hM
noncomputable def B_X3_leak_2 (t : Nat) (k2 : (Int32 × zw_Hp) → Option (zw_Hp)) (x1 : Int32) (h : zw_Hp) : Option (zw_Hp) :=
  if (4 : Int32) ≤ x1 then (some h) else ((M_X3_isHeld t x1 h).bind (fun z2 => if z2 = 0 then (B_X3_leak_45 t k2 x1 h) else ((M_X3_hasHole t x1 h).bind (fun z5 => if z5 = 0 then (B_X3_leak_45 t k2 x1 h) else (if zw_ok x1 4 = true then (if zw_ok x1 4 = true then zw_nm (zw_up h (t + 3) (x1).toNatClampNeg (if (0 : Int32) < ((h.1 (t + 3) (x1).toNatClampNeg) - (1 : Int32)) then ((h.1 (t + 3) (x1).toNatClampNeg) - (1 : Int32)) else (0 : Int32))) (fun h10 => B_X3_leak_45 t k2 x1 h10) else none) else none)))))
set_option maxRecDepth 100000 in
set_option maxHeartbeats 4000000 in
theorem U_X3_leak_2 {t : Nat} (k_t : t = 9 ∨ t = 14) (ok : zw_Ok E) (hI : ∀ i, i < 48 → i ∈ E.2.2.1) (g : zw_G p E (zw_A E) s m args c RX3 cX3_leak 2) (hr : meth.sig.returnType = none) (hlk : meth.locks = false) {k2 : (Int32 × zw_Hp) → Option (zw_Hp)} (eL2 : ∀ (w : Int32 × zw_Hp) (z : zw_Hp), k2 w = some z → zw_V p l e s m args below meth c E mt_X3_leak 2 none z 2 [(0, .ref (E.2.1 t)), (1, .int w.1)] [] w.2) :
    ∀ (x1 : Int32) (h : zw_Hp) (z : zw_Hp), B_X3_leak_2 t k2 x1 h = some z → zw_V p l e s m args below meth c E mt_X3_leak 2 none z 2 [(0, .ref (E.2.1 t)), (1, .int x1)] [] h := by
  intro x1 h z hM
  unfold B_X3_leak_2 at hM
  refine zr_iload_n (q := 3) g 1 dX3_leak_2 rfl rfl rfl ?_
  refine zr_aload_n (q := 4) g 0 dX3_leak_3 rfl rfl rfl ?_
  refine zr_getr (q := 7) (k0 := 3) (j := (t + 3)) g (hI _ (zb_sc0 k_t)) (zs_sc0 k_t) rfl zf_X3_18 dX3_leak_4 rfl ?_
  refine zr_alen (q := 8) (v := (4 : Int32)) g (hI _ (zb_sc3 k_t)) (zs_sc3 k_t) rfl dX3_leak_7 rfl ?_
  refine zr_icmp_ge (q := 11) (tgt := 51) g dX3_leak_8 rfl rfl (fun c1 => ?_) (fun c1 => ?_)
  · replace hM := zw_ift c1 hM
    cases hM
    exact zr_vret g hr hlk dX3_leak_51 rfl rfl
  · replace hM := zw_iff c1 hM
    refine zr_aload_n (q := 12) g 0 dX3_leak_11 rfl rfl rfl ?_
    refine zr_iload_n (q := 13) g 1 dX3_leak_12 rfl rfl rfl ?_
    obtain ⟨z2, q3, hM⟩ := zw_bd hM
    refine zr_callV (q := 16) (As := [.int x1]) (rest := []) (st' := [.int z2]) (i := t) g (R_X3_isHeld k_t ok hI q3) zv_X3_isHeld zl_X3_70 (hI _ (zb_sc0 k_t)) (zs_sc0 k_t) zc_X3.1 dX3_leak_13 rfl rfl ⟨Nat.le_of_ble_eq_true rfl, Nat.le_of_ble_eq_true rfl⟩ ⟨Nat.zero_le _, Nat.zero_le _⟩ (Nat.le_of_ble_eq_true rfl) rfl rfl ?_
    refine zr_if_eq (q := 19) (tgt := 45) g dX3_leak_16 rfl rfl (fun c4 => ?_) (fun c4 => ?_)
    · replace hM := zw_ift c4 hM
      exact U_X3_leak_45 k_t ok hI g hr hlk eL2 _ _ _ hM
    · replace hM := zw_iff c4 hM
      refine zr_aload_n (q := 20) g 0 dX3_leak_19 rfl rfl rfl ?_
      refine zr_iload_n (q := 21) g 1 dX3_leak_20 rfl rfl rfl ?_
      obtain ⟨z5, q6, hM⟩ := zw_bd hM
      refine zr_callV (q := 24) (As := [.int x1]) (rest := []) (st' := [.int z5]) (i := t) g (R_X3_hasHole k_t ok hI q6) zv_X3_hasHole zl_X3_128 (hI _ (zb_sc0 k_t)) (zs_sc0 k_t) zc_X3.1 dX3_leak_21 rfl rfl ⟨Nat.le_of_ble_eq_true rfl, Nat.le_of_ble_eq_true rfl⟩ ⟨Nat.zero_le _, Nat.zero_le _⟩ (Nat.le_of_ble_eq_true rfl) rfl rfl ?_
      refine zr_if_eq (q := 27) (tgt := 45) g dX3_leak_24 rfl rfl (fun c7 => ?_) (fun c7 => ?_)
      · replace hM := zw_ift c7 hM
        exact U_X3_leak_45 k_t ok hI g hr hlk eL2 _ _ _ hM
      · replace hM := zw_iff c7 hM
        refine zr_aload_n (q := 28) g 0 dX3_leak_27 rfl rfl rfl ?_
        refine zr_getr (q := 31) (k0 := 3) (j := (t + 3)) g (hI _ (zb_sc0 k_t)) (zs_sc0 k_t) rfl zf_X3_18 dX3_leak_28 rfl ?_
        refine zr_iload_n (q := 32) g 1 dX3_leak_31 rfl rfl rfl ?_
        refine zr_iconst (q := 33) (v := (0 : Int32)) g dX3_leak_32 rfl (by decide) ?_
        refine zr_aload_n (q := 34) g 0 dX3_leak_33 rfl rfl rfl ?_
        refine zr_getr (q := 37) (k0 := 3) (j := (t + 3)) g (hI _ (zb_sc0 k_t)) (zs_sc0 k_t) rfl zf_X3_18 dX3_leak_34 rfl ?_
        refine zr_iload_n (q := 38) g 1 dX3_leak_37 rfl rfl rfl ?_
        obtain ⟨c8, hM⟩ := zw_gd hM
        refine zr_iald (q := 39) g (hI _ (zb_sc3 k_t)) (zs_sc3 k_t) c8 dX3_leak_38 rfl ?_
        refine zr_iconst (q := 40) (v := (1 : Int32)) g dX3_leak_39 rfl (by decide) ?_
        refine zr_isub (q := 41) g dX3_leak_40 rfl ?_
        refine zr_mmax (q := 44) g zl_X3_115 zl_mmax ⟨Nat.le_of_ble_eq_true rfl, Nat.le_of_ble_eq_true rfl⟩ ⟨Nat.zero_le _, Nat.zero_le _⟩ (Nat.le_of_ble_eq_true rfl) dX3_leak_41 rfl ?_
        obtain ⟨c9, hM⟩ := zw_gd hM
        obtain ⟨h10, e11, hM⟩ := zw_nm_ex hM
        refine zr_iast (q := 45) (h' := h10) g (hI _ (zb_sc3 k_t)) (zs_sc3 k_t) c9 dX3_leak_44 rfl e11 ?_
        exact U_X3_leak_45 k_t ok hI g hr hlk eL2 _ _ _ hM
noncomputable def L_X3_leak_2 (t : Nat) (w : Int32 × zw_Hp) : Option (zw_Hp) :=
  zw_it (fun (k2 : (Int32 × zw_Hp) → Option (zw_Hp)) (w : Int32 × zw_Hp) => B_X3_leak_2 t k2 (w.1) (w.2)) 600 w
theorem UL_X3_leak_2 {t : Nat} (k_t : t = 9 ∨ t = 14) (ok : zw_Ok E) (hI : ∀ i, i < 48 → i ∈ E.2.2.1) (g : zw_G p E (zw_A E) s m args c RX3 cX3_leak 2) (hr : meth.sig.returnType = none) (hlk : meth.locks = false) :
    ∀ (w : Int32 × zw_Hp) (z : zw_Hp), L_X3_leak_2 t w = some z → zw_V p l e s m args below meth c E mt_X3_leak 2 none z 2 [(0, .ref (E.2.1 t)), (1, .int w.1)] [] w.2 :=
  fun w z hM => zw_it_ind (P := fun (w : Int32 × zw_Hp) (z : zw_Hp) => zw_V p l e s m args below meth c E mt_X3_leak 2 none z 2 [(0, .ref (E.2.1 t)), (1, .int w.1)] [] w.2) (fun k e w z hM => U_X3_leak_2 k_t ok hI g hr hlk e _ _ _ hM) 600 w z hM
noncomputable def M_X3_leak (t : Nat) (h : zw_Hp) : Option (zw_Hp) :=
  L_X3_leak_2 t ((0 : Int32), h)
set_option maxRecDepth 100000 in
set_option maxHeartbeats 4000000 in
theorem R_X3_leak {t : Nat} (k_t : t = 9 ∨ t = 14) (ok : zw_Ok E) (hI : ∀ i, i < 48 → i ∈ E.2.2.1) {h : zw_Hp} {z : zw_Hp} (hM : M_X3_leak t h = some z) : zw_Ct l E mt_X3_leak [.ref (E.2.1 t)] h none z := by
  unfold M_X3_leak at hM
  refine zw_ct (lv0 := [(0, .ref (E.2.1 t))]) ok (by decide) rfl (Nat.le_of_ble_eq_true rfl) (fun p e s m args below meth c g hr hlk => ?_)
  replace g : zw_G p E (zw_A E) s m args c RX3 cX3_leak 2 := g
  show zw_V p l e s m args below meth c E mt_X3_leak 2 none z 0 [(0, .ref (E.2.1 t))] [] h
  refine zr_iconst (q := 1) (v := (0 : Int32)) g dX3_leak_0 rfl (by decide) ?_
  refine zr_istore_n (q := 2) (lv' := [(1, .int (0 : Int32)), (0, .ref (E.2.1 t))]) g dX3_leak_1 rfl rfl (by decide) rfl ?_
  refine zr_lv (lv' := [(0, .ref (E.2.1 t)), (1, .int (0 : Int32))]) [1, 0] rfl ?_
  exact UL_X3_leak_2 k_t ok hI g hr hlk _ _ hM
noncomputable def B_X3_runBack_63 (t : Nat) (k2 : (Int32 × Int32 × zw_Hp) → Option (zw_Hp)) (x1 : Int32) (x2 : Int32) (h : zw_Hp) : Option (zw_Hp) :=
  zw_nm (x2 + (1 : Int32)) (fun y14 => k2 (x1, y14, h))
set_option maxRecDepth 100000 in
set_option maxHeartbeats 4000000 in
theorem U_X3_runBack_63 {t : Nat} (k_t : t = 9 ∨ t = 14) (ok : zw_Ok E) (hI : ∀ i, i < 48 → i ∈ E.2.2.1) (g : zw_G p E (zw_A E) s m args c RX3 cX3_runBack 3) (hr : meth.sig.returnType = none) (hlk : meth.locks = false) {k2 : (Int32 × Int32 × zw_Hp) → Option (zw_Hp)} (eL2 : ∀ (w : Int32 × Int32 × zw_Hp) (z : zw_Hp), k2 w = some z → zw_V p l e s m args below meth c E mt_X3_runBack 3 none z 2 [(0, .ref (E.2.1 t)), (1, .int w.1), (2, .int w.2.1)] [] w.2.2) :
    ∀ (x1 : Int32) (x2 : Int32) (h : zw_Hp) (z : zw_Hp), B_X3_runBack_63 t k2 x1 x2 h = some z → zw_V p l e s m args below meth c E mt_X3_runBack 3 none z 63 [(0, .ref (E.2.1 t)), (1, .int x1), (2, .int x2)] [] h := by
  intro x1 x2 h z hM
  unfold B_X3_runBack_63 at hM
  obtain ⟨y14, e15, hM⟩ := zw_nm_ex hM
  refine zr_iinc (q := 66) (v := y14) (lv' := [(2, .int y14), (0, .ref (E.2.1 t)), (1, .int x1)]) g 2 dX3_runBack_63 rfl rfl (by rw [e15]; rfl) (by decide) rfl ?_
  refine zr_goto (tgt := 2) g dX3_runBack_66 rfl ?_
  refine zr_lv (lv' := [(0, .ref (E.2.1 t)), (1, .int x1), (2, .int y14)]) [1, 2, 0] rfl ?_
  exact eL2 _ _ hM
noncomputable def B_X3_runBack_62 (t : Nat) (k2 : (Int32 × Int32 × zw_Hp) → Option (zw_Hp)) (x1 : Int32) (x2 : Int32) (s0 : Int32) (s1 : Int32) (h : zw_Hp) : Option (zw_Hp) :=
  if zw_ok s1 4 = true then zw_nm (zw_up h (t + 2) (s1).toNatClampNeg s0) (fun h12 => B_X3_runBack_63 t k2 x1 x2 h12) else none
set_option maxRecDepth 100000 in
set_option maxHeartbeats 4000000 in
theorem U_X3_runBack_62 {t : Nat} (k_t : t = 9 ∨ t = 14) (ok : zw_Ok E) (hI : ∀ i, i < 48 → i ∈ E.2.2.1) (g : zw_G p E (zw_A E) s m args c RX3 cX3_runBack 3) (hr : meth.sig.returnType = none) (hlk : meth.locks = false) {k2 : (Int32 × Int32 × zw_Hp) → Option (zw_Hp)} (eL2 : ∀ (w : Int32 × Int32 × zw_Hp) (z : zw_Hp), k2 w = some z → zw_V p l e s m args below meth c E mt_X3_runBack 3 none z 2 [(0, .ref (E.2.1 t)), (1, .int w.1), (2, .int w.2.1)] [] w.2.2) :
    ∀ (x1 : Int32) (x2 : Int32) (s0 : Int32) (s1 : Int32) (h : zw_Hp) (z : zw_Hp), B_X3_runBack_62 t k2 x1 x2 s0 s1 h = some z → zw_V p l e s m args below meth c E mt_X3_runBack 3 none z 62 [(0, .ref (E.2.1 t)), (1, .int x1), (2, .int x2)] [.int s0, .int s1, .ref (E.2.1 (t + 2))] h := by
  intro x1 x2 s0 s1 h z hM
  unfold B_X3_runBack_62 at hM
  obtain ⟨c11, hM⟩ := zw_gd hM
  obtain ⟨h12, e13, hM⟩ := zw_nm_ex hM
  refine zr_iast (q := 63) (h' := h12) g (hI _ (zb_sc2 k_t)) (zs_sc2 k_t) c11 dX3_runBack_62 rfl e13 ?_
  exact U_X3_runBack_63 k_t ok hI g hr hlk eL2 _ _ _ _ hM
noncomputable def B_X3_runBack_39 (t : Nat) (k2 : (Int32 × Int32 × zw_Hp) → Option (zw_Hp)) (x1 : Int32) (x2 : Int32) (s0 : Int32) (s1 : Int32) (s2 : Int32) (h : zw_Hp) : Option (zw_Hp) :=
  if zw_ok s2 4 = true then zw_nm (zw_up h (t + 4) (s2).toNatClampNeg (s1 - s0)) (fun h7 => if zw_ok x2 4 = true then (if (h7.1 (t + 4) (x2).toNatClampNeg) = 0 then (B_X3_runBack_62 t k2 x1 x2 (8 : Int32) x2 h7) else (B_X3_runBack_62 t k2 x1 x2 (9 : Int32) x2 h7)) else none) else none
set_option maxRecDepth 100000 in
set_option maxHeartbeats 4000000 in
theorem U_X3_runBack_39 {t : Nat} (k_t : t = 9 ∨ t = 14) (ok : zw_Ok E) (hI : ∀ i, i < 48 → i ∈ E.2.2.1) (g : zw_G p E (zw_A E) s m args c RX3 cX3_runBack 3) (hr : meth.sig.returnType = none) (hlk : meth.locks = false) {k2 : (Int32 × Int32 × zw_Hp) → Option (zw_Hp)} (eL2 : ∀ (w : Int32 × Int32 × zw_Hp) (z : zw_Hp), k2 w = some z → zw_V p l e s m args below meth c E mt_X3_runBack 3 none z 2 [(0, .ref (E.2.1 t)), (1, .int w.1), (2, .int w.2.1)] [] w.2.2) :
    ∀ (x1 : Int32) (x2 : Int32) (s0 : Int32) (s1 : Int32) (s2 : Int32) (h : zw_Hp) (z : zw_Hp), B_X3_runBack_39 t k2 x1 x2 s0 s1 s2 h = some z → zw_V p l e s m args below meth c E mt_X3_runBack 3 none z 39 [(0, .ref (E.2.1 t)), (1, .int x1), (2, .int x2)] [.int s0, .int s1, .int s2, .ref (E.2.1 (t + 4))] h := by
  intro x1 x2 s0 s1 s2 h z hM
  unfold B_X3_runBack_39 at hM
  refine zr_isub (q := 40) g dX3_runBack_39 rfl ?_
  obtain ⟨c6, hM⟩ := zw_gd hM
  obtain ⟨h7, e8, hM⟩ := zw_nm_ex hM
  refine zr_iast (q := 41) (h' := h7) g (hI _ (zb_sc4 k_t)) (zs_sc4 k_t) c6 dX3_runBack_40 rfl e8 ?_
  refine zr_aload_n (q := 42) g 0 dX3_runBack_41 rfl rfl rfl ?_
  refine zr_getr (q := 45) (k0 := 2) (j := (t + 2)) g (hI _ (zb_sc0 k_t)) (zs_sc0 k_t) rfl zf_X3_15 dX3_runBack_42 rfl ?_
  refine zr_iload_n (q := 46) g 2 dX3_runBack_45 rfl rfl rfl ?_
  refine zr_aload_n (q := 47) g 0 dX3_runBack_46 rfl rfl rfl ?_
  refine zr_getr (q := 50) (k0 := 4) (j := (t + 4)) g (hI _ (zb_sc0 k_t)) (zs_sc0 k_t) rfl zf_X3_21 dX3_runBack_47 rfl ?_
  refine zr_iload_n (q := 51) g 2 dX3_runBack_50 rfl rfl rfl ?_
  obtain ⟨c9, hM⟩ := zw_gd hM
  refine zr_iald (q := 52) g (hI _ (zb_sc4 k_t)) (zs_sc4 k_t) c9 dX3_runBack_51 rfl ?_
  refine zr_if_ne (q := 55) (tgt := 60) g dX3_runBack_52 rfl rfl (fun c10 => ?_) (fun c10 => ?_)
  · replace hM := zw_iff c10 hM
    refine zr_bipush (q := 62) (v := (9 : Int32)) g dX3_runBack_60 rfl (by decide) ?_
    exact U_X3_runBack_62 k_t ok hI g hr hlk eL2 _ _ _ _ _ _ hM
  · replace hM := zw_ift c10 hM
    refine zr_bipush (q := 57) (v := (8 : Int32)) g dX3_runBack_55 rfl (by decide) ?_
    refine zr_goto (tgt := 62) g dX3_runBack_57 rfl ?_
    exact U_X3_runBack_62 k_t ok hI g hr hlk eL2 _ _ _ _ _ _ hM
noncomputable def B_X3_runBack_2 (t : Nat) (k2 : (Int32 × Int32 × zw_Hp) → Option (zw_Hp)) (x1 : Int32) (x2 : Int32) (h : zw_Hp) : Option (zw_Hp) :=
  if (4 : Int32) ≤ x2 then (some h) else (if zw_ok x2 4 = true then (if (h.1 (t + 2) (x2).toNatClampNeg) = (9 : Int32) then (if zw_ok x2 4 = true then (if x2 = x1 then (B_X3_runBack_39 t k2 x1 x2 (0 : Int32) (h.1 (t + 4) (x2).toNatClampNeg) x2 h) else (B_X3_runBack_39 t k2 x1 x2 (1 : Int32) (h.1 (t + 4) (x2).toNatClampNeg) x2 h)) else none) else (B_X3_runBack_63 t k2 x1 x2 h)) else none)
set_option maxRecDepth 100000 in
set_option maxHeartbeats 4000000 in
theorem U_X3_runBack_2 {t : Nat} (k_t : t = 9 ∨ t = 14) (ok : zw_Ok E) (hI : ∀ i, i < 48 → i ∈ E.2.2.1) (g : zw_G p E (zw_A E) s m args c RX3 cX3_runBack 3) (hr : meth.sig.returnType = none) (hlk : meth.locks = false) {k2 : (Int32 × Int32 × zw_Hp) → Option (zw_Hp)} (eL2 : ∀ (w : Int32 × Int32 × zw_Hp) (z : zw_Hp), k2 w = some z → zw_V p l e s m args below meth c E mt_X3_runBack 3 none z 2 [(0, .ref (E.2.1 t)), (1, .int w.1), (2, .int w.2.1)] [] w.2.2) :
    ∀ (x1 : Int32) (x2 : Int32) (h : zw_Hp) (z : zw_Hp), B_X3_runBack_2 t k2 x1 x2 h = some z → zw_V p l e s m args below meth c E mt_X3_runBack 3 none z 2 [(0, .ref (E.2.1 t)), (1, .int x1), (2, .int x2)] [] h := by
  intro x1 x2 h z hM
  unfold B_X3_runBack_2 at hM
  refine zr_iload_n (q := 3) g 2 dX3_runBack_2 rfl rfl rfl ?_
  refine zr_aload_n (q := 4) g 0 dX3_runBack_3 rfl rfl rfl ?_
  refine zr_getr (q := 7) (k0 := 2) (j := (t + 2)) g (hI _ (zb_sc0 k_t)) (zs_sc0 k_t) rfl zf_X3_15 dX3_runBack_4 rfl ?_
  refine zr_alen (q := 8) (v := (4 : Int32)) g (hI _ (zb_sc2 k_t)) (zs_sc2 k_t) rfl dX3_runBack_7 rfl ?_
  refine zr_icmp_ge (q := 11) (tgt := 69) g dX3_runBack_8 rfl rfl (fun c1 => ?_) (fun c1 => ?_)
  · replace hM := zw_ift c1 hM
    cases hM
    exact zr_vret g hr hlk dX3_runBack_69 rfl rfl
  · replace hM := zw_iff c1 hM
    refine zr_aload_n (q := 12) g 0 dX3_runBack_11 rfl rfl rfl ?_
    refine zr_getr (q := 15) (k0 := 2) (j := (t + 2)) g (hI _ (zb_sc0 k_t)) (zs_sc0 k_t) rfl zf_X3_15 dX3_runBack_12 rfl ?_
    refine zr_iload_n (q := 16) g 2 dX3_runBack_15 rfl rfl rfl ?_
    obtain ⟨c2, hM⟩ := zw_gd hM
    refine zr_iald (q := 17) g (hI _ (zb_sc2 k_t)) (zs_sc2 k_t) c2 dX3_runBack_16 rfl ?_
    refine zr_bipush (q := 19) (v := (9 : Int32)) g dX3_runBack_17 rfl (by decide) ?_
    refine zr_icmp_ne (q := 22) (tgt := 63) g dX3_runBack_19 rfl rfl (fun c3 => ?_) (fun c3 => ?_)
    · replace hM := zw_iff c3 hM
      exact U_X3_runBack_63 k_t ok hI g hr hlk eL2 _ _ _ _ hM
    · replace hM := zw_ift c3 hM
      refine zr_aload_n (q := 23) g 0 dX3_runBack_22 rfl rfl rfl ?_
      refine zr_getr (q := 26) (k0 := 4) (j := (t + 4)) g (hI _ (zb_sc0 k_t)) (zs_sc0 k_t) rfl zf_X3_21 dX3_runBack_23 rfl ?_
      refine zr_iload_n (q := 27) g 2 dX3_runBack_26 rfl rfl rfl ?_
      refine zr_dup2 (q := 28) g dX3_runBack_27 rfl rfl rfl ?_
      obtain ⟨c4, hM⟩ := zw_gd hM
      refine zr_iald (q := 29) g (hI _ (zb_sc4 k_t)) (zs_sc4 k_t) c4 dX3_runBack_28 rfl ?_
      refine zr_iload_n (q := 30) g 2 dX3_runBack_29 rfl rfl rfl ?_
      refine zr_iload_n (q := 31) g 1 dX3_runBack_30 rfl rfl rfl ?_
      refine zr_icmp_ne (q := 34) (tgt := 38) g dX3_runBack_31 rfl rfl (fun c5 => ?_) (fun c5 => ?_)
      · replace hM := zw_iff c5 hM
        refine zr_iconst (q := 39) (v := (1 : Int32)) g dX3_runBack_38 rfl (by decide) ?_
        exact U_X3_runBack_39 k_t ok hI g hr hlk eL2 _ _ _ _ _ _ _ hM
      · replace hM := zw_ift c5 hM
        refine zr_iconst (q := 35) (v := (0 : Int32)) g dX3_runBack_34 rfl (by decide) ?_
        refine zr_goto (tgt := 39) g dX3_runBack_35 rfl ?_
        exact U_X3_runBack_39 k_t ok hI g hr hlk eL2 _ _ _ _ _ _ _ hM
noncomputable def L_X3_runBack_2 (t : Nat) (w : Int32 × Int32 × zw_Hp) : Option (zw_Hp) :=
  zw_it (fun (k2 : (Int32 × Int32 × zw_Hp) → Option (zw_Hp)) (w : Int32 × Int32 × zw_Hp) => B_X3_runBack_2 t k2 (w.1) (w.2.1) (w.2.2)) 600 w
theorem UL_X3_runBack_2 {t : Nat} (k_t : t = 9 ∨ t = 14) (ok : zw_Ok E) (hI : ∀ i, i < 48 → i ∈ E.2.2.1) (g : zw_G p E (zw_A E) s m args c RX3 cX3_runBack 3) (hr : meth.sig.returnType = none) (hlk : meth.locks = false) :
    ∀ (w : Int32 × Int32 × zw_Hp) (z : zw_Hp), L_X3_runBack_2 t w = some z → zw_V p l e s m args below meth c E mt_X3_runBack 3 none z 2 [(0, .ref (E.2.1 t)), (1, .int w.1), (2, .int w.2.1)] [] w.2.2 :=
  fun w z hM => zw_it_ind (P := fun (w : Int32 × Int32 × zw_Hp) (z : zw_Hp) => zw_V p l e s m args below meth c E mt_X3_runBack 3 none z 2 [(0, .ref (E.2.1 t)), (1, .int w.1), (2, .int w.2.1)] [] w.2.2) (fun k e w z hM => U_X3_runBack_2 k_t ok hI g hr hlk e _ _ _ _ hM) 600 w z hM
noncomputable def M_X3_runBack (t : Nat) (x1 : Int32) (h : zw_Hp) : Option (zw_Hp) :=
  L_X3_runBack_2 t (x1, (0 : Int32), h)
set_option maxRecDepth 100000 in
set_option maxHeartbeats 4000000 in
theorem R_X3_runBack {t : Nat} (k_t : t = 9 ∨ t = 14) (ok : zw_Ok E) (hI : ∀ i, i < 48 → i ∈ E.2.2.1) {x1 : Int32} {h : zw_Hp} {z : zw_Hp} (hM : M_X3_runBack t x1 h = some z) : zw_Ct l E mt_X3_runBack [.ref (E.2.1 t), .int x1] h none z := by
  unfold M_X3_runBack at hM
  refine zw_ct (lv0 := [(0, .ref (E.2.1 t)), (1, .int x1)]) ok (by decide) rfl (Nat.le_of_ble_eq_true rfl) (fun p e s m args below meth c g hr hlk => ?_)
  replace g : zw_G p E (zw_A E) s m args c RX3 cX3_runBack 3 := g
  show zw_V p l e s m args below meth c E mt_X3_runBack 3 none z 0 [(0, .ref (E.2.1 t)), (1, .int x1)] [] h
  refine zr_iconst (q := 1) (v := (0 : Int32)) g dX3_runBack_0 rfl (by decide) ?_
  refine zr_istore_n (q := 2) (lv' := [(2, .int (0 : Int32)), (0, .ref (E.2.1 t)), (1, .int x1)]) g dX3_runBack_1 rfl rfl (by decide) rfl ?_
  refine zr_lv (lv' := [(0, .ref (E.2.1 t)), (1, .int x1), (2, .int (0 : Int32))]) [1, 2, 0] rfl ?_
  exact UL_X3_runBack_2 k_t ok hI g hr hlk _ _ hM
noncomputable def B_X3_passBeat_76 (t : Nat) (x1 : Int32) (h : zw_Hp) : Option (Int32 × zw_Hp) :=
  zw_nm (zw_up h t 8 ((h.1 t 8) + (1 : Int32))) (fun h23 => some (((h23.1 t 7) - x1), h23))
set_option maxRecDepth 100000 in
set_option maxHeartbeats 4000000 in
theorem U_X3_passBeat_76 {t : Nat} (k_t : t = 9 ∨ t = 14) (ok : zw_Ok E) (hI : ∀ i, i < 48 → i ∈ E.2.2.1) (g : zw_G p E (zw_A E) s m args c RX3 cX3_passBeat 4) (hr : meth.sig.returnType = some .int) (hlk : meth.locks = false) :
    ∀ (x1 : Int32) (h : zw_Hp) (z : Int32 × zw_Hp), B_X3_passBeat_76 t x1 h = some z → zw_V p l e s m args below meth c E mt_X3_passBeat 4 (some (.int z.1)) z.2 76 [(0, .ref (E.2.1 t)), (1, .int x1)] [] h := by
  intro x1 h z hM
  unfold B_X3_passBeat_76 at hM
  refine zr_aload_n (q := 77) g 0 dX3_passBeat_76 rfl rfl rfl ?_
  refine zr_dup (q := 78) g dX3_passBeat_77 rfl rfl ?_
  refine zr_geti (q := 81) (k0 := 8) g (hI _ (zb_sc0 k_t)) (zs_sc0 k_t) rfl zf_X3_48 dX3_passBeat_78 rfl ?_
  refine zr_iconst (q := 82) (v := (1 : Int32)) g dX3_passBeat_81 rfl (by decide) ?_
  refine zr_iadd (q := 83) g dX3_passBeat_82 rfl ?_
  obtain ⟨h23, e24, hM⟩ := zw_nm_ex hM
  refine zr_puti (q := 86) (k0 := 8) (h' := h23) g (hI _ (zb_sc0 k_t)) (zs_sc0 k_t) rfl zp_X3_48 dX3_passBeat_83 rfl e24 ?_
  refine zr_aload_n (q := 87) g 0 dX3_passBeat_86 rfl rfl rfl ?_
  refine zr_geti (q := 90) (k0 := 7) g (hI _ (zb_sc0 k_t)) (zs_sc0 k_t) rfl zf_X3_45 dX3_passBeat_87 rfl ?_
  refine zr_iload_n (q := 91) g 1 dX3_passBeat_90 rfl rfl rfl ?_
  refine zr_isub (q := 92) g dX3_passBeat_91 rfl ?_
  cases hM
  exact zr_iret g hr hlk dX3_passBeat_92 rfl rfl
noncomputable def B_X3_passBeat_20 (t : Nat) (k20 : (Int32 × Int32 × Int32 × zw_Hp) → Option (Int32 × zw_Hp)) (x1 : Int32) (x2 : Int32) (x3 : Int32) (h : zw_Hp) : Option (Int32 × zw_Hp) :=
  if x3 < 0 then ((M_X3_fillAtWell t h).bind (fun z10 => (M_X3_leak t z10).bind (fun z12 => (M_X3_runBack t x2 z12).bind (fun z14 => if (z14.1 t 6) = 0 then (B_X3_passBeat_76 t x1 z14) else (zw_nm (zw_up z14 t 6 (if ((z14.1 t 6) + (z14.1 6 6)) < (99 : Int32) then ((z14.1 t 6) + (z14.1 6 6)) else (99 : Int32))) (fun h17 => B_X3_passBeat_76 t x1 h17)))))) else ((M_X3_handOn t x3 h).bind (fun z19 => zw_nm (x3 + (-1 : Int32)) (fun y21 => k20 (x1, x2, y21, z19))))
set_option maxRecDepth 100000 in
set_option maxHeartbeats 4000000 in
theorem U_X3_passBeat_20 {t : Nat} (k_t : t = 9 ∨ t = 14) (ok : zw_Ok E) (hI : ∀ i, i < 48 → i ∈ E.2.2.1) (g : zw_G p E (zw_A E) s m args c RX3 cX3_passBeat 4) (hr : meth.sig.returnType = some .int) (hlk : meth.locks = false) {k20 : (Int32 × Int32 × Int32 × zw_Hp) → Option (Int32 × zw_Hp)} (eL20 : ∀ (w : Int32 × Int32 × Int32 × zw_Hp) (z : Int32 × zw_Hp), k20 w = some z → zw_V p l e s m args below meth c E mt_X3_passBeat 4 (some (.int z.1)) z.2 20 [(0, .ref (E.2.1 t)), (1, .int w.1), (2, .int w.2.1), (3, .int w.2.2.1)] [] w.2.2.2) :
    ∀ (x1 : Int32) (x2 : Int32) (x3 : Int32) (h : zw_Hp) (z : Int32 × zw_Hp), B_X3_passBeat_20 t k20 x1 x2 x3 h = some z → zw_V p l e s m args below meth c E mt_X3_passBeat 4 (some (.int z.1)) z.2 20 [(0, .ref (E.2.1 t)), (1, .int x1), (2, .int x2), (3, .int x3)] [] h := by
  intro x1 x2 x3 h z hM
  unfold B_X3_passBeat_20 at hM
  refine zr_iload_n (q := 21) g 3 dX3_passBeat_20 rfl rfl rfl ?_
  refine zr_if_lt (q := 24) (tgt := 35) g dX3_passBeat_21 rfl rfl (fun c9 => ?_) (fun c9 => ?_)
  · replace hM := zw_ift c9 hM
    refine zr_aload_n (q := 36) g 0 dX3_passBeat_35 rfl rfl rfl ?_
    obtain ⟨z10, q11, hM⟩ := zw_bd hM
    refine zr_callV (q := 39) (As := []) (rest := []) (st' := []) (i := t) g (R_X3_fillAtWell k_t ok hI q11) zv_X3_fillAtWell zl_X3_91 (hI _ (zb_sc0 k_t)) (zs_sc0 k_t) zc_X3.1 dX3_passBeat_36 rfl rfl ⟨Nat.le_of_ble_eq_true rfl, Nat.le_of_ble_eq_true rfl⟩ ⟨Nat.zero_le _, Nat.zero_le _⟩ (Nat.le_of_ble_eq_true rfl) rfl rfl ?_
    refine zr_aload_n (q := 40) g 0 dX3_passBeat_39 rfl rfl rfl ?_
    obtain ⟨z12, q13, hM⟩ := zw_bd hM
    refine zr_callV (q := 43) (As := []) (rest := []) (st' := []) (i := t) g (R_X3_leak k_t ok hI q13) zv_X3_leak zl_X3_94 (hI _ (zb_sc0 k_t)) (zs_sc0 k_t) zc_X3.1 dX3_passBeat_40 rfl rfl ⟨Nat.le_of_ble_eq_true rfl, Nat.le_of_ble_eq_true rfl⟩ ⟨Nat.zero_le _, Nat.zero_le _⟩ (Nat.le_of_ble_eq_true rfl) rfl rfl ?_
    refine zr_aload_n (q := 44) g 0 dX3_passBeat_43 rfl rfl rfl ?_
    refine zr_iload_n (q := 45) g 2 dX3_passBeat_44 rfl rfl rfl ?_
    obtain ⟨z14, q15, hM⟩ := zw_bd hM
    refine zr_callV (q := 48) (As := [.int x2]) (rest := []) (st' := []) (i := t) g (R_X3_runBack k_t ok hI q15) zv_X3_runBack zl_X3_97 (hI _ (zb_sc0 k_t)) (zs_sc0 k_t) zc_X3.1 dX3_passBeat_45 rfl rfl ⟨Nat.le_of_ble_eq_true rfl, Nat.le_of_ble_eq_true rfl⟩ ⟨Nat.zero_le _, Nat.zero_le _⟩ (Nat.le_of_ble_eq_true rfl) rfl rfl ?_
    refine zr_aload_n (q := 49) g 0 dX3_passBeat_48 rfl rfl rfl ?_
    refine zr_geti (q := 52) (k0 := 6) g (hI _ (zb_sc0 k_t)) (zs_sc0 k_t) rfl zf_X3_44 dX3_passBeat_49 rfl ?_
    refine zr_if_eq (q := 55) (tgt := 76) g dX3_passBeat_52 rfl rfl (fun c16 => ?_) (fun c16 => ?_)
    · replace hM := zw_ift c16 hM
      refine zr_lv (lv' := [(0, .ref (E.2.1 t)), (1, .int x1)]) [0, 1] rfl ?_
      exact U_X3_passBeat_76 k_t ok hI g hr hlk _ _ _ hM
    · replace hM := zw_iff c16 hM
      refine zr_aload_n (q := 56) g 0 dX3_passBeat_55 rfl rfl rfl ?_
      refine zr_bipush (q := 58) (v := (99 : Int32)) g dX3_passBeat_56 rfl (by decide) ?_
      refine zr_aload_n (q := 59) g 0 dX3_passBeat_58 rfl rfl rfl ?_
      refine zr_geti (q := 62) (k0 := 6) g (hI _ (zb_sc0 k_t)) (zs_sc0 k_t) rfl zf_X3_44 dX3_passBeat_59 rfl ?_
      refine zr_aload_n (q := 63) g 0 dX3_passBeat_62 rfl rfl rfl ?_
      refine zr_getr (q := 66) (k0 := 0) (j := 6) g (hI _ (zb_sc0 k_t)) (zs_sc0 k_t) rfl zf_X3_24 dX3_passBeat_63 rfl ?_
      refine zr_geti (q := 69) (k0 := 6) g (hI 6 (by decide)) zs_6 rfl zf_X3_100 dX3_passBeat_66 rfl ?_
      refine zr_iadd (q := 70) g dX3_passBeat_69 rfl ?_
      refine zr_mmin (q := 73) g zl_X3_103 zl_mmin ⟨Nat.le_of_ble_eq_true rfl, Nat.le_of_ble_eq_true rfl⟩ ⟨Nat.zero_le _, Nat.zero_le _⟩ (Nat.le_of_ble_eq_true rfl) dX3_passBeat_70 rfl ?_
      obtain ⟨h17, e18, hM⟩ := zw_nm_ex hM
      refine zr_puti (q := 76) (k0 := 6) (h' := h17) g (hI _ (zb_sc0 k_t)) (zs_sc0 k_t) rfl zp_X3_44 dX3_passBeat_73 rfl e18 ?_
      refine zr_lv (lv' := [(0, .ref (E.2.1 t)), (1, .int x1)]) [0, 1] rfl ?_
      exact U_X3_passBeat_76 k_t ok hI g hr hlk _ _ _ hM
  · replace hM := zw_iff c9 hM
    refine zr_aload_n (q := 25) g 0 dX3_passBeat_24 rfl rfl rfl ?_
    refine zr_iload_n (q := 26) g 3 dX3_passBeat_25 rfl rfl rfl ?_
    obtain ⟨z19, q20, hM⟩ := zw_bd hM
    refine zr_callV (q := 29) (As := [.int x3]) (rest := []) (st' := []) (i := t) g (R_X3_handOn k_t ok hI q20) zv_X3_handOn zl_X3_88 (hI _ (zb_sc0 k_t)) (zs_sc0 k_t) zc_X3.1 dX3_passBeat_26 rfl rfl ⟨Nat.le_of_ble_eq_true rfl, Nat.le_of_ble_eq_true rfl⟩ ⟨Nat.zero_le _, Nat.zero_le _⟩ (Nat.le_of_ble_eq_true rfl) rfl rfl ?_
    obtain ⟨y21, e22, hM⟩ := zw_nm_ex hM
    refine zr_iinc (q := 32) (v := y21) (lv' := [(3, .int y21), (0, .ref (E.2.1 t)), (1, .int x1), (2, .int x2)]) g 3 dX3_passBeat_29 rfl rfl (by rw [e22]; rfl) (by decide) rfl ?_
    refine zr_goto (tgt := 20) g dX3_passBeat_32 rfl ?_
    refine zr_lv (lv' := [(0, .ref (E.2.1 t)), (1, .int x1), (2, .int x2), (3, .int y21)]) [1, 2, 3, 0] rfl ?_
    exact eL20 _ _ hM
noncomputable def L_X3_passBeat_20 (t : Nat) (w : Int32 × Int32 × Int32 × zw_Hp) : Option (Int32 × zw_Hp) :=
  zw_it (fun (k20 : (Int32 × Int32 × Int32 × zw_Hp) → Option (Int32 × zw_Hp)) (w : Int32 × Int32 × Int32 × zw_Hp) => B_X3_passBeat_20 t k20 (w.1) (w.2.1) (w.2.2.1) (w.2.2.2)) 600 w
theorem UL_X3_passBeat_20 {t : Nat} (k_t : t = 9 ∨ t = 14) (ok : zw_Ok E) (hI : ∀ i, i < 48 → i ∈ E.2.2.1) (g : zw_G p E (zw_A E) s m args c RX3 cX3_passBeat 4) (hr : meth.sig.returnType = some .int) (hlk : meth.locks = false) :
    ∀ (w : Int32 × Int32 × Int32 × zw_Hp) (z : Int32 × zw_Hp), L_X3_passBeat_20 t w = some z → zw_V p l e s m args below meth c E mt_X3_passBeat 4 (some (.int z.1)) z.2 20 [(0, .ref (E.2.1 t)), (1, .int w.1), (2, .int w.2.1), (3, .int w.2.2.1)] [] w.2.2.2 :=
  fun w z hM => zw_it_ind (P := fun (w : Int32 × Int32 × Int32 × zw_Hp) (z : Int32 × zw_Hp) => zw_V p l e s m args below meth c E mt_X3_passBeat 4 (some (.int z.1)) z.2 20 [(0, .ref (E.2.1 t)), (1, .int w.1), (2, .int w.2.1), (3, .int w.2.2.1)] [] w.2.2.2) (fun k e w z hM => U_X3_passBeat_20 k_t ok hI g hr hlk e _ _ _ _ _ hM) 600 w z hM
noncomputable def M_X3_passBeat (t : Nat) (h : zw_Hp) : Option (Int32 × zw_Hp) :=
  zw_nm (h.1 t 7) (fun y1 => (M_X3_throwLast t h).bind (fun z3 => zw_nm z3.1 (fun y5 => zw_nm ((z3.2.1 6 2) - (2 : Int32)) (fun y7 => L_X3_passBeat_20 t (y1, y5, y7, z3.2)))))
set_option maxRecDepth 100000 in
set_option maxHeartbeats 4000000 in
theorem R_X3_passBeat {t : Nat} (k_t : t = 9 ∨ t = 14) (ok : zw_Ok E) (hI : ∀ i, i < 48 → i ∈ E.2.2.1) {h : zw_Hp} {z : Int32 × zw_Hp} (hM : M_X3_passBeat t h = some z) : zw_Ct l E mt_X3_passBeat [.ref (E.2.1 t)] h (some (.int z.1)) z.2 := by
  unfold M_X3_passBeat at hM
  refine zw_ct (lv0 := [(0, .ref (E.2.1 t))]) ok (by decide) rfl (Nat.le_of_ble_eq_true rfl) (fun p e s m args below meth c g hr hlk => ?_)
  replace g : zw_G p E (zw_A E) s m args c RX3 cX3_passBeat 4 := g
  show zw_V p l e s m args below meth c E mt_X3_passBeat 4 (some (.int z.1)) z.2 0 [(0, .ref (E.2.1 t))] [] h
  refine zr_aload_n (q := 1) g 0 dX3_passBeat_0 rfl rfl rfl ?_
  refine zr_geti (q := 4) (k0 := 7) g (hI _ (zb_sc0 k_t)) (zs_sc0 k_t) rfl zf_X3_45 dX3_passBeat_1 rfl ?_
  obtain ⟨y1, e2, hM⟩ := zw_nm_ex hM
  refine zr_nmi e2 ?_
  refine zr_istore_n (q := 5) (lv' := [(1, .int y1), (0, .ref (E.2.1 t))]) g dX3_passBeat_4 rfl rfl (by decide) rfl ?_
  refine zr_aload_n (q := 6) g 1 dX3_passBeat_5 rfl rfl rfl ?_
  obtain ⟨z3, q4, hM⟩ := zw_bd hM
  refine zr_callV (q := 9) (As := []) (rest := []) (st' := [.int z3.1]) (i := t) g (R_X3_throwLast k_t ok hI q4) zv_X3_throwLast zl_X3_82 (hI _ (zb_sc0 k_t)) (zs_sc0 k_t) zc_X3.1 dX3_passBeat_6 rfl rfl ⟨Nat.le_of_ble_eq_true rfl, Nat.le_of_ble_eq_true rfl⟩ ⟨Nat.zero_le _, Nat.zero_le _⟩ (Nat.le_of_ble_eq_true rfl) rfl rfl ?_
  obtain ⟨y5, e6, hM⟩ := zw_nm_ex hM
  refine zr_nmi e6 ?_
  refine zr_istore_n (q := 10) (lv' := [(2, .int y5), (1, .int y1), (0, .ref (E.2.1 t))]) g dX3_passBeat_9 rfl rfl (by decide) rfl ?_
  refine zr_aload_n (q := 11) g 2 dX3_passBeat_10 rfl rfl rfl ?_
  refine zr_getr (q := 14) (k0 := 0) (j := 6) g (hI _ (zb_sc0 k_t)) (zs_sc0 k_t) rfl zf_X3_24 dX3_passBeat_11 rfl ?_
  refine zr_geti (q := 17) (k0 := 2) g (hI 6 (by decide)) zs_6 rfl zf_X3_85 dX3_passBeat_14 rfl ?_
  refine zr_iconst (q := 18) (v := (2 : Int32)) g dX3_passBeat_17 rfl (by decide) ?_
  refine zr_isub (q := 19) g dX3_passBeat_18 rfl ?_
  obtain ⟨y7, e8, hM⟩ := zw_nm_ex hM
  refine zr_nmi e8 ?_
  refine zr_istore_n (q := 20) (lv' := [(3, .int y7), (2, .int y5), (1, .int y1), (0, .ref (E.2.1 t))]) g dX3_passBeat_19 rfl rfl (by decide) rfl ?_
  refine zr_lv (lv' := [(0, .ref (E.2.1 t)), (1, .int y1), (2, .int y5), (3, .int y7)]) [3, 2, 1, 0] rfl ?_
  exact UL_X3_passBeat_20 k_t ok hI g hr hlk _ _ hM
noncomputable def B_X3_passBeats_7 (t : Nat) (k7 : (Int32 × Int32 × Int32 × zw_Hp) → Option (Int32 × zw_Hp)) (x1 : Int32) (x2 : Int32) (x3 : Int32) (h : zw_Hp) : Option (Int32 × zw_Hp) :=
  if x1 ≤ x3 then (some (((h.1 t 7) - x2), h)) else ((M_X3_passBeat t h).bind (fun z4 => zw_nm (x3 + (1 : Int32)) (fun y6 => k7 (x1, x2, y6, z4.2))))
set_option maxRecDepth 100000 in
set_option maxHeartbeats 4000000 in
theorem U_X3_passBeats_7 {t : Nat} (k_t : t = 9 ∨ t = 14) (ok : zw_Ok E) (hI : ∀ i, i < 48 → i ∈ E.2.2.1) (g : zw_G p E (zw_A E) s m args c RX3 cX3_passBeats 4) (hr : meth.sig.returnType = some .int) (hlk : meth.locks = false) {k7 : (Int32 × Int32 × Int32 × zw_Hp) → Option (Int32 × zw_Hp)} (eL7 : ∀ (w : Int32 × Int32 × Int32 × zw_Hp) (z : Int32 × zw_Hp), k7 w = some z → zw_V p l e s m args below meth c E mt_X3_passBeats 4 (some (.int z.1)) z.2 7 [(0, .ref (E.2.1 t)), (1, .int w.1), (2, .int w.2.1), (3, .int w.2.2.1)] [] w.2.2.2) :
    ∀ (x1 : Int32) (x2 : Int32) (x3 : Int32) (h : zw_Hp) (z : Int32 × zw_Hp), B_X3_passBeats_7 t k7 x1 x2 x3 h = some z → zw_V p l e s m args below meth c E mt_X3_passBeats 4 (some (.int z.1)) z.2 7 [(0, .ref (E.2.1 t)), (1, .int x1), (2, .int x2), (3, .int x3)] [] h := by
  intro x1 x2 x3 h z hM
  unfold B_X3_passBeats_7 at hM
  refine zr_iload_n (q := 8) g 3 dX3_passBeats_7 rfl rfl rfl ?_
  refine zr_iload_n (q := 9) g 1 dX3_passBeats_8 rfl rfl rfl ?_
  refine zr_icmp_ge (q := 12) (tgt := 23) g dX3_passBeats_9 rfl rfl (fun c3 => ?_) (fun c3 => ?_)
  · replace hM := zw_ift c3 hM
    refine zr_aload_n (q := 24) g 0 dX3_passBeats_23 rfl rfl rfl ?_
    refine zr_geti (q := 27) (k0 := 7) g (hI _ (zb_sc0 k_t)) (zs_sc0 k_t) rfl zf_X3_45 dX3_passBeats_24 rfl ?_
    refine zr_iload_n (q := 28) g 2 dX3_passBeats_27 rfl rfl rfl ?_
    refine zr_isub (q := 29) g dX3_passBeats_28 rfl ?_
    cases hM
    exact zr_iret g hr hlk dX3_passBeats_29 rfl rfl
  · replace hM := zw_iff c3 hM
    refine zr_aload_n (q := 13) g 0 dX3_passBeats_12 rfl rfl rfl ?_
    obtain ⟨z4, q5, hM⟩ := zw_bd hM
    refine zr_callV (q := 16) (As := []) (rest := []) (st' := [.int z4.1]) (i := t) g (R_X3_passBeat k_t ok hI q5) zv_X3_passBeat zl_X3_78 (hI _ (zb_sc0 k_t)) (zs_sc0 k_t) zc_X3.1 dX3_passBeats_13 rfl rfl ⟨Nat.le_of_ble_eq_true rfl, Nat.le_of_ble_eq_true rfl⟩ ⟨Nat.zero_le _, Nat.zero_le _⟩ (Nat.le_of_ble_eq_true rfl) rfl rfl ?_
    refine zr_pop (q := 17) g dX3_passBeats_16 rfl rfl ?_
    obtain ⟨y6, e7, hM⟩ := zw_nm_ex hM
    refine zr_iinc (q := 20) (v := y6) (lv' := [(3, .int y6), (0, .ref (E.2.1 t)), (1, .int x1), (2, .int x2)]) g 3 dX3_passBeats_17 rfl rfl (by rw [e7]; rfl) (by decide) rfl ?_
    refine zr_goto (tgt := 7) g dX3_passBeats_20 rfl ?_
    refine zr_lv (lv' := [(0, .ref (E.2.1 t)), (1, .int x1), (2, .int x2), (3, .int y6)]) [1, 2, 3, 0] rfl ?_
    exact eL7 _ _ hM
noncomputable def L_X3_passBeats_7 (t : Nat) (w : Int32 × Int32 × Int32 × zw_Hp) : Option (Int32 × zw_Hp) :=
  zw_it (fun (k7 : (Int32 × Int32 × Int32 × zw_Hp) → Option (Int32 × zw_Hp)) (w : Int32 × Int32 × Int32 × zw_Hp) => B_X3_passBeats_7 t k7 (w.1) (w.2.1) (w.2.2.1) (w.2.2.2)) 600 w
theorem UL_X3_passBeats_7 {t : Nat} (k_t : t = 9 ∨ t = 14) (ok : zw_Ok E) (hI : ∀ i, i < 48 → i ∈ E.2.2.1) (g : zw_G p E (zw_A E) s m args c RX3 cX3_passBeats 4) (hr : meth.sig.returnType = some .int) (hlk : meth.locks = false) :
    ∀ (w : Int32 × Int32 × Int32 × zw_Hp) (z : Int32 × zw_Hp), L_X3_passBeats_7 t w = some z → zw_V p l e s m args below meth c E mt_X3_passBeats 4 (some (.int z.1)) z.2 7 [(0, .ref (E.2.1 t)), (1, .int w.1), (2, .int w.2.1), (3, .int w.2.2.1)] [] w.2.2.2 :=
  fun w z hM => zw_it_ind (P := fun (w : Int32 × Int32 × Int32 × zw_Hp) (z : Int32 × zw_Hp) => zw_V p l e s m args below meth c E mt_X3_passBeats 4 (some (.int z.1)) z.2 7 [(0, .ref (E.2.1 t)), (1, .int w.1), (2, .int w.2.1), (3, .int w.2.2.1)] [] w.2.2.2) (fun k e w z hM => U_X3_passBeats_7 k_t ok hI g hr hlk e _ _ _ _ _ hM) 600 w z hM
noncomputable def M_X3_passBeats (t : Nat) (x1 : Int32) (h : zw_Hp) : Option (Int32 × zw_Hp) :=
  zw_nm (h.1 t 7) (fun y1 => L_X3_passBeats_7 t (x1, y1, (0 : Int32), h))
set_option maxRecDepth 100000 in
set_option maxHeartbeats 4000000 in
theorem R_X3_passBeats {t : Nat} (k_t : t = 9 ∨ t = 14) (ok : zw_Ok E) (hI : ∀ i, i < 48 → i ∈ E.2.2.1) {x1 : Int32} {h : zw_Hp} {z : Int32 × zw_Hp} (hM : M_X3_passBeats t x1 h = some z) : zw_Ct l E mt_X3_passBeats [.ref (E.2.1 t), .int x1] h (some (.int z.1)) z.2 := by
  unfold M_X3_passBeats at hM
  refine zw_ct (lv0 := [(0, .ref (E.2.1 t)), (1, .int x1)]) ok (by decide) rfl (Nat.le_of_ble_eq_true rfl) (fun p e s m args below meth c g hr hlk => ?_)
  replace g : zw_G p E (zw_A E) s m args c RX3 cX3_passBeats 4 := g
  show zw_V p l e s m args below meth c E mt_X3_passBeats 4 (some (.int z.1)) z.2 0 [(0, .ref (E.2.1 t)), (1, .int x1)] [] h
  refine zr_aload_n (q := 1) g 0 dX3_passBeats_0 rfl rfl rfl ?_
  refine zr_geti (q := 4) (k0 := 7) g (hI _ (zb_sc0 k_t)) (zs_sc0 k_t) rfl zf_X3_45 dX3_passBeats_1 rfl ?_
  obtain ⟨y1, e2, hM⟩ := zw_nm_ex hM
  refine zr_nmi e2 ?_
  refine zr_istore_n (q := 5) (lv' := [(2, .int y1), (0, .ref (E.2.1 t)), (1, .int x1)]) g dX3_passBeats_4 rfl rfl (by decide) rfl ?_
  refine zr_iconst (q := 6) (v := (0 : Int32)) g dX3_passBeats_5 rfl (by decide) ?_
  refine zr_istore_n (q := 7) (lv' := [(3, .int (0 : Int32)), (2, .int y1), (0, .ref (E.2.1 t)), (1, .int x1)]) g dX3_passBeats_6 rfl rfl (by decide) rfl ?_
  refine zr_lv (lv' := [(0, .ref (E.2.1 t)), (1, .int x1), (2, .int y1), (3, .int (0 : Int32))]) [2, 3, 1, 0] rfl ?_
  exact UL_X3_passBeats_7 k_t ok hI g hr hlk _ _ hM
noncomputable def M_X3_followChange (t : Nat) (x1 : Int32) (x2 : Int32) (h : zw_Hp) : Option (Int32 × zw_Hp) :=
  (M_X2_hasPerson 6 x1 h).bind (fun z1 => if z1 = 0 then (some ((0 : Int32), h)) else ((M_X2_hasPerson 6 x2 h).bind (fun z4 => if z4 = 0 then (some ((0 : Int32), h)) else (if x1 = x2 then (some ((0 : Int32), h)) else ((M_X3_exchange t x1 x2 h).bind (fun z8 => some ((1 : Int32), z8)))))))
set_option maxRecDepth 100000 in
set_option maxHeartbeats 4000000 in
theorem R_X3_followChange {t : Nat} (k_t : t = 9 ∨ t = 14) (ok : zw_Ok E) (hI : ∀ i, i < 48 → i ∈ E.2.2.1) {x1 : Int32} {x2 : Int32} {h : zw_Hp} {z : Int32 × zw_Hp} (hM : M_X3_followChange t x1 x2 h = some z) : zw_Ct l E mt_X3_followChange [.ref (E.2.1 t), .int x1, .int x2] h (some (.int z.1)) z.2 := by
  unfold M_X3_followChange at hM
  refine zw_ct (lv0 := [(0, .ref (E.2.1 t)), (1, .int x1), (2, .int x2)]) ok (by decide) rfl (Nat.le_of_ble_eq_true rfl) (fun p e s m args below meth c g hr hlk => ?_)
  replace g : zw_G p E (zw_A E) s m args c RX3 cX3_followChange 3 := g
  show zw_V p l e s m args below meth c E mt_X3_followChange 3 (some (.int z.1)) z.2 0 [(0, .ref (E.2.1 t)), (1, .int x1), (2, .int x2)] [] h
  refine zr_aload_n (q := 1) g 0 dX3_followChange_0 rfl rfl rfl ?_
  refine zr_getr (q := 4) (k0 := 0) (j := 6) g (hI _ (zb_sc0 k_t)) (zs_sc0 k_t) rfl zf_X3_24 dX3_followChange_1 rfl ?_
  refine zr_iload_n (q := 5) g 1 dX3_followChange_4 rfl rfl rfl ?_
  obtain ⟨z1, q2, hM⟩ := zw_bd hM
  refine zr_callV (q := 8) (As := [.int x1]) (rest := []) (st' := [.int z1]) (i := 6) g (R_X2_hasPerson (Or.inr rfl) ok hI q2) zv_X2_hasPerson zl_X3_141 (hI 6 (by decide)) zs_6 zc_X2.1 dX3_followChange_5 rfl rfl ⟨Nat.le_of_ble_eq_true rfl, Nat.le_of_ble_eq_true rfl⟩ ⟨Nat.zero_le _, Nat.zero_le _⟩ (Nat.le_of_ble_eq_true rfl) rfl rfl ?_
  refine zr_if_eq (q := 11) (tgt := 27) g dX3_followChange_8 rfl rfl (fun c3 => ?_) (fun c3 => ?_)
  · replace hM := zw_ift c3 hM
    refine zr_iconst (q := 28) (v := (0 : Int32)) g dX3_followChange_27 rfl (by decide) ?_
    cases hM
    exact zr_zret g hr hlk (by decide) dX3_followChange_28 rfl rfl
  · replace hM := zw_iff c3 hM
    refine zr_aload_n (q := 12) g 0 dX3_followChange_11 rfl rfl rfl ?_
    refine zr_getr (q := 15) (k0 := 0) (j := 6) g (hI _ (zb_sc0 k_t)) (zs_sc0 k_t) rfl zf_X3_24 dX3_followChange_12 rfl ?_
    refine zr_iload_n (q := 16) g 2 dX3_followChange_15 rfl rfl rfl ?_
    obtain ⟨z4, q5, hM⟩ := zw_bd hM
    refine zr_callV (q := 19) (As := [.int x2]) (rest := []) (st' := [.int z4]) (i := 6) g (R_X2_hasPerson (Or.inr rfl) ok hI q5) zv_X2_hasPerson zl_X3_141 (hI 6 (by decide)) zs_6 zc_X2.1 dX3_followChange_16 rfl rfl ⟨Nat.le_of_ble_eq_true rfl, Nat.le_of_ble_eq_true rfl⟩ ⟨Nat.zero_le _, Nat.zero_le _⟩ (Nat.le_of_ble_eq_true rfl) rfl rfl ?_
    refine zr_if_eq (q := 22) (tgt := 27) g dX3_followChange_19 rfl rfl (fun c6 => ?_) (fun c6 => ?_)
    · replace hM := zw_ift c6 hM
      refine zr_iconst (q := 28) (v := (0 : Int32)) g dX3_followChange_27 rfl (by decide) ?_
      cases hM
      exact zr_zret g hr hlk (by decide) dX3_followChange_28 rfl rfl
    · replace hM := zw_iff c6 hM
      refine zr_iload_n (q := 23) g 1 dX3_followChange_22 rfl rfl rfl ?_
      refine zr_iload_n (q := 24) g 2 dX3_followChange_23 rfl rfl rfl ?_
      refine zr_icmp_ne (q := 27) (tgt := 29) g dX3_followChange_24 rfl rfl (fun c7 => ?_) (fun c7 => ?_)
      · replace hM := zw_iff c7 hM
        refine zr_aload_n (q := 30) g 0 dX3_followChange_29 rfl rfl rfl ?_
        refine zr_iload_n (q := 31) g 1 dX3_followChange_30 rfl rfl rfl ?_
        refine zr_iload_n (q := 32) g 2 dX3_followChange_31 rfl rfl rfl ?_
        obtain ⟨z8, q9, hM⟩ := zw_bd hM
        refine zr_callV (q := 35) (As := [.int x1, .int x2]) (rest := []) (st' := []) (i := t) g (R_X3_exchange k_t ok hI q9) zv_X3_exchange zl_X3_144 (hI _ (zb_sc0 k_t)) (zs_sc0 k_t) zc_X3.1 dX3_followChange_32 rfl rfl ⟨Nat.le_of_ble_eq_true rfl, Nat.le_of_ble_eq_true rfl⟩ ⟨Nat.zero_le _, Nat.zero_le _⟩ (Nat.le_of_ble_eq_true rfl) rfl rfl ?_
        refine zr_iconst (q := 36) (v := (1 : Int32)) g dX3_followChange_35 rfl (by decide) ?_
        cases hM
        exact zr_zret g hr hlk (by decide) dX3_followChange_36 rfl rfl
      · replace hM := zw_ift c7 hM
        refine zr_iconst (q := 28) (v := (0 : Int32)) g dX3_followChange_27 rfl (by decide) ?_
        cases hM
        exact zr_zret g hr hlk (by decide) dX3_followChange_28 rfl rfl
noncomputable def M_X3_followMend (t : Nat) (x1 : Int32) (h : zw_Hp) : Option (Int32 × zw_Hp) :=
  (M_X3_hasHole t x1 h).bind (fun z1 => if z1 = 0 then (some ((0 : Int32), h)) else ((M_X3_closeHole t x1 h).bind (fun z4 => some ((1 : Int32), z4))))
set_option maxRecDepth 100000 in
set_option maxHeartbeats 4000000 in
theorem R_X3_followMend {t : Nat} (k_t : t = 9 ∨ t = 14) (ok : zw_Ok E) (hI : ∀ i, i < 48 → i ∈ E.2.2.1) {x1 : Int32} {h : zw_Hp} {z : Int32 × zw_Hp} (hM : M_X3_followMend t x1 h = some z) : zw_Ct l E mt_X3_followMend [.ref (E.2.1 t), .int x1] h (some (.int z.1)) z.2 := by
  unfold M_X3_followMend at hM
  refine zw_ct (lv0 := [(0, .ref (E.2.1 t)), (1, .int x1)]) ok (by decide) rfl (Nat.le_of_ble_eq_true rfl) (fun p e s m args below meth c g hr hlk => ?_)
  replace g : zw_G p E (zw_A E) s m args c RX3 cX3_followMend 2 := g
  show zw_V p l e s m args below meth c E mt_X3_followMend 2 (some (.int z.1)) z.2 0 [(0, .ref (E.2.1 t)), (1, .int x1)] [] h
  refine zr_aload_n (q := 1) g 0 dX3_followMend_0 rfl rfl rfl ?_
  refine zr_iload_n (q := 2) g 1 dX3_followMend_1 rfl rfl rfl ?_
  obtain ⟨z1, q2, hM⟩ := zw_bd hM
  refine zr_callV (q := 5) (As := [.int x1]) (rest := []) (st' := [.int z1]) (i := t) g (R_X3_hasHole k_t ok hI q2) zv_X3_hasHole zl_X3_128 (hI _ (zb_sc0 k_t)) (zs_sc0 k_t) zc_X3.1 dX3_followMend_2 rfl rfl ⟨Nat.le_of_ble_eq_true rfl, Nat.le_of_ble_eq_true rfl⟩ ⟨Nat.zero_le _, Nat.zero_le _⟩ (Nat.le_of_ble_eq_true rfl) rfl rfl ?_
  refine zr_if_ne (q := 8) (tgt := 10) g dX3_followMend_5 rfl rfl (fun c3 => ?_) (fun c3 => ?_)
  · replace hM := zw_iff c3 hM
    refine zr_aload_n (q := 11) g 0 dX3_followMend_10 rfl rfl rfl ?_
    refine zr_iload_n (q := 12) g 1 dX3_followMend_11 rfl rfl rfl ?_
    obtain ⟨z4, q5, hM⟩ := zw_bd hM
    refine zr_callV (q := 15) (As := [.int x1]) (rest := []) (st' := []) (i := t) g (R_X3_closeHole k_t ok hI q5) zv_X3_closeHole zl_X3_148 (hI _ (zb_sc0 k_t)) (zs_sc0 k_t) zc_X3.1 dX3_followMend_12 rfl rfl ⟨Nat.le_of_ble_eq_true rfl, Nat.le_of_ble_eq_true rfl⟩ ⟨Nat.zero_le _, Nat.zero_le _⟩ (Nat.le_of_ble_eq_true rfl) rfl rfl ?_
    refine zr_iconst (q := 16) (v := (1 : Int32)) g dX3_followMend_15 rfl (by decide) ?_
    cases hM
    exact zr_zret g hr hlk (by decide) dX3_followMend_16 rfl rfl
  · replace hM := zw_ift c3 hM
    refine zr_iconst (q := 9) (v := (0 : Int32)) g dX3_followMend_8 rfl (by decide) ?_
    cases hM
    exact zr_zret g hr hlk (by decide) dX3_followMend_9 rfl rfl
noncomputable def M_X3_followDrop (t : Nat) (x1 : Int32) (h : zw_Hp) : Option (Int32 × zw_Hp) :=
  (M_X3_isHeld t x1 h).bind (fun z1 => if z1 = 0 then (some ((0 : Int32), h)) else ((M_X3_letFall t x1 h).bind (fun z4 => some ((1 : Int32), z4))))
set_option maxRecDepth 100000 in
set_option maxHeartbeats 4000000 in
theorem R_X3_followDrop {t : Nat} (k_t : t = 9 ∨ t = 14) (ok : zw_Ok E) (hI : ∀ i, i < 48 → i ∈ E.2.2.1) {x1 : Int32} {h : zw_Hp} {z : Int32 × zw_Hp} (hM : M_X3_followDrop t x1 h = some z) : zw_Ct l E mt_X3_followDrop [.ref (E.2.1 t), .int x1] h (some (.int z.1)) z.2 := by
  unfold M_X3_followDrop at hM
  refine zw_ct (lv0 := [(0, .ref (E.2.1 t)), (1, .int x1)]) ok (by decide) rfl (Nat.le_of_ble_eq_true rfl) (fun p e s m args below meth c g hr hlk => ?_)
  replace g : zw_G p E (zw_A E) s m args c RX3 cX3_followDrop 2 := g
  show zw_V p l e s m args below meth c E mt_X3_followDrop 2 (some (.int z.1)) z.2 0 [(0, .ref (E.2.1 t)), (1, .int x1)] [] h
  refine zr_aload_n (q := 1) g 0 dX3_followDrop_0 rfl rfl rfl ?_
  refine zr_iload_n (q := 2) g 1 dX3_followDrop_1 rfl rfl rfl ?_
  obtain ⟨z1, q2, hM⟩ := zw_bd hM
  refine zr_callV (q := 5) (As := [.int x1]) (rest := []) (st' := [.int z1]) (i := t) g (R_X3_isHeld k_t ok hI q2) zv_X3_isHeld zl_X3_70 (hI _ (zb_sc0 k_t)) (zs_sc0 k_t) zc_X3.1 dX3_followDrop_2 rfl rfl ⟨Nat.le_of_ble_eq_true rfl, Nat.le_of_ble_eq_true rfl⟩ ⟨Nat.zero_le _, Nat.zero_le _⟩ (Nat.le_of_ble_eq_true rfl) rfl rfl ?_
  refine zr_if_ne (q := 8) (tgt := 10) g dX3_followDrop_5 rfl rfl (fun c3 => ?_) (fun c3 => ?_)
  · replace hM := zw_iff c3 hM
    refine zr_aload_n (q := 11) g 0 dX3_followDrop_10 rfl rfl rfl ?_
    refine zr_iload_n (q := 12) g 1 dX3_followDrop_11 rfl rfl rfl ?_
    obtain ⟨z4, q5, hM⟩ := zw_bd hM
    refine zr_callV (q := 15) (As := [.int x1]) (rest := []) (st' := []) (i := t) g (R_X3_letFall k_t ok hI q5) zv_X3_letFall zl_X3_151 (hI _ (zb_sc0 k_t)) (zs_sc0 k_t) zc_X3.1 dX3_followDrop_12 rfl rfl ⟨Nat.le_of_ble_eq_true rfl, Nat.le_of_ble_eq_true rfl⟩ ⟨Nat.zero_le _, Nat.zero_le _⟩ (Nat.le_of_ble_eq_true rfl) rfl rfl ?_
    refine zr_iconst (q := 16) (v := (1 : Int32)) g dX3_followDrop_15 rfl (by decide) ?_
    cases hM
    exact zr_zret g hr hlk (by decide) dX3_followDrop_16 rfl rfl
  · replace hM := zw_ift c3 hM
    refine zr_iconst (q := 9) (v := (0 : Int32)) g dX3_followDrop_8 rfl (by decide) ?_
    cases hM
    exact zr_zret g hr hlk (by decide) dX3_followDrop_9 rfl rfl
noncomputable def M_X3_follow (t : Nat) (x1 : Int32) (x2 : Int32) (x3 : Int32) (h : zw_Hp) : Option (Int32 × zw_Hp) :=
  if x1 = (0 : Int32) then (if x2 = 0 then (if x3 = 0 then ((M_X3_passBeat t h).bind (fun z4 => if z4.1 < 0 then (some ((0 : Int32), z4.2)) else (some ((1 : Int32), z4.2)))) else (some ((0 : Int32), h))) else (some ((0 : Int32), h))) else (if x1 = (1 : Int32) then ((M_X3_followChange t x2 x3 h).bind (fun z8 => if z8.1 = 0 ∨ z8.1 = 1 then some (z8.1, z8.2) else none)) else (if x1 = (2 : Int32) then (if x2 = 0 then ((M_X3_followMend t x3 h).bind (fun z13 => if z13.1 = 0 then (some ((0 : Int32), z13.2)) else (some ((1 : Int32), z13.2)))) else (some ((0 : Int32), h))) else (if x1 = (3 : Int32) then (if x2 = 0 then ((M_X3_followDrop t x3 h).bind (fun z18 => if z18.1 = 0 then (some ((0 : Int32), z18.2)) else (some ((1 : Int32), z18.2)))) else (some ((0 : Int32), h))) else (if x1 = (4 : Int32) then ((M_X3_isHeld t x3 h).bind (fun z22 => if z22 = 0 then (some ((0 : Int32), h)) else (if zw_ok x3 4 = true then (if (h.1 (t + 2) (x3).toNatClampNeg) = x2 then (some ((1 : Int32), h)) else (some ((0 : Int32), h))) else none))) else (if x1 = (5 : Int32) then ((M_X3_isHeld t x2 h).bind (fun z28 => if z28 = 0 then (some ((0 : Int32), h)) else (if zw_ok x2 4 = true then (if (h.1 (t + 3) (x2).toNatClampNeg) < x3 then (some ((0 : Int32), h)) else (some ((1 : Int32), h))) else none))) else (if x1 = (6 : Int32) then (if (((10 : Int32) * x2) + x3) < (h.1 t 6) then (some ((0 : Int32), h)) else (some ((1 : Int32), h))) else (some ((0 : Int32), h))))))))
set_option maxRecDepth 100000 in
set_option maxHeartbeats 4000000 in
theorem R_X3_follow {t : Nat} (k_t : t = 9 ∨ t = 14) (ok : zw_Ok E) (hI : ∀ i, i < 48 → i ∈ E.2.2.1) {x1 : Int32} {x2 : Int32} {x3 : Int32} {h : zw_Hp} {z : Int32 × zw_Hp} (hM : M_X3_follow t x1 x2 x3 h = some z) : zw_Ct l E mt_X3_follow [.ref (E.2.1 t), .int x1, .int x2, .int x3] h (some (.int z.1)) z.2 := by
  unfold M_X3_follow at hM
  refine zw_ct (lv0 := [(0, .ref (E.2.1 t)), (1, .int x1), (2, .int x2), (3, .int x3)]) ok (by decide) rfl (Nat.le_of_ble_eq_true rfl) (fun p e s m args below meth c g hr hlk => ?_)
  replace g : zw_G p E (zw_A E) s m args c RX3 cX3_follow 4 := g
  show zw_V p l e s m args below meth c E mt_X3_follow 4 (some (.int z.1)) z.2 0 [(0, .ref (E.2.1 t)), (1, .int x1), (2, .int x2), (3, .int x3)] [] h
  refine zr_iload_n (q := 1) g 1 dX3_follow_0 rfl rfl rfl ?_
  by_cases c1 : x1 = (0 : Int32)
  · replace hM := zw_ift c1 hM
    refine zr_tabIn (tgt := 44) (off := 43) g dX3_follow_1 c1 (by decide) rfl ?_
    refine zr_iload_n (q := 45) g 2 dX3_follow_44 rfl rfl rfl ?_
    refine zr_if_ne (q := 48) (tgt := 63) g dX3_follow_45 rfl rfl (fun c2 => ?_) (fun c2 => ?_)
    · replace hM := zw_iff c2 hM
      refine zr_iconst (q := 64) (v := (0 : Int32)) g dX3_follow_63 rfl (by decide) ?_
      cases hM
      exact zr_zret g hr hlk (by decide) dX3_follow_64 rfl rfl
    · replace hM := zw_ift c2 hM
      refine zr_iload_n (q := 49) g 3 dX3_follow_48 rfl rfl rfl ?_
      refine zr_if_ne (q := 52) (tgt := 63) g dX3_follow_49 rfl rfl (fun c3 => ?_) (fun c3 => ?_)
      · replace hM := zw_iff c3 hM
        refine zr_iconst (q := 64) (v := (0 : Int32)) g dX3_follow_63 rfl (by decide) ?_
        cases hM
        exact zr_zret g hr hlk (by decide) dX3_follow_64 rfl rfl
      · replace hM := zw_ift c3 hM
        refine zr_aload_n (q := 53) g 0 dX3_follow_52 rfl rfl rfl ?_
        obtain ⟨z4, q5, hM⟩ := zw_bd hM
        refine zr_callV (q := 56) (As := []) (rest := []) (st' := [.int z4.1]) (i := t) g (R_X3_passBeat k_t ok hI q5) zv_X3_passBeat zl_X3_78 (hI _ (zb_sc0 k_t)) (zs_sc0 k_t) zc_X3.1 dX3_follow_53 rfl rfl ⟨Nat.le_of_ble_eq_true rfl, Nat.le_of_ble_eq_true rfl⟩ ⟨Nat.zero_le _, Nat.zero_le _⟩ (Nat.le_of_ble_eq_true rfl) rfl rfl ?_
        refine zr_if_lt (q := 59) (tgt := 63) g dX3_follow_56 rfl rfl (fun c6 => ?_) (fun c6 => ?_)
        · replace hM := zw_ift c6 hM
          refine zr_iconst (q := 64) (v := (0 : Int32)) g dX3_follow_63 rfl (by decide) ?_
          cases hM
          exact zr_zret g hr hlk (by decide) dX3_follow_64 rfl rfl
        · replace hM := zw_iff c6 hM
          refine zr_iconst (q := 60) (v := (1 : Int32)) g dX3_follow_59 rfl (by decide) ?_
          refine zr_goto (tgt := 64) g dX3_follow_60 rfl ?_
          cases hM
          exact zr_zret g hr hlk (by decide) dX3_follow_64 rfl rfl
  · replace hM := zw_iff c1 hM
    by_cases c7 : x1 = (1 : Int32)
    · replace hM := zw_ift c7 hM
      refine zr_tabIn (tgt := 65) (off := 64) g dX3_follow_1 c7 (by decide) rfl ?_
      refine zr_aload_n (q := 66) g 0 dX3_follow_65 rfl rfl rfl ?_
      refine zr_iload_n (q := 67) g 2 dX3_follow_66 rfl rfl rfl ?_
      refine zr_iload_n (q := 68) g 3 dX3_follow_67 rfl rfl rfl ?_
      obtain ⟨z8, q9, hM⟩ := zw_bd hM
      refine zr_callV (q := 71) (As := [.int x2, .int x3]) (rest := []) (st' := [.int z8.1]) (i := t) g (R_X3_followChange k_t ok hI q9) zv_X3_followChange zl_X3_131 (hI _ (zb_sc0 k_t)) (zs_sc0 k_t) zc_X3.1 dX3_follow_68 rfl rfl ⟨Nat.le_of_ble_eq_true rfl, Nat.le_of_ble_eq_true rfl⟩ ⟨Nat.zero_le _, Nat.zero_le _⟩ (Nat.le_of_ble_eq_true rfl) rfl rfl ?_
      obtain ⟨c10, hM⟩ := zw_gp hM
      cases hM
      exact zr_zret g hr hlk c10 dX3_follow_71 rfl rfl
    · replace hM := zw_iff c7 hM
      by_cases c11 : x1 = (2 : Int32)
      · replace hM := zw_ift c11 hM
        refine zr_tabIn (tgt := 72) (off := 71) g dX3_follow_1 c11 (by decide) rfl ?_
        refine zr_iload_n (q := 73) g 2 dX3_follow_72 rfl rfl rfl ?_
        refine zr_if_ne (q := 76) (tgt := 88) g dX3_follow_73 rfl rfl (fun c12 => ?_) (fun c12 => ?_)
        · replace hM := zw_iff c12 hM
          refine zr_iconst (q := 89) (v := (0 : Int32)) g dX3_follow_88 rfl (by decide) ?_
          cases hM
          exact zr_zret g hr hlk (by decide) dX3_follow_89 rfl rfl
        · replace hM := zw_ift c12 hM
          refine zr_aload_n (q := 77) g 0 dX3_follow_76 rfl rfl rfl ?_
          refine zr_iload_n (q := 78) g 3 dX3_follow_77 rfl rfl rfl ?_
          obtain ⟨z13, q14, hM⟩ := zw_bd hM
          refine zr_callV (q := 81) (As := [.int x3]) (rest := []) (st' := [.int z13.1]) (i := t) g (R_X3_followMend k_t ok hI q14) zv_X3_followMend zl_X3_135 (hI _ (zb_sc0 k_t)) (zs_sc0 k_t) zc_X3.1 dX3_follow_78 rfl rfl ⟨Nat.le_of_ble_eq_true rfl, Nat.le_of_ble_eq_true rfl⟩ ⟨Nat.zero_le _, Nat.zero_le _⟩ (Nat.le_of_ble_eq_true rfl) rfl rfl ?_
          refine zr_if_eq (q := 84) (tgt := 88) g dX3_follow_81 rfl rfl (fun c15 => ?_) (fun c15 => ?_)
          · replace hM := zw_ift c15 hM
            refine zr_iconst (q := 89) (v := (0 : Int32)) g dX3_follow_88 rfl (by decide) ?_
            cases hM
            exact zr_zret g hr hlk (by decide) dX3_follow_89 rfl rfl
          · replace hM := zw_iff c15 hM
            refine zr_iconst (q := 85) (v := (1 : Int32)) g dX3_follow_84 rfl (by decide) ?_
            refine zr_goto (tgt := 89) g dX3_follow_85 rfl ?_
            cases hM
            exact zr_zret g hr hlk (by decide) dX3_follow_89 rfl rfl
      · replace hM := zw_iff c11 hM
        by_cases c16 : x1 = (3 : Int32)
        · replace hM := zw_ift c16 hM
          refine zr_tabIn (tgt := 90) (off := 89) g dX3_follow_1 c16 (by decide) rfl ?_
          refine zr_iload_n (q := 91) g 2 dX3_follow_90 rfl rfl rfl ?_
          refine zr_if_ne (q := 94) (tgt := 106) g dX3_follow_91 rfl rfl (fun c17 => ?_) (fun c17 => ?_)
          · replace hM := zw_iff c17 hM
            refine zr_iconst (q := 107) (v := (0 : Int32)) g dX3_follow_106 rfl (by decide) ?_
            cases hM
            exact zr_zret g hr hlk (by decide) dX3_follow_107 rfl rfl
          · replace hM := zw_ift c17 hM
            refine zr_aload_n (q := 95) g 0 dX3_follow_94 rfl rfl rfl ?_
            refine zr_iload_n (q := 96) g 3 dX3_follow_95 rfl rfl rfl ?_
            obtain ⟨z18, q19, hM⟩ := zw_bd hM
            refine zr_callV (q := 99) (As := [.int x3]) (rest := []) (st' := [.int z18.1]) (i := t) g (R_X3_followDrop k_t ok hI q19) zv_X3_followDrop zl_X3_138 (hI _ (zb_sc0 k_t)) (zs_sc0 k_t) zc_X3.1 dX3_follow_96 rfl rfl ⟨Nat.le_of_ble_eq_true rfl, Nat.le_of_ble_eq_true rfl⟩ ⟨Nat.zero_le _, Nat.zero_le _⟩ (Nat.le_of_ble_eq_true rfl) rfl rfl ?_
            refine zr_if_eq (q := 102) (tgt := 106) g dX3_follow_99 rfl rfl (fun c20 => ?_) (fun c20 => ?_)
            · replace hM := zw_ift c20 hM
              refine zr_iconst (q := 107) (v := (0 : Int32)) g dX3_follow_106 rfl (by decide) ?_
              cases hM
              exact zr_zret g hr hlk (by decide) dX3_follow_107 rfl rfl
            · replace hM := zw_iff c20 hM
              refine zr_iconst (q := 103) (v := (1 : Int32)) g dX3_follow_102 rfl (by decide) ?_
              refine zr_goto (tgt := 107) g dX3_follow_103 rfl ?_
              cases hM
              exact zr_zret g hr hlk (by decide) dX3_follow_107 rfl rfl
        · replace hM := zw_iff c16 hM
          by_cases c21 : x1 = (4 : Int32)
          · replace hM := zw_ift c21 hM
            refine zr_tabIn (tgt := 108) (off := 107) g dX3_follow_1 c21 (by decide) rfl ?_
            refine zr_aload_n (q := 109) g 0 dX3_follow_108 rfl rfl rfl ?_
            refine zr_iload_n (q := 110) g 3 dX3_follow_109 rfl rfl rfl ?_
            obtain ⟨z22, q23, hM⟩ := zw_bd hM
            refine zr_callV (q := 113) (As := [.int x3]) (rest := []) (st' := [.int z22]) (i := t) g (R_X3_isHeld k_t ok hI q23) zv_X3_isHeld zl_X3_70 (hI _ (zb_sc0 k_t)) (zs_sc0 k_t) zc_X3.1 dX3_follow_110 rfl rfl ⟨Nat.le_of_ble_eq_true rfl, Nat.le_of_ble_eq_true rfl⟩ ⟨Nat.zero_le _, Nat.zero_le _⟩ (Nat.le_of_ble_eq_true rfl) rfl rfl ?_
            refine zr_if_eq (q := 116) (tgt := 130) g dX3_follow_113 rfl rfl (fun c24 => ?_) (fun c24 => ?_)
            · replace hM := zw_ift c24 hM
              refine zr_iconst (q := 131) (v := (0 : Int32)) g dX3_follow_130 rfl (by decide) ?_
              cases hM
              exact zr_zret g hr hlk (by decide) dX3_follow_131 rfl rfl
            · replace hM := zw_iff c24 hM
              refine zr_aload_n (q := 117) g 0 dX3_follow_116 rfl rfl rfl ?_
              refine zr_getr (q := 120) (k0 := 2) (j := (t + 2)) g (hI _ (zb_sc0 k_t)) (zs_sc0 k_t) rfl zf_X3_15 dX3_follow_117 rfl ?_
              refine zr_iload_n (q := 121) g 3 dX3_follow_120 rfl rfl rfl ?_
              obtain ⟨c25, hM⟩ := zw_gd hM
              refine zr_iald (q := 122) g (hI _ (zb_sc2 k_t)) (zs_sc2 k_t) c25 dX3_follow_121 rfl ?_
              refine zr_iload_n (q := 123) g 2 dX3_follow_122 rfl rfl rfl ?_
              refine zr_icmp_ne (q := 126) (tgt := 130) g dX3_follow_123 rfl rfl (fun c26 => ?_) (fun c26 => ?_)
              · replace hM := zw_iff c26 hM
                refine zr_iconst (q := 131) (v := (0 : Int32)) g dX3_follow_130 rfl (by decide) ?_
                cases hM
                exact zr_zret g hr hlk (by decide) dX3_follow_131 rfl rfl
              · replace hM := zw_ift c26 hM
                refine zr_iconst (q := 127) (v := (1 : Int32)) g dX3_follow_126 rfl (by decide) ?_
                refine zr_goto (tgt := 131) g dX3_follow_127 rfl ?_
                cases hM
                exact zr_zret g hr hlk (by decide) dX3_follow_131 rfl rfl
          · replace hM := zw_iff c21 hM
            by_cases c27 : x1 = (5 : Int32)
            · replace hM := zw_ift c27 hM
              refine zr_tabIn (tgt := 132) (off := 131) g dX3_follow_1 c27 (by decide) rfl ?_
              refine zr_aload_n (q := 133) g 0 dX3_follow_132 rfl rfl rfl ?_
              refine zr_iload_n (q := 134) g 2 dX3_follow_133 rfl rfl rfl ?_
              obtain ⟨z28, q29, hM⟩ := zw_bd hM
              refine zr_callV (q := 137) (As := [.int x2]) (rest := []) (st' := [.int z28]) (i := t) g (R_X3_isHeld k_t ok hI q29) zv_X3_isHeld zl_X3_70 (hI _ (zb_sc0 k_t)) (zs_sc0 k_t) zc_X3.1 dX3_follow_134 rfl rfl ⟨Nat.le_of_ble_eq_true rfl, Nat.le_of_ble_eq_true rfl⟩ ⟨Nat.zero_le _, Nat.zero_le _⟩ (Nat.le_of_ble_eq_true rfl) rfl rfl ?_
              refine zr_if_eq (q := 140) (tgt := 154) g dX3_follow_137 rfl rfl (fun c30 => ?_) (fun c30 => ?_)
              · replace hM := zw_ift c30 hM
                refine zr_iconst (q := 155) (v := (0 : Int32)) g dX3_follow_154 rfl (by decide) ?_
                cases hM
                exact zr_zret g hr hlk (by decide) dX3_follow_155 rfl rfl
              · replace hM := zw_iff c30 hM
                refine zr_aload_n (q := 141) g 0 dX3_follow_140 rfl rfl rfl ?_
                refine zr_getr (q := 144) (k0 := 3) (j := (t + 3)) g (hI _ (zb_sc0 k_t)) (zs_sc0 k_t) rfl zf_X3_18 dX3_follow_141 rfl ?_
                refine zr_iload_n (q := 145) g 2 dX3_follow_144 rfl rfl rfl ?_
                obtain ⟨c31, hM⟩ := zw_gd hM
                refine zr_iald (q := 146) g (hI _ (zb_sc3 k_t)) (zs_sc3 k_t) c31 dX3_follow_145 rfl ?_
                refine zr_iload_n (q := 147) g 3 dX3_follow_146 rfl rfl rfl ?_
                refine zr_icmp_lt (q := 150) (tgt := 154) g dX3_follow_147 rfl rfl (fun c32 => ?_) (fun c32 => ?_)
                · replace hM := zw_ift c32 hM
                  refine zr_iconst (q := 155) (v := (0 : Int32)) g dX3_follow_154 rfl (by decide) ?_
                  cases hM
                  exact zr_zret g hr hlk (by decide) dX3_follow_155 rfl rfl
                · replace hM := zw_iff c32 hM
                  refine zr_iconst (q := 151) (v := (1 : Int32)) g dX3_follow_150 rfl (by decide) ?_
                  refine zr_goto (tgt := 155) g dX3_follow_151 rfl ?_
                  cases hM
                  exact zr_zret g hr hlk (by decide) dX3_follow_155 rfl rfl
            · replace hM := zw_iff c27 hM
              by_cases c33 : x1 = (6 : Int32)
              · replace hM := zw_ift c33 hM
                refine zr_tabIn (tgt := 156) (off := 155) g dX3_follow_1 c33 (by decide) rfl ?_
                refine zr_aload_n (q := 157) g 0 dX3_follow_156 rfl rfl rfl ?_
                refine zr_geti (q := 160) (k0 := 6) g (hI _ (zb_sc0 k_t)) (zs_sc0 k_t) rfl zf_X3_44 dX3_follow_157 rfl ?_
                refine zr_bipush (q := 162) (v := (10 : Int32)) g dX3_follow_160 rfl (by decide) ?_
                refine zr_iload_n (q := 163) g 2 dX3_follow_162 rfl rfl rfl ?_
                refine zr_imul (q := 164) g dX3_follow_163 rfl ?_
                refine zr_iload_n (q := 165) g 3 dX3_follow_164 rfl rfl rfl ?_
                refine zr_iadd (q := 166) g dX3_follow_165 rfl ?_
                refine zr_icmp_gt (q := 169) (tgt := 173) g dX3_follow_166 rfl rfl (fun c34 => ?_) (fun c34 => ?_)
                · replace hM := zw_ift c34 hM
                  refine zr_iconst (q := 174) (v := (0 : Int32)) g dX3_follow_173 rfl (by decide) ?_
                  cases hM
                  exact zr_zret g hr hlk (by decide) dX3_follow_174 rfl rfl
                · replace hM := zw_iff c34 hM
                  refine zr_iconst (q := 170) (v := (1 : Int32)) g dX3_follow_169 rfl (by decide) ?_
                  refine zr_goto (tgt := 174) g dX3_follow_170 rfl ?_
                  cases hM
                  exact zr_zret g hr hlk (by decide) dX3_follow_174 rfl rfl
              · replace hM := zw_iff c33 hM
                have hx : (x1).toInt < 0 ∨ 6 < (x1).toInt := by
                    have := lv_neT (a := 0) c1 (by decide)
                    have := lv_neT (a := 1) c7 (by decide)
                    have := lv_neT (a := 2) c11 (by decide)
                    have := lv_neT (a := 3) c16 (by decide)
                    have := lv_neT (a := 4) c21 (by decide)
                    have := lv_neT (a := 5) c27 (by decide)
                    have := lv_neT (a := 6) c33 (by decide)
                    omega
                refine zr_tabOut (tgt := 175) g dX3_follow_1 hx rfl ?_
                refine zr_iconst (q := 176) (v := (0 : Int32)) g dX3_follow_175 rfl (by decide) ?_
                cases hM
                exact zr_zret g hr hlk (by decide) dX3_follow_176 rfl rfl
noncomputable def M_X5_hasRow (t : Nat) (x1 : Int32) (h : zw_Hp) : Option (Int32) :=
  if x1 < 0 then (some (0 : Int32)) else (if ((Int32.ofNat (zw_shl t)) / (21 : Int32)) ≤ x1 then (some (0 : Int32)) else (some (1 : Int32)))
set_option maxRecDepth 100000 in
set_option maxHeartbeats 4000000 in
theorem R_X5_hasRow {t : Nat} (k_t : t = 20 ∨ t = 22) (ok : zw_Ok E) (hI : ∀ i, i < 48 → i ∈ E.2.2.1) {x1 : Int32} {h : zw_Hp} {z : Int32} (hM : M_X5_hasRow t x1 h = some z) : zw_Ct l E mt_X5_hasRow [.ref (E.2.1 t), .int x1] h (some (.int z)) h := by
  unfold M_X5_hasRow at hM
  refine zw_ct (lv0 := [(0, .ref (E.2.1 t)), (1, .int x1)]) ok (by decide) rfl (Nat.le_of_ble_eq_true rfl) (fun p e s m args below meth c g hr hlk => ?_)
  replace g : zw_G p E (zw_A E) s m args c RX5 cX5_hasRow 2 := g
  show zw_V p l e s m args below meth c E mt_X5_hasRow 2 (some (.int z)) h 0 [(0, .ref (E.2.1 t)), (1, .int x1)] [] h
  refine zr_iload_n (q := 1) g 1 dX5_hasRow_0 rfl rfl rfl ?_
  refine zr_if_lt (q := 4) (tgt := 20) g dX5_hasRow_1 rfl rfl (fun c1 => ?_) (fun c1 => ?_)
  · replace hM := zw_ift c1 hM
    refine zr_iconst (q := 21) (v := (0 : Int32)) g dX5_hasRow_20 rfl (by decide) ?_
    cases hM
    exact zr_zret g hr hlk (by decide) dX5_hasRow_21 rfl rfl
  · replace hM := zw_iff c1 hM
    refine zr_iload_n (q := 5) g 1 dX5_hasRow_4 rfl rfl rfl ?_
    refine zr_aload_n (q := 6) g 0 dX5_hasRow_5 rfl rfl rfl ?_
    refine zr_getr (q := 9) (k0 := 0) (j := (t + 1)) g (hI _ (zb_sf0 k_t)) (zs_sf0 k_t) rfl zf_X5_11 dX5_hasRow_6 rfl ?_
    refine zr_alen (q := 10) (v := (Int32.ofNat (zw_shl t))) g (hI _ (zb_sf1 k_t)) (zs_sf1 k_t) rfl dX5_hasRow_9 rfl ?_
    refine zr_bipush (q := 12) (v := (21 : Int32)) g dX5_hasRow_10 rfl (by decide) ?_
    refine zr_idiv (q := 13) g dX5_hasRow_12 rfl (by decide) ?_
    refine zr_icmp_ge (q := 16) (tgt := 20) g dX5_hasRow_13 rfl rfl (fun c2 => ?_) (fun c2 => ?_)
    · replace hM := zw_ift c2 hM
      refine zr_iconst (q := 21) (v := (0 : Int32)) g dX5_hasRow_20 rfl (by decide) ?_
      cases hM
      exact zr_zret g hr hlk (by decide) dX5_hasRow_21 rfl rfl
    · replace hM := zw_iff c2 hM
      refine zr_iconst (q := 17) (v := (1 : Int32)) g dX5_hasRow_16 rfl (by decide) ?_
      refine zr_goto (tgt := 21) g dX5_hasRow_17 rfl ?_
      cases hM
      exact zr_zret g hr hlk (by decide) dX5_hasRow_21 rfl rfl
noncomputable def M_X5_store (t : Nat) (u : Nat) (x1 : Int32) (h : zw_Hp) : Option (zw_Hp) :=
  (M_X5_hasRow t x1 h).bind (fun z1 => if z1 = 0 then (some h) else (zw_nm (x1 * (21 : Int32)) (fun y4 => if ¬ (0 : Int32) < 0 ∧ ¬ y4 < 0 ∧ ¬ (5 : Int32) < 0 ∧ ((0 : Int32)).toNatClampNeg + ((5 : Int32)).toNatClampNeg ≤ 5 ∧ (y4).toNatClampNeg + ((5 : Int32)).toNatClampNeg ≤ (zw_shl t) then zw_nm (zw_upR h (t + 1) (va_cpy (h.1 (u + 1)) (h.1 (t + 1)) ((0 : Int32)).toNatClampNeg (y4).toNatClampNeg ((5 : Int32)).toNatClampNeg)) (fun h7 => if ¬ (0 : Int32) < 0 ∧ ¬ (y4 + (5 : Int32)) < 0 ∧ ¬ (4 : Int32) < 0 ∧ ((0 : Int32)).toNatClampNeg + ((4 : Int32)).toNatClampNeg ≤ 4 ∧ ((y4 + (5 : Int32))).toNatClampNeg + ((4 : Int32)).toNatClampNeg ≤ (zw_shl t) then zw_nm (zw_upR h7 (t + 1) (va_cpy (h7.1 (u + 2)) (h7.1 (t + 1)) ((0 : Int32)).toNatClampNeg ((y4 + (5 : Int32))).toNatClampNeg ((4 : Int32)).toNatClampNeg)) (fun h10 => if ¬ (0 : Int32) < 0 ∧ ¬ (y4 + (9 : Int32)) < 0 ∧ ¬ (4 : Int32) < 0 ∧ ((0 : Int32)).toNatClampNeg + ((4 : Int32)).toNatClampNeg ≤ 4 ∧ ((y4 + (9 : Int32))).toNatClampNeg + ((4 : Int32)).toNatClampNeg ≤ (zw_shl t) then zw_nm (zw_upR h10 (t + 1) (va_cpy (h10.1 (u + 3)) (h10.1 (t + 1)) ((0 : Int32)).toNatClampNeg ((y4 + (9 : Int32))).toNatClampNeg ((4 : Int32)).toNatClampNeg)) (fun h13 => if ¬ (0 : Int32) < 0 ∧ ¬ (y4 + (13 : Int32)) < 0 ∧ ¬ (4 : Int32) < 0 ∧ ((0 : Int32)).toNatClampNeg + ((4 : Int32)).toNatClampNeg ≤ 4 ∧ ((y4 + (13 : Int32))).toNatClampNeg + ((4 : Int32)).toNatClampNeg ≤ (zw_shl t) then zw_nm (zw_upR h13 (t + 1) (va_cpy (h13.1 (u + 4)) (h13.1 (t + 1)) ((0 : Int32)).toNatClampNeg ((y4 + (13 : Int32))).toNatClampNeg ((4 : Int32)).toNatClampNeg)) (fun h16 => if zw_ok (y4 + (17 : Int32)) (zw_shl t) = true then zw_nm (zw_up h16 (t + 1) ((y4 + (17 : Int32))).toNatClampNeg (h16.1 u 5)) (fun h19 => if zw_ok (y4 + (18 : Int32)) (zw_shl t) = true then zw_nm (zw_up h19 (t + 1) ((y4 + (18 : Int32))).toNatClampNeg (h19.1 u 6)) (fun h22 => if zw_ok (y4 + (19 : Int32)) (zw_shl t) = true then zw_nm (zw_up h22 (t + 1) ((y4 + (19 : Int32))).toNatClampNeg (h22.1 u 7)) (fun h25 => if zw_ok (y4 + (20 : Int32)) (zw_shl t) = true then zw_nm (zw_up h25 (t + 1) ((y4 + (20 : Int32))).toNatClampNeg (h25.1 u 8)) (fun h28 => some h28) else none) else none) else none) else none) else none) else none) else none) else none)))
set_option maxRecDepth 100000 in
set_option maxHeartbeats 4000000 in
theorem R_X5_store {t : Nat} {u : Nat} (k_t : t = 20 ∨ t = 22) (k_u : u = 9 ∨ u = 14) (ok : zw_Ok E) (hI : ∀ i, i < 48 → i ∈ E.2.2.1) {x1 : Int32} {h : zw_Hp} {z : zw_Hp} (hM : M_X5_store t u x1 h = some z) : zw_Ct l E mt_X5_store [.ref (E.2.1 t), .int x1, .ref (E.2.1 u)] h none z := by
  unfold M_X5_store at hM
  refine zw_ct (lv0 := [(0, .ref (E.2.1 t)), (1, .int x1), (2, .ref (E.2.1 u))]) ok (by decide) rfl (Nat.le_of_ble_eq_true rfl) (fun p e s m args below meth c g hr hlk => ?_)
  replace g : zw_G p E (zw_A E) s m args c RX5 cX5_store 4 := g
  show zw_V p l e s m args below meth c E mt_X5_store 4 none z 0 [(0, .ref (E.2.1 t)), (1, .int x1), (2, .ref (E.2.1 u))] [] h
  refine zr_aload_n (q := 1) g 0 dX5_store_0 rfl rfl rfl ?_
  refine zr_iload_n (q := 2) g 1 dX5_store_1 rfl rfl rfl ?_
  obtain ⟨z1, q2, hM⟩ := zw_bd hM
  refine zr_callV (q := 5) (As := [.int x1]) (rest := []) (st' := [.int z1]) (i := t) g (R_X5_hasRow k_t ok hI q2) zv_X5_hasRow zl_X5_15 (hI _ (zb_sf0 k_t)) (zs_sf0 k_t) zc_X5.1 dX5_store_2 rfl rfl ⟨Nat.le_of_ble_eq_true rfl, Nat.le_of_ble_eq_true rfl⟩ ⟨Nat.zero_le _, Nat.zero_le _⟩ (Nat.le_of_ble_eq_true rfl) rfl rfl ?_
  refine zr_if_ne (q := 8) (tgt := 9) g dX5_store_5 rfl rfl (fun c3 => ?_) (fun c3 => ?_)
  · replace hM := zw_iff c3 hM
    refine zr_iload_n (q := 10) g 1 dX5_store_9 rfl rfl rfl ?_
    refine zr_bipush (q := 12) (v := (21 : Int32)) g dX5_store_10 rfl (by decide) ?_
    refine zr_imul (q := 13) g dX5_store_12 rfl ?_
    obtain ⟨y4, e5, hM⟩ := zw_nm_ex hM
    refine zr_nmi e5 ?_
    refine zr_istore_n (q := 14) (lv' := [(3, .int y4), (0, .ref (E.2.1 t)), (1, .int x1), (2, .ref (E.2.1 u))]) g dX5_store_13 rfl rfl (by decide) rfl ?_
    refine zr_aload_n (q := 15) g 3 dX5_store_14 rfl rfl rfl ?_
    refine zr_getr (q := 18) (k0 := 1) (j := (u + 1)) g (hI _ (zb_sc0 k_u)) (zs_sc0 k_u) rfl zf_X5_19 dX5_store_15 rfl ?_
    refine zr_iconst (q := 19) (v := (0 : Int32)) g dX5_store_18 rfl (by decide) ?_
    refine zr_aload_n (q := 20) g 1 dX5_store_19 rfl rfl rfl ?_
    refine zr_getr (q := 23) (k0 := 0) (j := (t + 1)) g (hI _ (zb_sf0 k_t)) (zs_sf0 k_t) rfl zf_X5_11 dX5_store_20 rfl ?_
    refine zr_iload_n (q := 24) g 0 dX5_store_23 rfl rfl rfl ?_
    refine zr_iconst (q := 25) (v := (5 : Int32)) g dX5_store_24 rfl (by decide) ?_
    obtain ⟨c6, hM⟩ := zw_gp hM
    obtain ⟨h7, e8, hM⟩ := zw_nm_ex hM
    refine zr_copy (q := 28) (h' := h7) g (hI _ (zb_sc1 k_u)) (zs_sc1 k_u) (hI _ (zb_sf1 k_t)) (zs_sf1 k_t) zl_X5_24 zl_copy c6 ⟨Nat.le_of_ble_eq_true rfl, Nat.le_of_ble_eq_true rfl⟩ (Nat.le_of_ble_eq_true rfl) dX5_store_25 rfl e8 ?_
    refine zr_aload_n (q := 29) g 3 dX5_store_28 rfl rfl rfl ?_
    refine zr_getr (q := 32) (k0 := 2) (j := (u + 2)) g (hI _ (zb_sc0 k_u)) (zs_sc0 k_u) rfl zf_X5_30 dX5_store_29 rfl ?_
    refine zr_iconst (q := 33) (v := (0 : Int32)) g dX5_store_32 rfl (by decide) ?_
    refine zr_aload_n (q := 34) g 1 dX5_store_33 rfl rfl rfl ?_
    refine zr_getr (q := 37) (k0 := 0) (j := (t + 1)) g (hI _ (zb_sf0 k_t)) (zs_sf0 k_t) rfl zf_X5_11 dX5_store_34 rfl ?_
    refine zr_iload_n (q := 38) g 0 dX5_store_37 rfl rfl rfl ?_
    refine zr_iconst (q := 39) (v := (5 : Int32)) g dX5_store_38 rfl (by decide) ?_
    refine zr_iadd (q := 40) g dX5_store_39 rfl ?_
    refine zr_iconst (q := 41) (v := (4 : Int32)) g dX5_store_40 rfl (by decide) ?_
    obtain ⟨c9, hM⟩ := zw_gp hM
    obtain ⟨h10, e11, hM⟩ := zw_nm_ex hM
    refine zr_copy (q := 44) (h' := h10) g (hI _ (zb_sc2 k_u)) (zs_sc2 k_u) (hI _ (zb_sf1 k_t)) (zs_sf1 k_t) zl_X5_24 zl_copy c9 ⟨Nat.le_of_ble_eq_true rfl, Nat.le_of_ble_eq_true rfl⟩ (Nat.le_of_ble_eq_true rfl) dX5_store_41 rfl e11 ?_
    refine zr_aload_n (q := 45) g 3 dX5_store_44 rfl rfl rfl ?_
    refine zr_getr (q := 48) (k0 := 3) (j := (u + 3)) g (hI _ (zb_sc0 k_u)) (zs_sc0 k_u) rfl zf_X5_33 dX5_store_45 rfl ?_
    refine zr_iconst (q := 49) (v := (0 : Int32)) g dX5_store_48 rfl (by decide) ?_
    refine zr_aload_n (q := 50) g 1 dX5_store_49 rfl rfl rfl ?_
    refine zr_getr (q := 53) (k0 := 0) (j := (t + 1)) g (hI _ (zb_sf0 k_t)) (zs_sf0 k_t) rfl zf_X5_11 dX5_store_50 rfl ?_
    refine zr_iload_n (q := 54) g 0 dX5_store_53 rfl rfl rfl ?_
    refine zr_bipush (q := 56) (v := (9 : Int32)) g dX5_store_54 rfl (by decide) ?_
    refine zr_iadd (q := 57) g dX5_store_56 rfl ?_
    refine zr_iconst (q := 58) (v := (4 : Int32)) g dX5_store_57 rfl (by decide) ?_
    obtain ⟨c12, hM⟩ := zw_gp hM
    obtain ⟨h13, e14, hM⟩ := zw_nm_ex hM
    refine zr_copy (q := 61) (h' := h13) g (hI _ (zb_sc3 k_u)) (zs_sc3 k_u) (hI _ (zb_sf1 k_t)) (zs_sf1 k_t) zl_X5_24 zl_copy c12 ⟨Nat.le_of_ble_eq_true rfl, Nat.le_of_ble_eq_true rfl⟩ (Nat.le_of_ble_eq_true rfl) dX5_store_58 rfl e14 ?_
    refine zr_aload_n (q := 62) g 3 dX5_store_61 rfl rfl rfl ?_
    refine zr_getr (q := 65) (k0 := 4) (j := (u + 4)) g (hI _ (zb_sc0 k_u)) (zs_sc0 k_u) rfl zf_X5_36 dX5_store_62 rfl ?_
    refine zr_iconst (q := 66) (v := (0 : Int32)) g dX5_store_65 rfl (by decide) ?_
    refine zr_aload_n (q := 67) g 1 dX5_store_66 rfl rfl rfl ?_
    refine zr_getr (q := 70) (k0 := 0) (j := (t + 1)) g (hI _ (zb_sf0 k_t)) (zs_sf0 k_t) rfl zf_X5_11 dX5_store_67 rfl ?_
    refine zr_iload_n (q := 71) g 0 dX5_store_70 rfl rfl rfl ?_
    refine zr_bipush (q := 73) (v := (13 : Int32)) g dX5_store_71 rfl (by decide) ?_
    refine zr_iadd (q := 74) g dX5_store_73 rfl ?_
    refine zr_iconst (q := 75) (v := (4 : Int32)) g dX5_store_74 rfl (by decide) ?_
    obtain ⟨c15, hM⟩ := zw_gp hM
    obtain ⟨h16, e17, hM⟩ := zw_nm_ex hM
    refine zr_copy (q := 78) (h' := h16) g (hI _ (zb_sc4 k_u)) (zs_sc4 k_u) (hI _ (zb_sf1 k_t)) (zs_sf1 k_t) zl_X5_24 zl_copy c15 ⟨Nat.le_of_ble_eq_true rfl, Nat.le_of_ble_eq_true rfl⟩ (Nat.le_of_ble_eq_true rfl) dX5_store_75 rfl e17 ?_
    refine zr_aload_n (q := 79) g 1 dX5_store_78 rfl rfl rfl ?_
    refine zr_getr (q := 82) (k0 := 0) (j := (t + 1)) g (hI _ (zb_sf0 k_t)) (zs_sf0 k_t) rfl zf_X5_11 dX5_store_79 rfl ?_
    refine zr_iload_n (q := 83) g 0 dX5_store_82 rfl rfl rfl ?_
    refine zr_bipush (q := 85) (v := (17 : Int32)) g dX5_store_83 rfl (by decide) ?_
    refine zr_iadd (q := 86) g dX5_store_85 rfl ?_
    refine zr_aload_n (q := 87) g 3 dX5_store_86 rfl rfl rfl ?_
    refine zr_geti (q := 90) (k0 := 5) g (hI _ (zb_sc0 k_u)) (zs_sc0 k_u) rfl zf_X5_39 dX5_store_87 rfl ?_
    obtain ⟨c18, hM⟩ := zw_gd hM
    obtain ⟨h19, e20, hM⟩ := zw_nm_ex hM
    refine zr_iast (q := 91) (h' := h19) g (hI _ (zb_sf1 k_t)) (zs_sf1 k_t) c18 dX5_store_90 rfl e20 ?_
    refine zr_aload_n (q := 92) g 1 dX5_store_91 rfl rfl rfl ?_
    refine zr_getr (q := 95) (k0 := 0) (j := (t + 1)) g (hI _ (zb_sf0 k_t)) (zs_sf0 k_t) rfl zf_X5_11 dX5_store_92 rfl ?_
    refine zr_iload_n (q := 96) g 0 dX5_store_95 rfl rfl rfl ?_
    refine zr_bipush (q := 98) (v := (18 : Int32)) g dX5_store_96 rfl (by decide) ?_
    refine zr_iadd (q := 99) g dX5_store_98 rfl ?_
    refine zr_aload_n (q := 100) g 3 dX5_store_99 rfl rfl rfl ?_
    refine zr_geti (q := 103) (k0 := 6) g (hI _ (zb_sc0 k_u)) (zs_sc0 k_u) rfl zf_X5_43 dX5_store_100 rfl ?_
    obtain ⟨c21, hM⟩ := zw_gd hM
    obtain ⟨h22, e23, hM⟩ := zw_nm_ex hM
    refine zr_iast (q := 104) (h' := h22) g (hI _ (zb_sf1 k_t)) (zs_sf1 k_t) c21 dX5_store_103 rfl e23 ?_
    refine zr_aload_n (q := 105) g 1 dX5_store_104 rfl rfl rfl ?_
    refine zr_getr (q := 108) (k0 := 0) (j := (t + 1)) g (hI _ (zb_sf0 k_t)) (zs_sf0 k_t) rfl zf_X5_11 dX5_store_105 rfl ?_
    refine zr_iload_n (q := 109) g 0 dX5_store_108 rfl rfl rfl ?_
    refine zr_bipush (q := 111) (v := (19 : Int32)) g dX5_store_109 rfl (by decide) ?_
    refine zr_iadd (q := 112) g dX5_store_111 rfl ?_
    refine zr_aload_n (q := 113) g 3 dX5_store_112 rfl rfl rfl ?_
    refine zr_geti (q := 116) (k0 := 7) g (hI _ (zb_sc0 k_u)) (zs_sc0 k_u) rfl zf_X5_46 dX5_store_113 rfl ?_
    obtain ⟨c24, hM⟩ := zw_gd hM
    obtain ⟨h25, e26, hM⟩ := zw_nm_ex hM
    refine zr_iast (q := 117) (h' := h25) g (hI _ (zb_sf1 k_t)) (zs_sf1 k_t) c24 dX5_store_116 rfl e26 ?_
    refine zr_aload_n (q := 118) g 1 dX5_store_117 rfl rfl rfl ?_
    refine zr_getr (q := 121) (k0 := 0) (j := (t + 1)) g (hI _ (zb_sf0 k_t)) (zs_sf0 k_t) rfl zf_X5_11 dX5_store_118 rfl ?_
    refine zr_iload_n (q := 122) g 0 dX5_store_121 rfl rfl rfl ?_
    refine zr_bipush (q := 124) (v := (20 : Int32)) g dX5_store_122 rfl (by decide) ?_
    refine zr_iadd (q := 125) g dX5_store_124 rfl ?_
    refine zr_aload_n (q := 126) g 3 dX5_store_125 rfl rfl rfl ?_
    refine zr_geti (q := 129) (k0 := 8) g (hI _ (zb_sc0 k_u)) (zs_sc0 k_u) rfl zf_X5_49 dX5_store_126 rfl ?_
    obtain ⟨c27, hM⟩ := zw_gd hM
    obtain ⟨h28, e29, hM⟩ := zw_nm_ex hM
    refine zr_iast (q := 130) (h' := h28) g (hI _ (zb_sf1 k_t)) (zs_sf1 k_t) c27 dX5_store_129 rfl e29 ?_
    cases hM
    exact zr_vret g hr hlk dX5_store_130 rfl rfl
  · replace hM := zw_ift c3 hM
    cases hM
    exact zr_vret g hr hlk dX5_store_8 rfl rfl
noncomputable def M_X5_fetch (t : Nat) (u : Nat) (x1 : Int32) (h : zw_Hp) : Option (zw_Hp) :=
  (M_X5_hasRow t x1 h).bind (fun z1 => if z1 = 0 then (some h) else (zw_nm (x1 * (21 : Int32)) (fun y4 => if ¬ y4 < 0 ∧ ¬ (0 : Int32) < 0 ∧ ¬ (5 : Int32) < 0 ∧ (y4).toNatClampNeg + ((5 : Int32)).toNatClampNeg ≤ (zw_shl t) ∧ ((0 : Int32)).toNatClampNeg + ((5 : Int32)).toNatClampNeg ≤ 5 then zw_nm (zw_upR h (u + 1) (va_cpy (h.1 (t + 1)) (h.1 (u + 1)) (y4).toNatClampNeg ((0 : Int32)).toNatClampNeg ((5 : Int32)).toNatClampNeg)) (fun h7 => if ¬ (y4 + (5 : Int32)) < 0 ∧ ¬ (0 : Int32) < 0 ∧ ¬ (4 : Int32) < 0 ∧ ((y4 + (5 : Int32))).toNatClampNeg + ((4 : Int32)).toNatClampNeg ≤ (zw_shl t) ∧ ((0 : Int32)).toNatClampNeg + ((4 : Int32)).toNatClampNeg ≤ 4 then zw_nm (zw_upR h7 (u + 2) (va_cpy (h7.1 (t + 1)) (h7.1 (u + 2)) ((y4 + (5 : Int32))).toNatClampNeg ((0 : Int32)).toNatClampNeg ((4 : Int32)).toNatClampNeg)) (fun h10 => if ¬ (y4 + (9 : Int32)) < 0 ∧ ¬ (0 : Int32) < 0 ∧ ¬ (4 : Int32) < 0 ∧ ((y4 + (9 : Int32))).toNatClampNeg + ((4 : Int32)).toNatClampNeg ≤ (zw_shl t) ∧ ((0 : Int32)).toNatClampNeg + ((4 : Int32)).toNatClampNeg ≤ 4 then zw_nm (zw_upR h10 (u + 3) (va_cpy (h10.1 (t + 1)) (h10.1 (u + 3)) ((y4 + (9 : Int32))).toNatClampNeg ((0 : Int32)).toNatClampNeg ((4 : Int32)).toNatClampNeg)) (fun h13 => if ¬ (y4 + (13 : Int32)) < 0 ∧ ¬ (0 : Int32) < 0 ∧ ¬ (4 : Int32) < 0 ∧ ((y4 + (13 : Int32))).toNatClampNeg + ((4 : Int32)).toNatClampNeg ≤ (zw_shl t) ∧ ((0 : Int32)).toNatClampNeg + ((4 : Int32)).toNatClampNeg ≤ 4 then zw_nm (zw_upR h13 (u + 4) (va_cpy (h13.1 (t + 1)) (h13.1 (u + 4)) ((y4 + (13 : Int32))).toNatClampNeg ((0 : Int32)).toNatClampNeg ((4 : Int32)).toNatClampNeg)) (fun h16 => if zw_ok (y4 + (17 : Int32)) (zw_shl t) = true then (zw_nm (zw_up h16 u 5 (h16.1 (t + 1) ((y4 + (17 : Int32))).toNatClampNeg)) (fun h19 => if zw_ok (y4 + (18 : Int32)) (zw_shl t) = true then (zw_nm (zw_up h19 u 6 (h19.1 (t + 1) ((y4 + (18 : Int32))).toNatClampNeg)) (fun h22 => if zw_ok (y4 + (19 : Int32)) (zw_shl t) = true then (zw_nm (zw_up h22 u 7 (h22.1 (t + 1) ((y4 + (19 : Int32))).toNatClampNeg)) (fun h25 => if zw_ok (y4 + (20 : Int32)) (zw_shl t) = true then (zw_nm (zw_up h25 u 8 (h25.1 (t + 1) ((y4 + (20 : Int32))).toNatClampNeg)) (fun h28 => some h28)) else none)) else none)) else none)) else none) else none) else none) else none) else none)))
set_option maxRecDepth 100000 in
set_option maxHeartbeats 4000000 in
theorem R_X5_fetch {t : Nat} {u : Nat} (k_t : t = 20 ∨ t = 22) (k_u : u = 9 ∨ u = 14) (ok : zw_Ok E) (hI : ∀ i, i < 48 → i ∈ E.2.2.1) {x1 : Int32} {h : zw_Hp} {z : zw_Hp} (hM : M_X5_fetch t u x1 h = some z) : zw_Ct l E mt_X5_fetch [.ref (E.2.1 t), .int x1, .ref (E.2.1 u)] h none z := by
  unfold M_X5_fetch at hM
  refine zw_ct (lv0 := [(0, .ref (E.2.1 t)), (1, .int x1), (2, .ref (E.2.1 u))]) ok (by decide) rfl (Nat.le_of_ble_eq_true rfl) (fun p e s m args below meth c g hr hlk => ?_)
  replace g : zw_G p E (zw_A E) s m args c RX5 cX5_fetch 4 := g
  show zw_V p l e s m args below meth c E mt_X5_fetch 4 none z 0 [(0, .ref (E.2.1 t)), (1, .int x1), (2, .ref (E.2.1 u))] [] h
  refine zr_aload_n (q := 1) g 0 dX5_fetch_0 rfl rfl rfl ?_
  refine zr_iload_n (q := 2) g 1 dX5_fetch_1 rfl rfl rfl ?_
  obtain ⟨z1, q2, hM⟩ := zw_bd hM
  refine zr_callV (q := 5) (As := [.int x1]) (rest := []) (st' := [.int z1]) (i := t) g (R_X5_hasRow k_t ok hI q2) zv_X5_hasRow zl_X5_15 (hI _ (zb_sf0 k_t)) (zs_sf0 k_t) zc_X5.1 dX5_fetch_2 rfl rfl ⟨Nat.le_of_ble_eq_true rfl, Nat.le_of_ble_eq_true rfl⟩ ⟨Nat.zero_le _, Nat.zero_le _⟩ (Nat.le_of_ble_eq_true rfl) rfl rfl ?_
  refine zr_if_ne (q := 8) (tgt := 9) g dX5_fetch_5 rfl rfl (fun c3 => ?_) (fun c3 => ?_)
  · replace hM := zw_iff c3 hM
    refine zr_iload_n (q := 10) g 1 dX5_fetch_9 rfl rfl rfl ?_
    refine zr_bipush (q := 12) (v := (21 : Int32)) g dX5_fetch_10 rfl (by decide) ?_
    refine zr_imul (q := 13) g dX5_fetch_12 rfl ?_
    obtain ⟨y4, e5, hM⟩ := zw_nm_ex hM
    refine zr_nmi e5 ?_
    refine zr_istore_n (q := 14) (lv' := [(3, .int y4), (0, .ref (E.2.1 t)), (1, .int x1), (2, .ref (E.2.1 u))]) g dX5_fetch_13 rfl rfl (by decide) rfl ?_
    refine zr_aload_n (q := 15) g 1 dX5_fetch_14 rfl rfl rfl ?_
    refine zr_getr (q := 18) (k0 := 0) (j := (t + 1)) g (hI _ (zb_sf0 k_t)) (zs_sf0 k_t) rfl zf_X5_11 dX5_fetch_15 rfl ?_
    refine zr_iload_n (q := 19) g 0 dX5_fetch_18 rfl rfl rfl ?_
    refine zr_aload_n (q := 20) g 3 dX5_fetch_19 rfl rfl rfl ?_
    refine zr_getr (q := 23) (k0 := 1) (j := (u + 1)) g (hI _ (zb_sc0 k_u)) (zs_sc0 k_u) rfl zf_X5_19 dX5_fetch_20 rfl ?_
    refine zr_iconst (q := 24) (v := (0 : Int32)) g dX5_fetch_23 rfl (by decide) ?_
    refine zr_iconst (q := 25) (v := (5 : Int32)) g dX5_fetch_24 rfl (by decide) ?_
    obtain ⟨c6, hM⟩ := zw_gp hM
    obtain ⟨h7, e8, hM⟩ := zw_nm_ex hM
    refine zr_copy (q := 28) (h' := h7) g (hI _ (zb_sf1 k_t)) (zs_sf1 k_t) (hI _ (zb_sc1 k_u)) (zs_sc1 k_u) zl_X5_24 zl_copy c6 ⟨Nat.le_of_ble_eq_true rfl, Nat.le_of_ble_eq_true rfl⟩ (Nat.le_of_ble_eq_true rfl) dX5_fetch_25 rfl e8 ?_
    refine zr_aload_n (q := 29) g 1 dX5_fetch_28 rfl rfl rfl ?_
    refine zr_getr (q := 32) (k0 := 0) (j := (t + 1)) g (hI _ (zb_sf0 k_t)) (zs_sf0 k_t) rfl zf_X5_11 dX5_fetch_29 rfl ?_
    refine zr_iload_n (q := 33) g 0 dX5_fetch_32 rfl rfl rfl ?_
    refine zr_iconst (q := 34) (v := (5 : Int32)) g dX5_fetch_33 rfl (by decide) ?_
    refine zr_iadd (q := 35) g dX5_fetch_34 rfl ?_
    refine zr_aload_n (q := 36) g 3 dX5_fetch_35 rfl rfl rfl ?_
    refine zr_getr (q := 39) (k0 := 2) (j := (u + 2)) g (hI _ (zb_sc0 k_u)) (zs_sc0 k_u) rfl zf_X5_30 dX5_fetch_36 rfl ?_
    refine zr_iconst (q := 40) (v := (0 : Int32)) g dX5_fetch_39 rfl (by decide) ?_
    refine zr_iconst (q := 41) (v := (4 : Int32)) g dX5_fetch_40 rfl (by decide) ?_
    obtain ⟨c9, hM⟩ := zw_gp hM
    obtain ⟨h10, e11, hM⟩ := zw_nm_ex hM
    refine zr_copy (q := 44) (h' := h10) g (hI _ (zb_sf1 k_t)) (zs_sf1 k_t) (hI _ (zb_sc2 k_u)) (zs_sc2 k_u) zl_X5_24 zl_copy c9 ⟨Nat.le_of_ble_eq_true rfl, Nat.le_of_ble_eq_true rfl⟩ (Nat.le_of_ble_eq_true rfl) dX5_fetch_41 rfl e11 ?_
    refine zr_aload_n (q := 45) g 1 dX5_fetch_44 rfl rfl rfl ?_
    refine zr_getr (q := 48) (k0 := 0) (j := (t + 1)) g (hI _ (zb_sf0 k_t)) (zs_sf0 k_t) rfl zf_X5_11 dX5_fetch_45 rfl ?_
    refine zr_iload_n (q := 49) g 0 dX5_fetch_48 rfl rfl rfl ?_
    refine zr_bipush (q := 51) (v := (9 : Int32)) g dX5_fetch_49 rfl (by decide) ?_
    refine zr_iadd (q := 52) g dX5_fetch_51 rfl ?_
    refine zr_aload_n (q := 53) g 3 dX5_fetch_52 rfl rfl rfl ?_
    refine zr_getr (q := 56) (k0 := 3) (j := (u + 3)) g (hI _ (zb_sc0 k_u)) (zs_sc0 k_u) rfl zf_X5_33 dX5_fetch_53 rfl ?_
    refine zr_iconst (q := 57) (v := (0 : Int32)) g dX5_fetch_56 rfl (by decide) ?_
    refine zr_iconst (q := 58) (v := (4 : Int32)) g dX5_fetch_57 rfl (by decide) ?_
    obtain ⟨c12, hM⟩ := zw_gp hM
    obtain ⟨h13, e14, hM⟩ := zw_nm_ex hM
    refine zr_copy (q := 61) (h' := h13) g (hI _ (zb_sf1 k_t)) (zs_sf1 k_t) (hI _ (zb_sc3 k_u)) (zs_sc3 k_u) zl_X5_24 zl_copy c12 ⟨Nat.le_of_ble_eq_true rfl, Nat.le_of_ble_eq_true rfl⟩ (Nat.le_of_ble_eq_true rfl) dX5_fetch_58 rfl e14 ?_
    refine zr_aload_n (q := 62) g 1 dX5_fetch_61 rfl rfl rfl ?_
    refine zr_getr (q := 65) (k0 := 0) (j := (t + 1)) g (hI _ (zb_sf0 k_t)) (zs_sf0 k_t) rfl zf_X5_11 dX5_fetch_62 rfl ?_
    refine zr_iload_n (q := 66) g 0 dX5_fetch_65 rfl rfl rfl ?_
    refine zr_bipush (q := 68) (v := (13 : Int32)) g dX5_fetch_66 rfl (by decide) ?_
    refine zr_iadd (q := 69) g dX5_fetch_68 rfl ?_
    refine zr_aload_n (q := 70) g 3 dX5_fetch_69 rfl rfl rfl ?_
    refine zr_getr (q := 73) (k0 := 4) (j := (u + 4)) g (hI _ (zb_sc0 k_u)) (zs_sc0 k_u) rfl zf_X5_36 dX5_fetch_70 rfl ?_
    refine zr_iconst (q := 74) (v := (0 : Int32)) g dX5_fetch_73 rfl (by decide) ?_
    refine zr_iconst (q := 75) (v := (4 : Int32)) g dX5_fetch_74 rfl (by decide) ?_
    obtain ⟨c15, hM⟩ := zw_gp hM
    obtain ⟨h16, e17, hM⟩ := zw_nm_ex hM
    refine zr_copy (q := 78) (h' := h16) g (hI _ (zb_sf1 k_t)) (zs_sf1 k_t) (hI _ (zb_sc4 k_u)) (zs_sc4 k_u) zl_X5_24 zl_copy c15 ⟨Nat.le_of_ble_eq_true rfl, Nat.le_of_ble_eq_true rfl⟩ (Nat.le_of_ble_eq_true rfl) dX5_fetch_75 rfl e17 ?_
    refine zr_aload_n (q := 79) g 3 dX5_fetch_78 rfl rfl rfl ?_
    refine zr_aload_n (q := 80) g 1 dX5_fetch_79 rfl rfl rfl ?_
    refine zr_getr (q := 83) (k0 := 0) (j := (t + 1)) g (hI _ (zb_sf0 k_t)) (zs_sf0 k_t) rfl zf_X5_11 dX5_fetch_80 rfl ?_
    refine zr_iload_n (q := 84) g 0 dX5_fetch_83 rfl rfl rfl ?_
    refine zr_bipush (q := 86) (v := (17 : Int32)) g dX5_fetch_84 rfl (by decide) ?_
    refine zr_iadd (q := 87) g dX5_fetch_86 rfl ?_
    obtain ⟨c18, hM⟩ := zw_gd hM
    refine zr_iald (q := 88) g (hI _ (zb_sf1 k_t)) (zs_sf1 k_t) c18 dX5_fetch_87 rfl ?_
    obtain ⟨h19, e20, hM⟩ := zw_nm_ex hM
    refine zr_puti (q := 91) (k0 := 5) (h' := h19) g (hI _ (zb_sc0 k_u)) (zs_sc0 k_u) rfl zp_X5_39 dX5_fetch_88 rfl e20 ?_
    refine zr_aload_n (q := 92) g 3 dX5_fetch_91 rfl rfl rfl ?_
    refine zr_aload_n (q := 93) g 1 dX5_fetch_92 rfl rfl rfl ?_
    refine zr_getr (q := 96) (k0 := 0) (j := (t + 1)) g (hI _ (zb_sf0 k_t)) (zs_sf0 k_t) rfl zf_X5_11 dX5_fetch_93 rfl ?_
    refine zr_iload_n (q := 97) g 0 dX5_fetch_96 rfl rfl rfl ?_
    refine zr_bipush (q := 99) (v := (18 : Int32)) g dX5_fetch_97 rfl (by decide) ?_
    refine zr_iadd (q := 100) g dX5_fetch_99 rfl ?_
    obtain ⟨c21, hM⟩ := zw_gd hM
    refine zr_iald (q := 101) g (hI _ (zb_sf1 k_t)) (zs_sf1 k_t) c21 dX5_fetch_100 rfl ?_
    obtain ⟨h22, e23, hM⟩ := zw_nm_ex hM
    refine zr_puti (q := 104) (k0 := 6) (h' := h22) g (hI _ (zb_sc0 k_u)) (zs_sc0 k_u) rfl zp_X5_43 dX5_fetch_101 rfl e23 ?_
    refine zr_aload_n (q := 105) g 3 dX5_fetch_104 rfl rfl rfl ?_
    refine zr_aload_n (q := 106) g 1 dX5_fetch_105 rfl rfl rfl ?_
    refine zr_getr (q := 109) (k0 := 0) (j := (t + 1)) g (hI _ (zb_sf0 k_t)) (zs_sf0 k_t) rfl zf_X5_11 dX5_fetch_106 rfl ?_
    refine zr_iload_n (q := 110) g 0 dX5_fetch_109 rfl rfl rfl ?_
    refine zr_bipush (q := 112) (v := (19 : Int32)) g dX5_fetch_110 rfl (by decide) ?_
    refine zr_iadd (q := 113) g dX5_fetch_112 rfl ?_
    obtain ⟨c24, hM⟩ := zw_gd hM
    refine zr_iald (q := 114) g (hI _ (zb_sf1 k_t)) (zs_sf1 k_t) c24 dX5_fetch_113 rfl ?_
    obtain ⟨h25, e26, hM⟩ := zw_nm_ex hM
    refine zr_puti (q := 117) (k0 := 7) (h' := h25) g (hI _ (zb_sc0 k_u)) (zs_sc0 k_u) rfl zp_X5_46 dX5_fetch_114 rfl e26 ?_
    refine zr_aload_n (q := 118) g 3 dX5_fetch_117 rfl rfl rfl ?_
    refine zr_aload_n (q := 119) g 1 dX5_fetch_118 rfl rfl rfl ?_
    refine zr_getr (q := 122) (k0 := 0) (j := (t + 1)) g (hI _ (zb_sf0 k_t)) (zs_sf0 k_t) rfl zf_X5_11 dX5_fetch_119 rfl ?_
    refine zr_iload_n (q := 123) g 0 dX5_fetch_122 rfl rfl rfl ?_
    refine zr_bipush (q := 125) (v := (20 : Int32)) g dX5_fetch_123 rfl (by decide) ?_
    refine zr_iadd (q := 126) g dX5_fetch_125 rfl ?_
    obtain ⟨c27, hM⟩ := zw_gd hM
    refine zr_iald (q := 127) g (hI _ (zb_sf1 k_t)) (zs_sf1 k_t) c27 dX5_fetch_126 rfl ?_
    obtain ⟨h28, e29, hM⟩ := zw_nm_ex hM
    refine zr_puti (q := 130) (k0 := 8) (h' := h28) g (hI _ (zb_sc0 k_u)) (zs_sc0 k_u) rfl zp_X5_49 dX5_fetch_127 rfl e29 ?_
    cases hM
    exact zr_vret g hr hlk dX5_fetch_130 rfl rfl
  · replace hM := zw_ift c3 hM
    cases hM
    exact zr_vret g hr hlk dX5_fetch_8 rfl rfl
noncomputable def M_X0_clear (h : zw_Hp) : Option (zw_Hp) :=
  zw_nm (zw_up h 19 1 (0 : Int32)) (fun h1 => zw_nm (zw_up h1 19 2 (0 : Int32)) (fun h3 => some h3))
set_option maxRecDepth 100000 in
set_option maxHeartbeats 4000000 in
theorem R_X0_clear (ok : zw_Ok E) (hI : ∀ i, i < 48 → i ∈ E.2.2.1) {h : zw_Hp} {z : zw_Hp} (hM : M_X0_clear h = some z) : zw_Ct l E mt_X0_clear [.ref (E.2.1 19)] h none z := by
  unfold M_X0_clear at hM
  refine zw_ct (lv0 := [(0, .ref (E.2.1 19))]) ok (by decide) rfl (Nat.le_of_ble_eq_true rfl) (fun p e s m args below meth c g hr hlk => ?_)
  replace g : zw_G p E (zw_A E) s m args c RX0 cX0_clear 1 := g
  show zw_V p l e s m args below meth c E mt_X0_clear 1 none z 0 [(0, .ref (E.2.1 19))] [] h
  refine zr_aload_n (q := 1) g 0 dX0_clear_0 rfl rfl rfl ?_
  refine zr_iconst (q := 2) (v := (0 : Int32)) g dX0_clear_1 rfl (by decide) ?_
  obtain ⟨h1, e2, hM⟩ := zw_nm_ex hM
  refine zr_puti (q := 5) (k0 := 1) (h' := h1) g (hI 19 (by decide)) zs_19 rfl zp_X0_20 dX0_clear_2 rfl e2 ?_
  refine zr_aload_n (q := 6) g 0 dX0_clear_5 rfl rfl rfl ?_
  refine zr_iconst (q := 7) (v := (0 : Int32)) g dX0_clear_6 rfl (by decide) ?_
  obtain ⟨h3, e4, hM⟩ := zw_nm_ex hM
  refine zr_puti (q := 10) (k0 := 2) (h' := h3) g (hI 19 (by decide)) zs_19 rfl zp_X0_24 dX0_clear_7 rfl e4 ?_
  cases hM
  exact zr_vret g hr hlk dX0_clear_10 rfl rfl
noncomputable def M_X0_remember (u : Nat) (h : zw_Hp) : Option (zw_Hp) :=
  (M_X5_store 20 u (((h.1 19 1) + (h.1 19 2)) - ((h.1 19 1) + (h.1 19 2)) / (14 : Int32) * (14 : Int32)) h).bind (fun z1 => if (14 : Int32) ≤ (z1.1 19 2) then (zw_nm (zw_up z1 19 1 (((z1.1 19 1) + (1 : Int32)) - ((z1.1 19 1) + (1 : Int32)) / (14 : Int32) * (14 : Int32))) (fun h4 => some h4)) else (zw_nm (zw_up z1 19 2 ((z1.1 19 2) + (1 : Int32))) (fun h6 => some h6)))
set_option maxRecDepth 100000 in
set_option maxHeartbeats 4000000 in
theorem R_X0_remember {u : Nat} (k_u : u = 9 ∨ u = 14) (ok : zw_Ok E) (hI : ∀ i, i < 48 → i ∈ E.2.2.1) {h : zw_Hp} {z : zw_Hp} (hM : M_X0_remember u h = some z) : zw_Ct l E mt_X0_remember [.ref (E.2.1 19), .ref (E.2.1 u)] h none z := by
  unfold M_X0_remember at hM
  refine zw_ct (lv0 := [(0, .ref (E.2.1 19)), (1, .ref (E.2.1 u))]) ok (by decide) rfl (Nat.le_of_ble_eq_true rfl) (fun p e s m args below meth c g hr hlk => ?_)
  replace g : zw_G p E (zw_A E) s m args c RX0 cX0_remember 2 := g
  show zw_V p l e s m args below meth c E mt_X0_remember 2 none z 0 [(0, .ref (E.2.1 19)), (1, .ref (E.2.1 u))] [] h
  refine zr_aload_n (q := 1) g 0 dX0_remember_0 rfl rfl rfl ?_
  refine zr_getr (q := 4) (k0 := 0) (j := 20) g (hI 19 (by decide)) zs_19 rfl zf_X0_14 dX0_remember_1 rfl ?_
  refine zr_aload_n (q := 5) g 0 dX0_remember_4 rfl rfl rfl ?_
  refine zr_geti (q := 8) (k0 := 1) g (hI 19 (by decide)) zs_19 rfl zf_X0_20 dX0_remember_5 rfl ?_
  refine zr_aload_n (q := 9) g 0 dX0_remember_8 rfl rfl rfl ?_
  refine zr_geti (q := 12) (k0 := 2) g (hI 19 (by decide)) zs_19 rfl zf_X0_24 dX0_remember_9 rfl ?_
  refine zr_iadd (q := 13) g dX0_remember_12 rfl ?_
  refine zr_bipush (q := 15) (v := (14 : Int32)) g dX0_remember_13 rfl (by decide) ?_
  refine zr_irem (q := 16) g dX0_remember_15 rfl (by decide) ?_
  refine zr_aload_n (q := 17) g 1 dX0_remember_16 rfl rfl rfl ?_
  obtain ⟨z1, q2, hM⟩ := zw_bd hM
  refine zr_callV (q := 20) (As := [.int (((h.1 19 1) + (h.1 19 2)) - ((h.1 19 1) + (h.1 19 2)) / (14 : Int32) * (14 : Int32)), .ref (E.2.1 u)]) (rest := []) (st' := []) (i := 20) g (R_X5_store (Or.inl rfl) k_u ok hI q2) zv_X5_store zl_X0_27 (hI 20 (by decide)) zs_20 zc_X5.1 dX0_remember_17 rfl rfl ⟨Nat.le_of_ble_eq_true rfl, Nat.le_of_ble_eq_true rfl⟩ ⟨Nat.zero_le _, Nat.zero_le _⟩ (Nat.le_of_ble_eq_true rfl) rfl rfl ?_
  refine zr_aload_n (q := 21) g 0 dX0_remember_20 rfl rfl rfl ?_
  refine zr_geti (q := 24) (k0 := 2) g (hI 19 (by decide)) zs_19 rfl zf_X0_24 dX0_remember_21 rfl ?_
  refine zr_bipush (q := 26) (v := (14 : Int32)) g dX0_remember_24 rfl (by decide) ?_
  refine zr_icmp_ge (q := 29) (tgt := 42) g dX0_remember_26 rfl rfl (fun c3 => ?_) (fun c3 => ?_)
  · replace hM := zw_ift c3 hM
    refine zr_aload_n (q := 43) g 0 dX0_remember_42 rfl rfl rfl ?_
    refine zr_aload_n (q := 44) g 0 dX0_remember_43 rfl rfl rfl ?_
    refine zr_geti (q := 47) (k0 := 1) g (hI 19 (by decide)) zs_19 rfl zf_X0_20 dX0_remember_44 rfl ?_
    refine zr_iconst (q := 48) (v := (1 : Int32)) g dX0_remember_47 rfl (by decide) ?_
    refine zr_iadd (q := 49) g dX0_remember_48 rfl ?_
    refine zr_bipush (q := 51) (v := (14 : Int32)) g dX0_remember_49 rfl (by decide) ?_
    refine zr_irem (q := 52) g dX0_remember_51 rfl (by decide) ?_
    obtain ⟨h4, e5, hM⟩ := zw_nm_ex hM
    refine zr_puti (q := 55) (k0 := 1) (h' := h4) g (hI 19 (by decide)) zs_19 rfl zp_X0_20 dX0_remember_52 rfl e5 ?_
    cases hM
    exact zr_vret g hr hlk dX0_remember_55 rfl rfl
  · replace hM := zw_iff c3 hM
    refine zr_aload_n (q := 30) g 0 dX0_remember_29 rfl rfl rfl ?_
    refine zr_dup (q := 31) g dX0_remember_30 rfl rfl ?_
    refine zr_geti (q := 34) (k0 := 2) g (hI 19 (by decide)) zs_19 rfl zf_X0_24 dX0_remember_31 rfl ?_
    refine zr_iconst (q := 35) (v := (1 : Int32)) g dX0_remember_34 rfl (by decide) ?_
    refine zr_iadd (q := 36) g dX0_remember_35 rfl ?_
    obtain ⟨h6, e7, hM⟩ := zw_nm_ex hM
    refine zr_puti (q := 39) (k0 := 2) (h' := h6) g (hI 19 (by decide)) zs_19 rfl zp_X0_24 dX0_remember_36 rfl e7 ?_
    refine zr_goto (tgt := 55) g dX0_remember_39 rfl ?_
    cases hM
    exact zr_vret g hr hlk dX0_remember_55 rfl rfl
noncomputable def M_X0_takeBack (u : Nat) (h : zw_Hp) : Option (zw_Hp) :=
  if 0 < (h.1 19 2) then (zw_nm (zw_up h 19 2 ((h.1 19 2) - (1 : Int32))) (fun h2 => (M_X5_fetch 20 u (((h2.1 19 1) + (h2.1 19 2)) - ((h2.1 19 1) + (h2.1 19 2)) / (14 : Int32) * (14 : Int32)) h2).bind (fun z4 => some z4))) else (some h)
set_option maxRecDepth 100000 in
set_option maxHeartbeats 4000000 in
theorem R_X0_takeBack {u : Nat} (k_u : u = 9 ∨ u = 14) (ok : zw_Ok E) (hI : ∀ i, i < 48 → i ∈ E.2.2.1) {h : zw_Hp} {z : zw_Hp} (hM : M_X0_takeBack u h = some z) : zw_Ct l E mt_X0_takeBack [.ref (E.2.1 19), .ref (E.2.1 u)] h none z := by
  unfold M_X0_takeBack at hM
  refine zw_ct (lv0 := [(0, .ref (E.2.1 19)), (1, .ref (E.2.1 u))]) ok (by decide) rfl (Nat.le_of_ble_eq_true rfl) (fun p e s m args below meth c g hr hlk => ?_)
  replace g : zw_G p E (zw_A E) s m args c RX0 cX0_takeBack 2 := g
  show zw_V p l e s m args below meth c E mt_X0_takeBack 2 none z 0 [(0, .ref (E.2.1 19)), (1, .ref (E.2.1 u))] [] h
  refine zr_aload_n (q := 1) g 0 dX0_takeBack_0 rfl rfl rfl ?_
  refine zr_geti (q := 4) (k0 := 2) g (hI 19 (by decide)) zs_19 rfl zf_X0_24 dX0_takeBack_1 rfl ?_
  refine zr_if_gt (q := 7) (tgt := 8) g dX0_takeBack_4 rfl rfl (fun c1 => ?_) (fun c1 => ?_)
  · replace hM := zw_ift c1 hM
    refine zr_aload_n (q := 9) g 0 dX0_takeBack_8 rfl rfl rfl ?_
    refine zr_dup (q := 10) g dX0_takeBack_9 rfl rfl ?_
    refine zr_geti (q := 13) (k0 := 2) g (hI 19 (by decide)) zs_19 rfl zf_X0_24 dX0_takeBack_10 rfl ?_
    refine zr_iconst (q := 14) (v := (1 : Int32)) g dX0_takeBack_13 rfl (by decide) ?_
    refine zr_isub (q := 15) g dX0_takeBack_14 rfl ?_
    obtain ⟨h2, e3, hM⟩ := zw_nm_ex hM
    refine zr_puti (q := 18) (k0 := 2) (h' := h2) g (hI 19 (by decide)) zs_19 rfl zp_X0_24 dX0_takeBack_15 rfl e3 ?_
    refine zr_aload_n (q := 19) g 0 dX0_takeBack_18 rfl rfl rfl ?_
    refine zr_getr (q := 22) (k0 := 0) (j := 20) g (hI 19 (by decide)) zs_19 rfl zf_X0_14 dX0_takeBack_19 rfl ?_
    refine zr_aload_n (q := 23) g 0 dX0_takeBack_22 rfl rfl rfl ?_
    refine zr_geti (q := 26) (k0 := 1) g (hI 19 (by decide)) zs_19 rfl zf_X0_20 dX0_takeBack_23 rfl ?_
    refine zr_aload_n (q := 27) g 0 dX0_takeBack_26 rfl rfl rfl ?_
    refine zr_geti (q := 30) (k0 := 2) g (hI 19 (by decide)) zs_19 rfl zf_X0_24 dX0_takeBack_27 rfl ?_
    refine zr_iadd (q := 31) g dX0_takeBack_30 rfl ?_
    refine zr_bipush (q := 33) (v := (14 : Int32)) g dX0_takeBack_31 rfl (by decide) ?_
    refine zr_irem (q := 34) g dX0_takeBack_33 rfl (by decide) ?_
    refine zr_aload_n (q := 35) g 1 dX0_takeBack_34 rfl rfl rfl ?_
    obtain ⟨z4, q5, hM⟩ := zw_bd hM
    refine zr_callV (q := 38) (As := [.int (((h2.1 19 1) + (h2.1 19 2)) - ((h2.1 19 1) + (h2.1 19 2)) / (14 : Int32) * (14 : Int32)), .ref (E.2.1 u)]) (rest := []) (st' := []) (i := 20) g (R_X5_fetch (Or.inl rfl) k_u ok hI q5) zv_X5_fetch zl_X0_31 (hI 20 (by decide)) zs_20 zc_X5.1 dX0_takeBack_35 rfl rfl ⟨Nat.le_of_ble_eq_true rfl, Nat.le_of_ble_eq_true rfl⟩ ⟨Nat.zero_le _, Nat.zero_le _⟩ (Nat.le_of_ble_eq_true rfl) rfl rfl ?_
    cases hM
    exact zr_vret g hr hlk dX0_takeBack_38 rfl rfl
  · replace hM := zw_iff c1 hM
    cases hM
    exact zr_vret g hr hlk dX0_takeBack_7 rfl rfl
end
