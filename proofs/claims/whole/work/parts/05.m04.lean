section
variable {p : Program} {l : Launch} {e : Env} {s : State} {m : MethodId} {args : Array Value} {below : List Frame} {meth : Method} {c : Code} {E : zw_En}
noncomputable def B_X1_weightOfFalling_66 (h : zw_Hp) (k5 : (Int32 × Int32 × Int32 × Int32) → Option (Int32)) (x1 : Int32) (x2 : Int32) (x3 : Int32) (x4 : Int32) : Option (Int32) :=
  zw_nm (x4 + (1 : Int32)) (fun y10 => k5 (x1, x2, x3, y10))
set_option maxRecDepth 100000 in
set_option maxHeartbeats 4000000 in
theorem U_X1_weightOfFalling_66 {h : zw_Hp} (ok : zw_Ok E) (hI : ∀ i, i < 48 → i ∈ E.2.2.1) (g : zw_G p E (zw_A E) s m args c RX1 cX1_weightOfFalling 6) (hr : meth.sig.returnType = some .int) (hlk : meth.locks = false) {k5 : (Int32 × Int32 × Int32 × Int32) → Option (Int32)} (eL5 : ∀ (w : Int32 × Int32 × Int32 × Int32) (z : Int32), k5 w = some z → zw_V p l e s m args below meth c E mt_X1_weightOfFalling 6 (some (.int z)) h 5 [(0, .ref (E.2.1 30)), (1, .int w.1), (2, .int w.2.1), (3, .int w.2.2.1), (4, .int w.2.2.2)] [] h) :
    ∀ (x1 : Int32) (x2 : Int32) (x3 : Int32) (x4 : Int32) (z : Int32), B_X1_weightOfFalling_66 h k5 x1 x2 x3 x4 = some z → zw_V p l e s m args below meth c E mt_X1_weightOfFalling 6 (some (.int z)) h 66 [(0, .ref (E.2.1 30)), (1, .int x1), (2, .int x2), (3, .int x3), (4, .int x4)] [] h := by
  intro x1 x2 x3 x4 z hM
  unfold B_X1_weightOfFalling_66 at hM
  obtain ⟨y10, e11, hM⟩ := zw_nm_ex hM
  refine zr_iinc (q := 69) (v := y10) (lv' := [(4, .int y10), (0, .ref (E.2.1 30)), (1, .int x1), (2, .int x2), (3, .int x3)]) g 4 dX1_weightOfFalling_66 rfl rfl (by rw [e11]; rfl) (by decide) rfl ?_
  refine zr_goto (tgt := 5) g dX1_weightOfFalling_69 rfl ?_
  refine zr_lv (lv' := [(0, .ref (E.2.1 30)), (1, .int x1), (2, .int x2), (3, .int x3), (4, .int y10)]) [1, 2, 3, 4, 0] rfl ?_
  exact eL5 _ _ hM
noncomputable def B_X1_weightOfFalling_54 (h : zw_Hp) (k5 : (Int32 × Int32 × Int32 × Int32) → Option (Int32)) (x1 : Int32) (x2 : Int32) (x4 : Int32) (s0 : Int32) (s1 : Int32) : Option (Int32) :=
  zw_nm (s1 * s0) (fun y8 => B_X1_weightOfFalling_66 h k5 x1 x2 y8 x4)
set_option maxRecDepth 100000 in
set_option maxHeartbeats 4000000 in
theorem U_X1_weightOfFalling_54 {h : zw_Hp} (ok : zw_Ok E) (hI : ∀ i, i < 48 → i ∈ E.2.2.1) (g : zw_G p E (zw_A E) s m args c RX1 cX1_weightOfFalling 6) (hr : meth.sig.returnType = some .int) (hlk : meth.locks = false) {k5 : (Int32 × Int32 × Int32 × Int32) → Option (Int32)} (eL5 : ∀ (w : Int32 × Int32 × Int32 × Int32) (z : Int32), k5 w = some z → zw_V p l e s m args below meth c E mt_X1_weightOfFalling 6 (some (.int z)) h 5 [(0, .ref (E.2.1 30)), (1, .int w.1), (2, .int w.2.1), (3, .int w.2.2.1), (4, .int w.2.2.2)] [] h) :
    ∀ (x1 : Int32) (x2 : Int32) (x4 : Int32) (s0 : Int32) (s1 : Int32) (z : Int32), B_X1_weightOfFalling_54 h k5 x1 x2 x4 s0 s1 = some z → zw_V p l e s m args below meth c E mt_X1_weightOfFalling 6 (some (.int z)) h 54 [(0, .ref (E.2.1 30)), (1, .int x1), (2, .int x2), (4, .int x4)] [.int s0, .int s1] h := by
  intro x1 x2 x4 s0 s1 z hM
  unfold B_X1_weightOfFalling_54 at hM
  refine zr_imul (q := 55) g dX1_weightOfFalling_54 rfl ?_
  obtain ⟨y8, e9, hM⟩ := zw_nm_ex hM
  refine zr_nmi e9 ?_
  refine zr_istore_n (q := 56) (lv' := [(3, .int y8), (0, .ref (E.2.1 30)), (1, .int x1), (2, .int x2), (4, .int x4)]) g dX1_weightOfFalling_55 rfl rfl (by decide) rfl ?_
  refine zr_goto (tgt := 66) g dX1_weightOfFalling_56 rfl ?_
  refine zr_lv (lv' := [(0, .ref (E.2.1 30)), (1, .int x1), (2, .int x2), (3, .int y8), (4, .int x4)]) [1, 2, 3, 0, 4] rfl ?_
  exact U_X1_weightOfFalling_66 ok hI g hr hlk eL5 _ _ _ _ _ hM
noncomputable def B_X1_weightOfFalling_26 (h : zw_Hp) (k5 : (Int32 × Int32 × Int32 × Int32) → Option (Int32)) (x1 : Int32) (x2 : Int32) (x3 : Int32) (x4 : Int32) (s0 : Int32) : Option (Int32) :=
  (M_X3_isHeld 9 x4 h).bind (fun z3 => if z3 = 0 then (if s0 = 0 then (B_X1_weightOfFalling_66 h k5 x1 x2 x3 x4) else (B_X1_weightOfFalling_66 h k5 x1 x2 (0 : Int32) x4)) else (if s0 = 0 then (B_X1_weightOfFalling_54 h k5 x1 x2 x4 ((10 : Int32) - x2) x3) else (B_X1_weightOfFalling_54 h k5 x1 x2 x4 x2 x3)))
set_option maxRecDepth 100000 in
set_option maxHeartbeats 4000000 in
theorem U_X1_weightOfFalling_26 {h : zw_Hp} (ok : zw_Ok E) (hI : ∀ i, i < 48 → i ∈ E.2.2.1) (g : zw_G p E (zw_A E) s m args c RX1 cX1_weightOfFalling 6) (hr : meth.sig.returnType = some .int) (hlk : meth.locks = false) {k5 : (Int32 × Int32 × Int32 × Int32) → Option (Int32)} (eL5 : ∀ (w : Int32 × Int32 × Int32 × Int32) (z : Int32), k5 w = some z → zw_V p l e s m args below meth c E mt_X1_weightOfFalling 6 (some (.int z)) h 5 [(0, .ref (E.2.1 30)), (1, .int w.1), (2, .int w.2.1), (3, .int w.2.2.1), (4, .int w.2.2.2)] [] h) :
    ∀ (x1 : Int32) (x2 : Int32) (x3 : Int32) (x4 : Int32) (s0 : Int32) (z : Int32), B_X1_weightOfFalling_26 h k5 x1 x2 x3 x4 s0 = some z → zw_V p l e s m args below meth c E mt_X1_weightOfFalling 6 (some (.int z)) h 26 [(0, .ref (E.2.1 30)), (1, .int x1), (2, .int x2), (3, .int x3), (4, .int x4)] [.int s0] h := by
  intro x1 x2 x3 x4 s0 z hM
  unfold B_X1_weightOfFalling_26 at hM
  refine zr_istore (q := 28) (lv' := [(5, .int s0), (0, .ref (E.2.1 30)), (1, .int x1), (2, .int x2), (3, .int x3), (4, .int x4)]) g dX1_weightOfFalling_26 rfl (by decide) rfl ?_
  refine zr_aload_n (q := 29) g 1 dX1_weightOfFalling_28 rfl rfl rfl ?_
  refine zr_getr (q := 32) (k0 := 1) (j := 9) g (hI 30 (by decide)) zs_30 rfl zf_X1_15 dX1_weightOfFalling_29 rfl ?_
  refine zr_iload (q := 34) g 5 dX1_weightOfFalling_32 rfl rfl ?_
  obtain ⟨z3, q4, hM⟩ := zw_bd hM
  refine zr_callV (q := 37) (As := [.int x4]) (rest := []) (st' := [.int z3]) (i := 9) g (R_X3_isHeld (Or.inl rfl) ok hI q4) zv_X3_isHeld zl_X1_86 (hI 9 (by decide)) zs_9 zc_X3.1 dX1_weightOfFalling_34 rfl rfl ⟨Nat.le_of_ble_eq_true rfl, Nat.le_of_ble_eq_true rfl⟩ ⟨Nat.zero_le _, Nat.zero_le _⟩ (Nat.le_of_ble_eq_true rfl) rfl rfl ?_
  refine zr_if_eq (q := 40) (tgt := 59) g dX1_weightOfFalling_37 rfl rfl (fun c5 => ?_) (fun c5 => ?_)
  · replace hM := zw_ift c5 hM
    refine zr_iload (q := 61) g 0 dX1_weightOfFalling_59 rfl rfl ?_
    refine zr_if_eq (q := 64) (tgt := 66) g dX1_weightOfFalling_61 rfl rfl (fun c6 => ?_) (fun c6 => ?_)
    · replace hM := zw_ift c6 hM
      refine zr_lv (lv' := [(0, .ref (E.2.1 30)), (1, .int x1), (2, .int x2), (3, .int x3), (4, .int x4)]) [1, 2, 3, 4, 5] rfl ?_
      exact U_X1_weightOfFalling_66 ok hI g hr hlk eL5 _ _ _ _ _ hM
    · replace hM := zw_iff c6 hM
      refine zr_iconst (q := 65) (v := (0 : Int32)) g dX1_weightOfFalling_64 rfl (by decide) ?_
      refine zr_istore_n (q := 66) (lv' := [(3, .int (0 : Int32)), (5, .int s0), (0, .ref (E.2.1 30)), (1, .int x1), (2, .int x2), (4, .int x4)]) g dX1_weightOfFalling_65 rfl rfl (by decide) rfl ?_
      refine zr_lv (lv' := [(0, .ref (E.2.1 30)), (1, .int x1), (2, .int x2), (3, .int (0 : Int32)), (4, .int x4)]) [2, 3, 4, 0, 5] rfl ?_
      exact U_X1_weightOfFalling_66 ok hI g hr hlk eL5 _ _ _ _ _ hM
  · replace hM := zw_iff c5 hM
    refine zr_iload_n (q := 41) g 4 dX1_weightOfFalling_40 rfl rfl rfl ?_
    refine zr_iload (q := 43) g 0 dX1_weightOfFalling_41 rfl rfl ?_
    refine zr_if_eq (q := 46) (tgt := 50) g dX1_weightOfFalling_43 rfl rfl (fun c7 => ?_) (fun c7 => ?_)
    · replace hM := zw_ift c7 hM
      refine zr_bipush (q := 52) (v := (10 : Int32)) g dX1_weightOfFalling_50 rfl (by decide) ?_
      refine zr_iload_n (q := 53) g 3 dX1_weightOfFalling_52 rfl rfl rfl ?_
      refine zr_isub (q := 54) g dX1_weightOfFalling_53 rfl ?_
      refine zr_lv (lv' := [(0, .ref (E.2.1 30)), (1, .int x1), (2, .int x2), (4, .int x4)]) [1, 2, 3, 5] rfl ?_
      exact U_X1_weightOfFalling_54 ok hI g hr hlk eL5 _ _ _ _ _ _ hM
    · replace hM := zw_iff c7 hM
      refine zr_iload_n (q := 47) g 3 dX1_weightOfFalling_46 rfl rfl rfl ?_
      refine zr_goto (tgt := 54) g dX1_weightOfFalling_47 rfl ?_
      refine zr_lv (lv' := [(0, .ref (E.2.1 30)), (1, .int x1), (2, .int x2), (4, .int x4)]) [1, 2, 3, 5] rfl ?_
      exact U_X1_weightOfFalling_54 ok hI g hr hlk eL5 _ _ _ _ _ _ hM
noncomputable def B_X1_weightOfFalling_5 (h : zw_Hp) (k5 : (Int32 × Int32 × Int32 × Int32) → Option (Int32)) (x1 : Int32) (x2 : Int32) (x3 : Int32) (x4 : Int32) : Option (Int32) :=
  if (4 : Int32) ≤ x4 then (some x3) else (if ((x1 >>> (x4 &&& 31)) &&& (1 : Int32)) = (1 : Int32) then (B_X1_weightOfFalling_26 h k5 x1 x2 x3 x4 (1 : Int32)) else (B_X1_weightOfFalling_26 h k5 x1 x2 x3 x4 (0 : Int32)))
set_option maxRecDepth 100000 in
set_option maxHeartbeats 4000000 in
theorem U_X1_weightOfFalling_5 {h : zw_Hp} (ok : zw_Ok E) (hI : ∀ i, i < 48 → i ∈ E.2.2.1) (g : zw_G p E (zw_A E) s m args c RX1 cX1_weightOfFalling 6) (hr : meth.sig.returnType = some .int) (hlk : meth.locks = false) {k5 : (Int32 × Int32 × Int32 × Int32) → Option (Int32)} (eL5 : ∀ (w : Int32 × Int32 × Int32 × Int32) (z : Int32), k5 w = some z → zw_V p l e s m args below meth c E mt_X1_weightOfFalling 6 (some (.int z)) h 5 [(0, .ref (E.2.1 30)), (1, .int w.1), (2, .int w.2.1), (3, .int w.2.2.1), (4, .int w.2.2.2)] [] h) :
    ∀ (x1 : Int32) (x2 : Int32) (x3 : Int32) (x4 : Int32) (z : Int32), B_X1_weightOfFalling_5 h k5 x1 x2 x3 x4 = some z → zw_V p l e s m args below meth c E mt_X1_weightOfFalling 6 (some (.int z)) h 5 [(0, .ref (E.2.1 30)), (1, .int x1), (2, .int x2), (3, .int x3), (4, .int x4)] [] h := by
  intro x1 x2 x3 x4 z hM
  unfold B_X1_weightOfFalling_5 at hM
  refine zr_iload (q := 7) g 4 dX1_weightOfFalling_5 rfl rfl ?_
  refine zr_iconst (q := 8) (v := (4 : Int32)) g dX1_weightOfFalling_7 rfl (by decide) ?_
  refine zr_icmp_ge (q := 11) (tgt := 72) g dX1_weightOfFalling_8 rfl rfl (fun c1 => ?_) (fun c1 => ?_)
  · replace hM := zw_ift c1 hM
    refine zr_iload_n (q := 73) g 3 dX1_weightOfFalling_72 rfl rfl rfl ?_
    cases hM
    exact zr_iret g hr hlk dX1_weightOfFalling_73 rfl rfl
  · replace hM := zw_iff c1 hM
    refine zr_iload_n (q := 12) g 1 dX1_weightOfFalling_11 rfl rfl rfl ?_
    refine zr_iload (q := 14) g 4 dX1_weightOfFalling_12 rfl rfl ?_
    refine zr_ishr (q := 15) g dX1_weightOfFalling_14 rfl ?_
    refine zr_iconst (q := 16) (v := (1 : Int32)) g dX1_weightOfFalling_15 rfl (by decide) ?_
    refine zr_iand (q := 17) g dX1_weightOfFalling_16 rfl ?_
    refine zr_iconst (q := 18) (v := (1 : Int32)) g dX1_weightOfFalling_17 rfl (by decide) ?_
    refine zr_icmp_ne (q := 21) (tgt := 25) g dX1_weightOfFalling_18 rfl rfl (fun c2 => ?_) (fun c2 => ?_)
    · replace hM := zw_iff c2 hM
      refine zr_iconst (q := 26) (v := (0 : Int32)) g dX1_weightOfFalling_25 rfl (by decide) ?_
      exact U_X1_weightOfFalling_26 ok hI g hr hlk eL5 _ _ _ _ _ _ hM
    · replace hM := zw_ift c2 hM
      refine zr_iconst (q := 22) (v := (1 : Int32)) g dX1_weightOfFalling_21 rfl (by decide) ?_
      refine zr_goto (tgt := 26) g dX1_weightOfFalling_22 rfl ?_
      exact U_X1_weightOfFalling_26 ok hI g hr hlk eL5 _ _ _ _ _ _ hM
noncomputable def L_X1_weightOfFalling_5 (h : zw_Hp) (w : Int32 × Int32 × Int32 × Int32) : Option (Int32) :=
  zw_it (fun (k5 : (Int32 × Int32 × Int32 × Int32) → Option (Int32)) (w : Int32 × Int32 × Int32 × Int32) => B_X1_weightOfFalling_5 h k5 (w.1) (w.2.1) (w.2.2.1) (w.2.2.2)) 600 w
theorem UL_X1_weightOfFalling_5 {h : zw_Hp} (ok : zw_Ok E) (hI : ∀ i, i < 48 → i ∈ E.2.2.1) (g : zw_G p E (zw_A E) s m args c RX1 cX1_weightOfFalling 6) (hr : meth.sig.returnType = some .int) (hlk : meth.locks = false) :
    ∀ (w : Int32 × Int32 × Int32 × Int32) (z : Int32), L_X1_weightOfFalling_5 h w = some z → zw_V p l e s m args below meth c E mt_X1_weightOfFalling 6 (some (.int z)) h 5 [(0, .ref (E.2.1 30)), (1, .int w.1), (2, .int w.2.1), (3, .int w.2.2.1), (4, .int w.2.2.2)] [] h :=
  fun w z hM => zw_it_ind (P := fun (w : Int32 × Int32 × Int32 × Int32) (z : Int32) => zw_V p l e s m args below meth c E mt_X1_weightOfFalling 6 (some (.int z)) h 5 [(0, .ref (E.2.1 30)), (1, .int w.1), (2, .int w.2.1), (3, .int w.2.2.1), (4, .int w.2.2.2)] [] h) (fun k e w z hM => U_X1_weightOfFalling_5 ok hI g hr hlk e _ _ _ _ _ hM) 600 w z hM
noncomputable def M_X1_weightOfFalling (x1 : Int32) (x2 : Int32) (h : zw_Hp) : Option (Int32) :=
  L_X1_weightOfFalling_5 h (x1, x2, (1 : Int32), (0 : Int32))
set_option maxRecDepth 100000 in
set_option maxHeartbeats 4000000 in
theorem R_X1_weightOfFalling (ok : zw_Ok E) (hI : ∀ i, i < 48 → i ∈ E.2.2.1) {x1 : Int32} {x2 : Int32} {h : zw_Hp} {z : Int32} (hM : M_X1_weightOfFalling x1 x2 h = some z) : zw_Ct l E mt_X1_weightOfFalling [.ref (E.2.1 30), .int x1, .int x2] h (some (.int z)) h := by
  unfold M_X1_weightOfFalling at hM
  refine zw_ct (lv0 := [(0, .ref (E.2.1 30)), (1, .int x1), (2, .int x2)]) ok (by decide) rfl (Nat.le_of_ble_eq_true rfl) (fun p e s m args below meth c g hr hlk => ?_)
  replace g : zw_G p E (zw_A E) s m args c RX1 cX1_weightOfFalling 6 := g
  show zw_V p l e s m args below meth c E mt_X1_weightOfFalling 6 (some (.int z)) h 0 [(0, .ref (E.2.1 30)), (1, .int x1), (2, .int x2)] [] h
  refine zr_iconst (q := 1) (v := (1 : Int32)) g dX1_weightOfFalling_0 rfl (by decide) ?_
  refine zr_istore_n (q := 2) (lv' := [(3, .int (1 : Int32)), (0, .ref (E.2.1 30)), (1, .int x1), (2, .int x2)]) g dX1_weightOfFalling_1 rfl rfl (by decide) rfl ?_
  refine zr_iconst (q := 3) (v := (0 : Int32)) g dX1_weightOfFalling_2 rfl (by decide) ?_
  refine zr_istore (q := 5) (lv' := [(4, .int (0 : Int32)), (3, .int (1 : Int32)), (0, .ref (E.2.1 30)), (1, .int x1), (2, .int x2)]) g dX1_weightOfFalling_3 rfl (by decide) rfl ?_
  refine zr_lv (lv' := [(0, .ref (E.2.1 30)), (1, .int x1), (2, .int x2), (3, .int (1 : Int32)), (4, .int (0 : Int32))]) [2, 3, 4, 1, 0] rfl ?_
  exact UL_X1_weightOfFalling_5 ok hI g hr hlk _ _ hM
noncomputable def B_X1_thrownWithout_28 (k6 : (Int32 × Int32 × zw_Hp) → Option (Int32 × zw_Hp)) (x1 : Int32) (x2 : Int32) (h : zw_Hp) : Option (Int32 × zw_Hp) :=
  zw_nm (x2 + (1 : Int32)) (fun y9 => k6 (x1, y9, h))
set_option maxRecDepth 100000 in
set_option maxHeartbeats 4000000 in
theorem U_X1_thrownWithout_28 (ok : zw_Ok E) (hI : ∀ i, i < 48 → i ∈ E.2.2.1) (g : zw_G p E (zw_A E) s m args c RX1 cX1_thrownWithout 3) (hr : meth.sig.returnType = some .int) (hlk : meth.locks = false) {k6 : (Int32 × Int32 × zw_Hp) → Option (Int32 × zw_Hp)} (eL6 : ∀ (w : Int32 × Int32 × zw_Hp) (z : Int32 × zw_Hp), k6 w = some z → zw_V p l e s m args below meth c E mt_X1_thrownWithout 3 (some (.int z.1)) z.2 6 [(0, .ref (E.2.1 30)), (1, .int w.1), (2, .int w.2.1)] [] w.2.2) :
    ∀ (x1 : Int32) (x2 : Int32) (h : zw_Hp) (z : Int32 × zw_Hp), B_X1_thrownWithout_28 k6 x1 x2 h = some z → zw_V p l e s m args below meth c E mt_X1_thrownWithout 3 (some (.int z.1)) z.2 28 [(0, .ref (E.2.1 30)), (1, .int x1), (2, .int x2)] [] h := by
  intro x1 x2 h z hM
  unfold B_X1_thrownWithout_28 at hM
  obtain ⟨y9, e10, hM⟩ := zw_nm_ex hM
  refine zr_iinc (q := 31) (v := y9) (lv' := [(2, .int y9), (0, .ref (E.2.1 30)), (1, .int x1)]) g 2 dX1_thrownWithout_28 rfl rfl (by rw [e10]; rfl) (by decide) rfl ?_
  refine zr_goto (tgt := 6) g dX1_thrownWithout_31 rfl ?_
  refine zr_lv (lv' := [(0, .ref (E.2.1 30)), (1, .int x1), (2, .int y9)]) [1, 2, 0] rfl ?_
  exact eL6 _ _ hM
noncomputable def B_X1_thrownWithout_6 (k6 : (Int32 × Int32 × zw_Hp) → Option (Int32 × zw_Hp)) (x1 : Int32) (x2 : Int32) (h : zw_Hp) : Option (Int32 × zw_Hp) :=
  if (4 : Int32) ≤ x2 then ((M_X3_passBeats 14 (10 : Int32) h).bind (fun z4 => some (z4.1, z4.2))) else (if ((x1 >>> (x2 &&& 31)) &&& (1 : Int32)) = (1 : Int32) then ((M_X3_letFall 14 x2 h).bind (fun z7 => B_X1_thrownWithout_28 k6 x1 x2 z7)) else (B_X1_thrownWithout_28 k6 x1 x2 h))
set_option maxRecDepth 100000 in
set_option maxHeartbeats 4000000 in
theorem U_X1_thrownWithout_6 (ok : zw_Ok E) (hI : ∀ i, i < 48 → i ∈ E.2.2.1) (g : zw_G p E (zw_A E) s m args c RX1 cX1_thrownWithout 3) (hr : meth.sig.returnType = some .int) (hlk : meth.locks = false) {k6 : (Int32 × Int32 × zw_Hp) → Option (Int32 × zw_Hp)} (eL6 : ∀ (w : Int32 × Int32 × zw_Hp) (z : Int32 × zw_Hp), k6 w = some z → zw_V p l e s m args below meth c E mt_X1_thrownWithout 3 (some (.int z.1)) z.2 6 [(0, .ref (E.2.1 30)), (1, .int w.1), (2, .int w.2.1)] [] w.2.2) :
    ∀ (x1 : Int32) (x2 : Int32) (h : zw_Hp) (z : Int32 × zw_Hp), B_X1_thrownWithout_6 k6 x1 x2 h = some z → zw_V p l e s m args below meth c E mt_X1_thrownWithout 3 (some (.int z.1)) z.2 6 [(0, .ref (E.2.1 30)), (1, .int x1), (2, .int x2)] [] h := by
  intro x1 x2 h z hM
  unfold B_X1_thrownWithout_6 at hM
  refine zr_iload_n (q := 7) g 2 dX1_thrownWithout_6 rfl rfl rfl ?_
  refine zr_iconst (q := 8) (v := (4 : Int32)) g dX1_thrownWithout_7 rfl (by decide) ?_
  refine zr_icmp_ge (q := 11) (tgt := 34) g dX1_thrownWithout_8 rfl rfl (fun c3 => ?_) (fun c3 => ?_)
  · replace hM := zw_ift c3 hM
    refine zr_aload_n (q := 35) g 0 dX1_thrownWithout_34 rfl rfl rfl ?_
    refine zr_getr (q := 38) (k0 := 2) (j := 14) g (hI 30 (by decide)) zs_30 rfl zf_X1_19 dX1_thrownWithout_35 rfl ?_
    refine zr_bipush (q := 40) (v := (10 : Int32)) g dX1_thrownWithout_38 rfl (by decide) ?_
    obtain ⟨z4, q5, hM⟩ := zw_bd hM
    refine zr_callV (q := 43) (As := [.int (10 : Int32)]) (rest := []) (st' := [.int z4.1]) (i := 14) g (R_X3_passBeats (Or.inr rfl) ok hI q5) zv_X3_passBeats zl_X1_31 (hI 14 (by decide)) zs_14 zc_X3.1 dX1_thrownWithout_40 rfl rfl ⟨Nat.le_of_ble_eq_true rfl, Nat.le_of_ble_eq_true rfl⟩ ⟨Nat.zero_le _, Nat.zero_le _⟩ (Nat.le_of_ble_eq_true rfl) rfl rfl ?_
    cases hM
    exact zr_iret g hr hlk dX1_thrownWithout_43 rfl rfl
  · replace hM := zw_iff c3 hM
    refine zr_iload_n (q := 12) g 1 dX1_thrownWithout_11 rfl rfl rfl ?_
    refine zr_iload_n (q := 13) g 2 dX1_thrownWithout_12 rfl rfl rfl ?_
    refine zr_ishr (q := 14) g dX1_thrownWithout_13 rfl ?_
    refine zr_iconst (q := 15) (v := (1 : Int32)) g dX1_thrownWithout_14 rfl (by decide) ?_
    refine zr_iand (q := 16) g dX1_thrownWithout_15 rfl ?_
    refine zr_iconst (q := 17) (v := (1 : Int32)) g dX1_thrownWithout_16 rfl (by decide) ?_
    refine zr_icmp_ne (q := 20) (tgt := 28) g dX1_thrownWithout_17 rfl rfl (fun c6 => ?_) (fun c6 => ?_)
    · replace hM := zw_iff c6 hM
      exact U_X1_thrownWithout_28 ok hI g hr hlk eL6 _ _ _ _ hM
    · replace hM := zw_ift c6 hM
      refine zr_aload_n (q := 21) g 0 dX1_thrownWithout_20 rfl rfl rfl ?_
      refine zr_getr (q := 24) (k0 := 2) (j := 14) g (hI 30 (by decide)) zs_30 rfl zf_X1_19 dX1_thrownWithout_21 rfl ?_
      refine zr_iload_n (q := 25) g 2 dX1_thrownWithout_24 rfl rfl rfl ?_
      obtain ⟨z7, q8, hM⟩ := zw_bd hM
      refine zr_callV (q := 28) (As := [.int x2]) (rest := []) (st' := []) (i := 14) g (R_X3_letFall (Or.inr rfl) ok hI q8) zv_X3_letFall zl_X1_90 (hI 14 (by decide)) zs_14 zc_X3.1 dX1_thrownWithout_25 rfl rfl ⟨Nat.le_of_ble_eq_true rfl, Nat.le_of_ble_eq_true rfl⟩ ⟨Nat.zero_le _, Nat.zero_le _⟩ (Nat.le_of_ble_eq_true rfl) rfl rfl ?_
      exact U_X1_thrownWithout_28 ok hI g hr hlk eL6 _ _ _ _ hM
noncomputable def L_X1_thrownWithout_6 (w : Int32 × Int32 × zw_Hp) : Option (Int32 × zw_Hp) :=
  zw_it (fun (k6 : (Int32 × Int32 × zw_Hp) → Option (Int32 × zw_Hp)) (w : Int32 × Int32 × zw_Hp) => B_X1_thrownWithout_6 k6 (w.1) (w.2.1) (w.2.2)) 600 w
theorem UL_X1_thrownWithout_6 (ok : zw_Ok E) (hI : ∀ i, i < 48 → i ∈ E.2.2.1) (g : zw_G p E (zw_A E) s m args c RX1 cX1_thrownWithout 3) (hr : meth.sig.returnType = some .int) (hlk : meth.locks = false) :
    ∀ (w : Int32 × Int32 × zw_Hp) (z : Int32 × zw_Hp), L_X1_thrownWithout_6 w = some z → zw_V p l e s m args below meth c E mt_X1_thrownWithout 3 (some (.int z.1)) z.2 6 [(0, .ref (E.2.1 30)), (1, .int w.1), (2, .int w.2.1)] [] w.2.2 :=
  fun w z hM => zw_it_ind (P := fun (w : Int32 × Int32 × zw_Hp) (z : Int32 × zw_Hp) => zw_V p l e s m args below meth c E mt_X1_thrownWithout 3 (some (.int z.1)) z.2 6 [(0, .ref (E.2.1 30)), (1, .int w.1), (2, .int w.2.1)] [] w.2.2) (fun k e w z hM => U_X1_thrownWithout_6 ok hI g hr hlk e _ _ _ _ hM) 600 w z hM
noncomputable def M_X1_thrownWithout (x1 : Int32) (h : zw_Hp) : Option (Int32 × zw_Hp) :=
  (M_X1_begin h).bind (fun z1 => L_X1_thrownWithout_6 (x1, (0 : Int32), z1))
set_option maxRecDepth 100000 in
set_option maxHeartbeats 4000000 in
theorem R_X1_thrownWithout (ok : zw_Ok E) (hI : ∀ i, i < 48 → i ∈ E.2.2.1) {x1 : Int32} {h : zw_Hp} {z : Int32 × zw_Hp} (hM : M_X1_thrownWithout x1 h = some z) : zw_Ct l E mt_X1_thrownWithout [.ref (E.2.1 30), .int x1] h (some (.int z.1)) z.2 := by
  unfold M_X1_thrownWithout at hM
  refine zw_ct (lv0 := [(0, .ref (E.2.1 30)), (1, .int x1)]) ok (by decide) rfl (Nat.le_of_ble_eq_true rfl) (fun p e s m args below meth c g hr hlk => ?_)
  replace g : zw_G p E (zw_A E) s m args c RX1 cX1_thrownWithout 3 := g
  show zw_V p l e s m args below meth c E mt_X1_thrownWithout 3 (some (.int z.1)) z.2 0 [(0, .ref (E.2.1 30)), (1, .int x1)] [] h
  refine zr_aload_n (q := 1) g 0 dX1_thrownWithout_0 rfl rfl rfl ?_
  obtain ⟨z1, q2, hM⟩ := zw_bd hM
  refine zr_callV (q := 4) (As := []) (rest := []) (st' := []) (i := 30) g (R_X1_begin ok hI q2) zv_X1_begin zl_X1_28 (hI 30 (by decide)) zs_30 zc_X1.1 dX1_thrownWithout_1 rfl rfl ⟨Nat.le_of_ble_eq_true rfl, Nat.le_of_ble_eq_true rfl⟩ ⟨Nat.zero_le _, Nat.zero_le _⟩ (Nat.le_of_ble_eq_true rfl) rfl rfl ?_
  refine zr_iconst (q := 5) (v := (0 : Int32)) g dX1_thrownWithout_4 rfl (by decide) ?_
  refine zr_istore_n (q := 6) (lv' := [(2, .int (0 : Int32)), (0, .ref (E.2.1 30)), (1, .int x1)]) g dX1_thrownWithout_5 rfl rfl (by decide) rfl ?_
  refine zr_lv (lv' := [(0, .ref (E.2.1 30)), (1, .int x1), (2, .int (0 : Int32))]) [1, 2, 0] rfl ?_
  exact UL_X1_thrownWithout_6 ok hI g hr hlk _ _ hM
noncomputable def B_X1_chanceOfThrowing_41 (k5 : (Int32 × Int32 × Int32 × Int32 × zw_Hp) → Option (Int32 × zw_Hp)) (x1 : Int32) (x2 : Int32) (x3 : Int32) (x4 : Int32) (h : zw_Hp) : Option (Int32 × zw_Hp) :=
  zw_nm (x4 + (1 : Int32)) (fun y10 => k5 (x1, x2, x3, y10, h))
set_option maxRecDepth 100000 in
set_option maxHeartbeats 4000000 in
theorem U_X1_chanceOfThrowing_41 (ok : zw_Ok E) (hI : ∀ i, i < 48 → i ∈ E.2.2.1) (g : zw_G p E (zw_A E) s m args c RX1 cX1_chanceOfThrowing 6) (hr : meth.sig.returnType = some .int) (hlk : meth.locks = false) {k5 : (Int32 × Int32 × Int32 × Int32 × zw_Hp) → Option (Int32 × zw_Hp)} (eL5 : ∀ (w : Int32 × Int32 × Int32 × Int32 × zw_Hp) (z : Int32 × zw_Hp), k5 w = some z → zw_V p l e s m args below meth c E mt_X1_chanceOfThrowing 6 (some (.int z.1)) z.2 5 [(0, .ref (E.2.1 30)), (1, .int w.1), (2, .int w.2.1), (3, .int w.2.2.1), (4, .int w.2.2.2.1)] [] w.2.2.2.2) :
    ∀ (x1 : Int32) (x2 : Int32) (x3 : Int32) (x4 : Int32) (h : zw_Hp) (z : Int32 × zw_Hp), B_X1_chanceOfThrowing_41 k5 x1 x2 x3 x4 h = some z → zw_V p l e s m args below meth c E mt_X1_chanceOfThrowing 6 (some (.int z.1)) z.2 41 [(0, .ref (E.2.1 30)), (1, .int x1), (2, .int x2), (3, .int x3), (4, .int x4)] [] h := by
  intro x1 x2 x3 x4 h z hM
  unfold B_X1_chanceOfThrowing_41 at hM
  obtain ⟨y10, e11, hM⟩ := zw_nm_ex hM
  refine zr_iinc (q := 44) (v := y10) (lv' := [(4, .int y10), (0, .ref (E.2.1 30)), (1, .int x1), (2, .int x2), (3, .int x3)]) g 4 dX1_chanceOfThrowing_41 rfl rfl (by rw [e11]; rfl) (by decide) rfl ?_
  refine zr_goto (tgt := 5) g dX1_chanceOfThrowing_44 rfl ?_
  refine zr_lv (lv' := [(0, .ref (E.2.1 30)), (1, .int x1), (2, .int x2), (3, .int x3), (4, .int y10)]) [1, 2, 3, 4, 0] rfl ?_
  exact eL5 _ _ hM
noncomputable def B_X1_chanceOfThrowing_5 (k5 : (Int32 × Int32 × Int32 × Int32 × zw_Hp) → Option (Int32 × zw_Hp)) (x1 : Int32) (x2 : Int32) (x3 : Int32) (x4 : Int32) (h : zw_Hp) : Option (Int32 × zw_Hp) :=
  if (16 : Int32) ≤ x4 then (some (x3, h)) else ((M_X1_weightOfFalling x4 x2 h).bind (fun z2 => if z2 ≤ 0 then (B_X1_chanceOfThrowing_41 k5 x1 x2 x3 x4 h) else ((M_X1_thrownWithout x4 h).bind (fun z5 => if z5.1 < x1 then (B_X1_chanceOfThrowing_41 k5 x1 x2 x3 x4 z5.2) else (zw_nm (x3 + z2) (fun y8 => B_X1_chanceOfThrowing_41 k5 x1 x2 y8 x4 z5.2))))))
set_option maxRecDepth 100000 in
set_option maxHeartbeats 4000000 in
theorem U_X1_chanceOfThrowing_5 (ok : zw_Ok E) (hI : ∀ i, i < 48 → i ∈ E.2.2.1) (g : zw_G p E (zw_A E) s m args c RX1 cX1_chanceOfThrowing 6) (hr : meth.sig.returnType = some .int) (hlk : meth.locks = false) {k5 : (Int32 × Int32 × Int32 × Int32 × zw_Hp) → Option (Int32 × zw_Hp)} (eL5 : ∀ (w : Int32 × Int32 × Int32 × Int32 × zw_Hp) (z : Int32 × zw_Hp), k5 w = some z → zw_V p l e s m args below meth c E mt_X1_chanceOfThrowing 6 (some (.int z.1)) z.2 5 [(0, .ref (E.2.1 30)), (1, .int w.1), (2, .int w.2.1), (3, .int w.2.2.1), (4, .int w.2.2.2.1)] [] w.2.2.2.2) :
    ∀ (x1 : Int32) (x2 : Int32) (x3 : Int32) (x4 : Int32) (h : zw_Hp) (z : Int32 × zw_Hp), B_X1_chanceOfThrowing_5 k5 x1 x2 x3 x4 h = some z → zw_V p l e s m args below meth c E mt_X1_chanceOfThrowing 6 (some (.int z.1)) z.2 5 [(0, .ref (E.2.1 30)), (1, .int x1), (2, .int x2), (3, .int x3), (4, .int x4)] [] h := by
  intro x1 x2 x3 x4 h z hM
  unfold B_X1_chanceOfThrowing_5 at hM
  refine zr_iload (q := 7) g 4 dX1_chanceOfThrowing_5 rfl rfl ?_
  refine zr_bipush (q := 9) (v := (16 : Int32)) g dX1_chanceOfThrowing_7 rfl (by decide) ?_
  refine zr_icmp_ge (q := 12) (tgt := 47) g dX1_chanceOfThrowing_9 rfl rfl (fun c1 => ?_) (fun c1 => ?_)
  · replace hM := zw_ift c1 hM
    refine zr_iload_n (q := 48) g 3 dX1_chanceOfThrowing_47 rfl rfl rfl ?_
    cases hM
    exact zr_iret g hr hlk dX1_chanceOfThrowing_48 rfl rfl
  · replace hM := zw_iff c1 hM
    refine zr_aload_n (q := 13) g 0 dX1_chanceOfThrowing_12 rfl rfl rfl ?_
    refine zr_iload (q := 15) g 4 dX1_chanceOfThrowing_13 rfl rfl ?_
    refine zr_iload_n (q := 16) g 2 dX1_chanceOfThrowing_15 rfl rfl rfl ?_
    obtain ⟨z2, q3, hM⟩ := zw_bd hM
    refine zr_callV (q := 19) (As := [.int x4, .int x2]) (rest := []) (st' := [.int z2]) (i := 30) g (R_X1_weightOfFalling ok hI q3) zv_X1_weightOfFalling zl_X1_79 (hI 30 (by decide)) zs_30 zc_X1.1 dX1_chanceOfThrowing_16 rfl rfl ⟨Nat.le_of_ble_eq_true rfl, Nat.le_of_ble_eq_true rfl⟩ ⟨Nat.zero_le _, Nat.zero_le _⟩ (Nat.le_of_ble_eq_true rfl) rfl rfl ?_
    refine zr_istore (q := 21) (lv' := [(5, .int z2), (0, .ref (E.2.1 30)), (1, .int x1), (2, .int x2), (3, .int x3), (4, .int x4)]) g dX1_chanceOfThrowing_19 rfl (by decide) rfl ?_
    refine zr_iload (q := 23) g 0 dX1_chanceOfThrowing_21 rfl rfl ?_
    refine zr_if_le (q := 26) (tgt := 41) g dX1_chanceOfThrowing_23 rfl rfl (fun c4 => ?_) (fun c4 => ?_)
    · replace hM := zw_ift c4 hM
      refine zr_lv (lv' := [(0, .ref (E.2.1 30)), (1, .int x1), (2, .int x2), (3, .int x3), (4, .int x4)]) [1, 2, 3, 4, 5] rfl ?_
      exact U_X1_chanceOfThrowing_41 ok hI g hr hlk eL5 _ _ _ _ _ _ hM
    · replace hM := zw_iff c4 hM
      refine zr_aload_n (q := 27) g 1 dX1_chanceOfThrowing_26 rfl rfl rfl ?_
      refine zr_iload (q := 29) g 5 dX1_chanceOfThrowing_27 rfl rfl ?_
      obtain ⟨z5, q6, hM⟩ := zw_bd hM
      refine zr_callV (q := 32) (As := [.int x4]) (rest := []) (st' := [.int z5.1]) (i := 30) g (R_X1_thrownWithout ok hI q6) zv_X1_thrownWithout zl_X1_83 (hI 30 (by decide)) zs_30 zc_X1.1 dX1_chanceOfThrowing_29 rfl rfl ⟨Nat.le_of_ble_eq_true rfl, Nat.le_of_ble_eq_true rfl⟩ ⟨Nat.zero_le _, Nat.zero_le _⟩ (Nat.le_of_ble_eq_true rfl) rfl rfl ?_
      refine zr_iload_n (q := 33) g 2 dX1_chanceOfThrowing_32 rfl rfl rfl ?_
      refine zr_icmp_lt (q := 36) (tgt := 41) g dX1_chanceOfThrowing_33 rfl rfl (fun c7 => ?_) (fun c7 => ?_)
      · replace hM := zw_ift c7 hM
        refine zr_lv (lv' := [(0, .ref (E.2.1 30)), (1, .int x1), (2, .int x2), (3, .int x3), (4, .int x4)]) [1, 2, 3, 4, 5] rfl ?_
        exact U_X1_chanceOfThrowing_41 ok hI g hr hlk eL5 _ _ _ _ _ _ hM
      · replace hM := zw_iff c7 hM
        refine zr_iload_n (q := 37) g 4 dX1_chanceOfThrowing_36 rfl rfl rfl ?_
        refine zr_iload (q := 39) g 0 dX1_chanceOfThrowing_37 rfl rfl ?_
        refine zr_iadd (q := 40) g dX1_chanceOfThrowing_39 rfl ?_
        obtain ⟨y8, e9, hM⟩ := zw_nm_ex hM
        refine zr_nmi e9 ?_
        refine zr_istore_n (q := 41) (lv' := [(3, .int y8), (5, .int z2), (0, .ref (E.2.1 30)), (1, .int x1), (2, .int x2), (4, .int x4)]) g dX1_chanceOfThrowing_40 rfl rfl (by decide) rfl ?_
        refine zr_lv (lv' := [(0, .ref (E.2.1 30)), (1, .int x1), (2, .int x2), (3, .int y8), (4, .int x4)]) [2, 3, 4, 0, 5] rfl ?_
        exact U_X1_chanceOfThrowing_41 ok hI g hr hlk eL5 _ _ _ _ _ _ hM
noncomputable def L_X1_chanceOfThrowing_5 (w : Int32 × Int32 × Int32 × Int32 × zw_Hp) : Option (Int32 × zw_Hp) :=
  zw_it (fun (k5 : (Int32 × Int32 × Int32 × Int32 × zw_Hp) → Option (Int32 × zw_Hp)) (w : Int32 × Int32 × Int32 × Int32 × zw_Hp) => B_X1_chanceOfThrowing_5 k5 (w.1) (w.2.1) (w.2.2.1) (w.2.2.2.1) (w.2.2.2.2)) 600 w
theorem UL_X1_chanceOfThrowing_5 (ok : zw_Ok E) (hI : ∀ i, i < 48 → i ∈ E.2.2.1) (g : zw_G p E (zw_A E) s m args c RX1 cX1_chanceOfThrowing 6) (hr : meth.sig.returnType = some .int) (hlk : meth.locks = false) :
    ∀ (w : Int32 × Int32 × Int32 × Int32 × zw_Hp) (z : Int32 × zw_Hp), L_X1_chanceOfThrowing_5 w = some z → zw_V p l e s m args below meth c E mt_X1_chanceOfThrowing 6 (some (.int z.1)) z.2 5 [(0, .ref (E.2.1 30)), (1, .int w.1), (2, .int w.2.1), (3, .int w.2.2.1), (4, .int w.2.2.2.1)] [] w.2.2.2.2 :=
  fun w z hM => zw_it_ind (P := fun (w : Int32 × Int32 × Int32 × Int32 × zw_Hp) (z : Int32 × zw_Hp) => zw_V p l e s m args below meth c E mt_X1_chanceOfThrowing 6 (some (.int z.1)) z.2 5 [(0, .ref (E.2.1 30)), (1, .int w.1), (2, .int w.2.1), (3, .int w.2.2.1), (4, .int w.2.2.2.1)] [] w.2.2.2.2) (fun k e w z hM => U_X1_chanceOfThrowing_5 ok hI g hr hlk e _ _ _ _ _ _ hM) 600 w z hM
noncomputable def M_X1_chanceOfThrowing (x1 : Int32) (x2 : Int32) (h : zw_Hp) : Option (Int32 × zw_Hp) :=
  L_X1_chanceOfThrowing_5 (x1, x2, (0 : Int32), (0 : Int32), h)
set_option maxRecDepth 100000 in
set_option maxHeartbeats 4000000 in
theorem R_X1_chanceOfThrowing (ok : zw_Ok E) (hI : ∀ i, i < 48 → i ∈ E.2.2.1) {x1 : Int32} {x2 : Int32} {h : zw_Hp} {z : Int32 × zw_Hp} (hM : M_X1_chanceOfThrowing x1 x2 h = some z) : zw_Ct l E mt_X1_chanceOfThrowing [.ref (E.2.1 30), .int x1, .int x2] h (some (.int z.1)) z.2 := by
  unfold M_X1_chanceOfThrowing at hM
  refine zw_ct (lv0 := [(0, .ref (E.2.1 30)), (1, .int x1), (2, .int x2)]) ok (by decide) rfl (Nat.le_of_ble_eq_true rfl) (fun p e s m args below meth c g hr hlk => ?_)
  replace g : zw_G p E (zw_A E) s m args c RX1 cX1_chanceOfThrowing 6 := g
  show zw_V p l e s m args below meth c E mt_X1_chanceOfThrowing 6 (some (.int z.1)) z.2 0 [(0, .ref (E.2.1 30)), (1, .int x1), (2, .int x2)] [] h
  refine zr_iconst (q := 1) (v := (0 : Int32)) g dX1_chanceOfThrowing_0 rfl (by decide) ?_
  refine zr_istore_n (q := 2) (lv' := [(3, .int (0 : Int32)), (0, .ref (E.2.1 30)), (1, .int x1), (2, .int x2)]) g dX1_chanceOfThrowing_1 rfl rfl (by decide) rfl ?_
  refine zr_iconst (q := 3) (v := (0 : Int32)) g dX1_chanceOfThrowing_2 rfl (by decide) ?_
  refine zr_istore (q := 5) (lv' := [(4, .int (0 : Int32)), (3, .int (0 : Int32)), (0, .ref (E.2.1 30)), (1, .int x1), (2, .int x2)]) g dX1_chanceOfThrowing_3 rfl (by decide) rfl ?_
  refine zr_lv (lv' := [(0, .ref (E.2.1 30)), (1, .int x1), (2, .int x2), (3, .int (0 : Int32)), (4, .int (0 : Int32))]) [2, 3, 4, 1, 0] rfl ?_
  exact UL_X1_chanceOfThrowing_5 ok hI g hr hlk _ _ hM
noncomputable def B_X8_falls_54 (k29 : (Int32 × Int32 × Int32 × Int32 × Int32 × zw_Hp) → Option (Int32 × zw_Hp)) (x1 : Int32) (x2 : Int32) (x3 : Int32) (x4 : Int32) (x5 : Int32) (h : zw_Hp) : Option (Int32 × zw_Hp) :=
  zw_nm (x5 + (1 : Int32)) (fun y15 => k29 (x1, x2, x3, x4, y15, h))
set_option maxRecDepth 100000 in
set_option maxHeartbeats 4000000 in
theorem U_X8_falls_54 (ok : zw_Ok E) (hI : ∀ i, i < 48 → i ∈ E.2.2.1) (g : zw_G p E (zw_A E) s m args c RX8 cX8_falls 6) (hr : meth.sig.returnType = some .int) (hlk : meth.locks = false) {k29 : (Int32 × Int32 × Int32 × Int32 × Int32 × zw_Hp) → Option (Int32 × zw_Hp)} (eL29 : ∀ (w : Int32 × Int32 × Int32 × Int32 × Int32 × zw_Hp) (z : Int32 × zw_Hp), k29 w = some z → zw_V p l e s m args below meth c E mt_X8_falls 6 (some (.int z.1)) z.2 29 [(0, .ref (E.2.1 0)), (1, .int w.1), (2, .int w.2.1), (3, .int w.2.2.1), (4, .int w.2.2.2.1), (5, .int w.2.2.2.2.1)] [] w.2.2.2.2.2) :
    ∀ (x1 : Int32) (x2 : Int32) (x3 : Int32) (x4 : Int32) (x5 : Int32) (h : zw_Hp) (z : Int32 × zw_Hp), B_X8_falls_54 k29 x1 x2 x3 x4 x5 h = some z → zw_V p l e s m args below meth c E mt_X8_falls 6 (some (.int z.1)) z.2 54 [(0, .ref (E.2.1 0)), (1, .int x1), (2, .int x2), (3, .int x3), (4, .int x4), (5, .int x5)] [] h := by
  intro x1 x2 x3 x4 x5 h z hM
  unfold B_X8_falls_54 at hM
  obtain ⟨y15, e16, hM⟩ := zw_nm_ex hM
  refine zr_iinc (q := 57) (v := y15) (lv' := [(5, .int y15), (0, .ref (E.2.1 0)), (1, .int x1), (2, .int x2), (3, .int x3), (4, .int x4)]) g 5 dX8_falls_54 rfl rfl (by rw [e16]; rfl) (by decide) rfl ?_
  refine zr_goto (tgt := 29) g dX8_falls_57 rfl ?_
  refine zr_lv (lv' := [(0, .ref (E.2.1 0)), (1, .int x1), (2, .int x2), (3, .int x3), (4, .int x4), (5, .int y15)]) [1, 2, 3, 4, 5, 0] rfl ?_
  exact eL29 _ _ hM
noncomputable def B_X8_falls_29 (k29 : (Int32 × Int32 × Int32 × Int32 × Int32 × zw_Hp) → Option (Int32 × zw_Hp)) (x1 : Int32) (x2 : Int32) (x3 : Int32) (x4 : Int32) (x5 : Int32) (h : zw_Hp) : Option (Int32 × zw_Hp) :=
  if (4 : Int32) ≤ x5 then ((M_X1_chanceOfThrowing x1 x2 h).bind (fun z6 => (M_X8_leastTerm z6.1 x4 x3 z6.2).bind (fun z8 => some (z8, z6.2)))) else ((M_X3_isHeld 9 x5 h).bind (fun z10 => if z10 = 0 then (B_X8_falls_54 k29 x1 x2 x3 x4 x5 h) else (zw_nm (x4 * (10 : Int32)) (fun y13 => B_X8_falls_54 k29 x1 x2 x3 y13 x5 h))))
set_option maxRecDepth 100000 in
set_option maxHeartbeats 4000000 in
theorem U_X8_falls_29 (ok : zw_Ok E) (hI : ∀ i, i < 48 → i ∈ E.2.2.1) (g : zw_G p E (zw_A E) s m args c RX8 cX8_falls 6) (hr : meth.sig.returnType = some .int) (hlk : meth.locks = false) {k29 : (Int32 × Int32 × Int32 × Int32 × Int32 × zw_Hp) → Option (Int32 × zw_Hp)} (eL29 : ∀ (w : Int32 × Int32 × Int32 × Int32 × Int32 × zw_Hp) (z : Int32 × zw_Hp), k29 w = some z → zw_V p l e s m args below meth c E mt_X8_falls 6 (some (.int z.1)) z.2 29 [(0, .ref (E.2.1 0)), (1, .int w.1), (2, .int w.2.1), (3, .int w.2.2.1), (4, .int w.2.2.2.1), (5, .int w.2.2.2.2.1)] [] w.2.2.2.2.2) :
    ∀ (x1 : Int32) (x2 : Int32) (x3 : Int32) (x4 : Int32) (x5 : Int32) (h : zw_Hp) (z : Int32 × zw_Hp), B_X8_falls_29 k29 x1 x2 x3 x4 x5 h = some z → zw_V p l e s m args below meth c E mt_X8_falls 6 (some (.int z.1)) z.2 29 [(0, .ref (E.2.1 0)), (1, .int x1), (2, .int x2), (3, .int x3), (4, .int x4), (5, .int x5)] [] h := by
  intro x1 x2 x3 x4 x5 h z hM
  unfold B_X8_falls_29 at hM
  refine zr_iload (q := 31) g 5 dX8_falls_29 rfl rfl ?_
  refine zr_iconst (q := 32) (v := (4 : Int32)) g dX8_falls_31 rfl (by decide) ?_
  refine zr_icmp_ge (q := 35) (tgt := 60) g dX8_falls_32 rfl rfl (fun c5 => ?_) (fun c5 => ?_)
  · replace hM := zw_ift c5 hM
    refine zr_aload_n (q := 61) g 0 dX8_falls_60 rfl rfl rfl ?_
    refine zr_getr (q := 64) (k0 := 9) (j := 30) g (hI 0 (by decide)) zs_0 rfl zf_X8_74 dX8_falls_61 rfl ?_
    refine zr_iload_n (q := 65) g 1 dX8_falls_64 rfl rfl rfl ?_
    refine zr_iload_n (q := 66) g 2 dX8_falls_65 rfl rfl rfl ?_
    obtain ⟨z6, q7, hM⟩ := zw_bd hM
    refine zr_callV (q := 69) (As := [.int x1, .int x2]) (rest := []) (st' := [.int z6.1]) (i := 30) g (R_X1_chanceOfThrowing ok hI q7) zv_X1_chanceOfThrowing zl_X8_254 (hI 30 (by decide)) zs_30 zc_X1.1 dX8_falls_66 rfl rfl ⟨Nat.le_of_ble_eq_true rfl, Nat.le_of_ble_eq_true rfl⟩ ⟨Nat.zero_le _, Nat.zero_le _⟩ (Nat.le_of_ble_eq_true rfl) rfl rfl ?_
    refine zr_iload (q := 71) g 4 dX8_falls_69 rfl rfl ?_
    refine zr_iload_n (q := 72) g 3 dX8_falls_71 rfl rfl rfl ?_
    obtain ⟨z8, q9, hM⟩ := zw_bd hM
    refine zr_callS (q := 75) (As := [.int z6.1, .int x4, .int x3]) (rest := []) (st' := [.int z8]) g (R_X8_leastTerm ok hI q9) zv_X8_leastTerm zl_X8_233 dX8_falls_72 rfl rfl ⟨Nat.le_of_ble_eq_true rfl, Nat.le_of_ble_eq_true rfl⟩ ⟨Nat.zero_le _, Nat.zero_le _⟩ (Nat.le_of_ble_eq_true rfl) rfl rfl ?_
    cases hM
    exact zr_iret g hr hlk dX8_falls_75 rfl rfl
  · replace hM := zw_iff c5 hM
    refine zr_aload_n (q := 36) g 0 dX8_falls_35 rfl rfl rfl ?_
    refine zr_getr (q := 39) (k0 := 3) (j := 9) g (hI 0 (by decide)) zs_0 rfl zf_X8_31 dX8_falls_36 rfl ?_
    refine zr_iload (q := 41) g 5 dX8_falls_39 rfl rfl ?_
    obtain ⟨z10, q11, hM⟩ := zw_bd hM
    refine zr_callV (q := 44) (As := [.int x5]) (rest := []) (st' := [.int z10]) (i := 9) g (R_X3_isHeld (Or.inl rfl) ok hI q11) zv_X3_isHeld zl_X8_188 (hI 9 (by decide)) zs_9 zc_X3.1 dX8_falls_41 rfl rfl ⟨Nat.le_of_ble_eq_true rfl, Nat.le_of_ble_eq_true rfl⟩ ⟨Nat.zero_le _, Nat.zero_le _⟩ (Nat.le_of_ble_eq_true rfl) rfl rfl ?_
    refine zr_if_eq (q := 47) (tgt := 54) g dX8_falls_44 rfl rfl (fun c12 => ?_) (fun c12 => ?_)
    · replace hM := zw_ift c12 hM
      exact U_X8_falls_54 ok hI g hr hlk eL29 _ _ _ _ _ _ _ hM
    · replace hM := zw_iff c12 hM
      refine zr_iload (q := 49) g 4 dX8_falls_47 rfl rfl ?_
      refine zr_bipush (q := 51) (v := (10 : Int32)) g dX8_falls_49 rfl (by decide) ?_
      refine zr_imul (q := 52) g dX8_falls_51 rfl ?_
      obtain ⟨y13, e14, hM⟩ := zw_nm_ex hM
      refine zr_nmi e14 ?_
      refine zr_istore (q := 54) (lv' := [(4, .int y13), (0, .ref (E.2.1 0)), (1, .int x1), (2, .int x2), (3, .int x3), (5, .int x5)]) g dX8_falls_52 rfl (by decide) rfl ?_
      refine zr_lv (lv' := [(0, .ref (E.2.1 0)), (1, .int x1), (2, .int x2), (3, .int x3), (4, .int y13), (5, .int x5)]) [1, 2, 3, 4, 0, 5] rfl ?_
      exact U_X8_falls_54 ok hI g hr hlk eL29 _ _ _ _ _ _ _ hM
noncomputable def L_X8_falls_29 (w : Int32 × Int32 × Int32 × Int32 × Int32 × zw_Hp) : Option (Int32 × zw_Hp) :=
  zw_it (fun (k29 : (Int32 × Int32 × Int32 × Int32 × Int32 × zw_Hp) → Option (Int32 × zw_Hp)) (w : Int32 × Int32 × Int32 × Int32 × Int32 × zw_Hp) => B_X8_falls_29 k29 (w.1) (w.2.1) (w.2.2.1) (w.2.2.2.1) (w.2.2.2.2.1) (w.2.2.2.2.2)) 600 w
theorem UL_X8_falls_29 (ok : zw_Ok E) (hI : ∀ i, i < 48 → i ∈ E.2.2.1) (g : zw_G p E (zw_A E) s m args c RX8 cX8_falls 6) (hr : meth.sig.returnType = some .int) (hlk : meth.locks = false) :
    ∀ (w : Int32 × Int32 × Int32 × Int32 × Int32 × zw_Hp) (z : Int32 × zw_Hp), L_X8_falls_29 w = some z → zw_V p l e s m args below meth c E mt_X8_falls 6 (some (.int z.1)) z.2 29 [(0, .ref (E.2.1 0)), (1, .int w.1), (2, .int w.2.1), (3, .int w.2.2.1), (4, .int w.2.2.2.1), (5, .int w.2.2.2.2.1)] [] w.2.2.2.2.2 :=
  fun w z hM => zw_it_ind (P := fun (w : Int32 × Int32 × Int32 × Int32 × Int32 × zw_Hp) (z : Int32 × zw_Hp) => zw_V p l e s m args below meth c E mt_X8_falls 6 (some (.int z.1)) z.2 29 [(0, .ref (E.2.1 0)), (1, .int w.1), (2, .int w.2.1), (3, .int w.2.2.1), (4, .int w.2.2.2.1), (5, .int w.2.2.2.2.1)] [] w.2.2.2.2.2) (fun k e w z hM => U_X8_falls_29 ok hI g hr hlk e _ _ _ _ _ _ _ hM) 600 w z hM
noncomputable def M_X8_falls (x1 : Int32) (x2 : Int32) (x3 : Int32) (h : zw_Hp) : Option (Int32 × zw_Hp) :=
  if x1 < 0 then (some ((-2 : Int32), h)) else (if (99 : Int32) < x1 then (some ((-2 : Int32), h)) else (if x2 < 0 then (some ((-2 : Int32), h)) else (if x2 ≤ (10 : Int32) then (L_X8_falls_29 (x1, x2, x3, (1 : Int32), (0 : Int32), h)) else (some ((-2 : Int32), h)))))
set_option maxRecDepth 100000 in
set_option maxHeartbeats 4000000 in
theorem R_X8_falls (ok : zw_Ok E) (hI : ∀ i, i < 48 → i ∈ E.2.2.1) {x1 : Int32} {x2 : Int32} {x3 : Int32} {h : zw_Hp} {z : Int32 × zw_Hp} (hM : M_X8_falls x1 x2 x3 h = some z) : zw_Ct l E mt_X8_falls [.ref (E.2.1 0), .int x1, .int x2, .int x3] h (some (.int z.1)) z.2 := by
  unfold M_X8_falls at hM
  refine zw_ct (lv0 := [(0, .ref (E.2.1 0)), (1, .int x1), (2, .int x2), (3, .int x3)]) ok (by decide) rfl (Nat.le_of_ble_eq_true rfl) (fun p e s m args below meth c g hr hlk => ?_)
  replace g : zw_G p E (zw_A E) s m args c RX8 cX8_falls 6 := g
  show zw_V p l e s m args below meth c E mt_X8_falls 6 (some (.int z.1)) z.2 0 [(0, .ref (E.2.1 0)), (1, .int x1), (2, .int x2), (3, .int x3)] [] h
  refine zr_iload_n (q := 1) g 1 dX8_falls_0 rfl rfl rfl ?_
  refine zr_if_lt (q := 4) (tgt := 20) g dX8_falls_1 rfl rfl (fun c1 => ?_) (fun c1 => ?_)
  · replace hM := zw_ift c1 hM
    refine zr_bipush (q := 22) (v := (-2 : Int32)) g dX8_falls_20 rfl (by decide) ?_
    cases hM
    exact zr_iret g hr hlk dX8_falls_22 rfl rfl
  · replace hM := zw_iff c1 hM
    refine zr_iload_n (q := 5) g 1 dX8_falls_4 rfl rfl rfl ?_
    refine zr_bipush (q := 7) (v := (99 : Int32)) g dX8_falls_5 rfl (by decide) ?_
    refine zr_icmp_gt (q := 10) (tgt := 20) g dX8_falls_7 rfl rfl (fun c2 => ?_) (fun c2 => ?_)
    · replace hM := zw_ift c2 hM
      refine zr_bipush (q := 22) (v := (-2 : Int32)) g dX8_falls_20 rfl (by decide) ?_
      cases hM
      exact zr_iret g hr hlk dX8_falls_22 rfl rfl
    · replace hM := zw_iff c2 hM
      refine zr_iload_n (q := 11) g 2 dX8_falls_10 rfl rfl rfl ?_
      refine zr_if_lt (q := 14) (tgt := 20) g dX8_falls_11 rfl rfl (fun c3 => ?_) (fun c3 => ?_)
      · replace hM := zw_ift c3 hM
        refine zr_bipush (q := 22) (v := (-2 : Int32)) g dX8_falls_20 rfl (by decide) ?_
        cases hM
        exact zr_iret g hr hlk dX8_falls_22 rfl rfl
      · replace hM := zw_iff c3 hM
        refine zr_iload_n (q := 15) g 2 dX8_falls_14 rfl rfl rfl ?_
        refine zr_bipush (q := 17) (v := (10 : Int32)) g dX8_falls_15 rfl (by decide) ?_
        refine zr_icmp_le (q := 20) (tgt := 23) g dX8_falls_17 rfl rfl (fun c4 => ?_) (fun c4 => ?_)
        · replace hM := zw_ift c4 hM
          refine zr_iconst (q := 24) (v := (1 : Int32)) g dX8_falls_23 rfl (by decide) ?_
          refine zr_istore (q := 26) (lv' := [(4, .int (1 : Int32)), (0, .ref (E.2.1 0)), (1, .int x1), (2, .int x2), (3, .int x3)]) g dX8_falls_24 rfl (by decide) rfl ?_
          refine zr_iconst (q := 27) (v := (0 : Int32)) g dX8_falls_26 rfl (by decide) ?_
          refine zr_istore (q := 29) (lv' := [(5, .int (0 : Int32)), (4, .int (1 : Int32)), (0, .ref (E.2.1 0)), (1, .int x1), (2, .int x2), (3, .int x3)]) g dX8_falls_27 rfl (by decide) rfl ?_
          refine zr_lv (lv' := [(0, .ref (E.2.1 0)), (1, .int x1), (2, .int x2), (3, .int x3), (4, .int (1 : Int32)), (5, .int (0 : Int32))]) [2, 3, 4, 5, 1, 0] rfl ?_
          exact UL_X8_falls_29 ok hI g hr hlk _ _ hM
        · replace hM := zw_iff c4 hM
          refine zr_bipush (q := 22) (v := (-2 : Int32)) g dX8_falls_20 rfl (by decide) ?_
          cases hM
          exact zr_iret g hr hlk dX8_falls_22 rfl rfl
noncomputable def M_X8_seed (x1 : Int64) (h : zw_Hp) : Option (Int64 × zw_Hp) :=
  zw_nm (h.2 0) (fun y1 => zw_nm (zw_upL h 0 x1) (fun h3 => some (y1, h3)))
set_option maxRecDepth 100000 in
set_option maxHeartbeats 4000000 in
theorem R_X8_seed (ok : zw_Ok E) (hI : ∀ i, i < 48 → i ∈ E.2.2.1) {x1 : Int64} {h : zw_Hp} {z : Int64 × zw_Hp} (hM : M_X8_seed x1 h = some z) : zw_Ct l E mt_X8_seed [.ref (E.2.1 0), .long x1] h (some (.long z.1)) z.2 := by
  unfold M_X8_seed at hM
  refine zw_ct (lv0 := [(0, .ref (E.2.1 0)), (1, .long x1)]) ok (by decide) rfl (Nat.le_of_ble_eq_true rfl) (fun p e s m args below meth c g hr hlk => ?_)
  replace g : zw_G p E (zw_A E) s m args c RX8 cX8_seed 5 := g
  show zw_V p l e s m args below meth c E mt_X8_seed 5 (some (.long z.1)) z.2 0 [(0, .ref (E.2.1 0)), (1, .long x1)] [] h
  refine zr_aload_n (q := 1) g 0 dX8_seed_0 rfl rfl rfl ?_
  refine zr_getl (q := 4) (k0 := 10) g (hI 0 (by decide)) zs_0 rfl zf_X8_78 dX8_seed_1 rfl ?_
  obtain ⟨y1, e2, hM⟩ := zw_nm_ex hM
  refine zr_nml e2 ?_
  refine zr_lstore_n (q := 5) (lv' := [(3, .long y1), (0, .ref (E.2.1 0)), (1, .long x1)]) g dX8_seed_4 rfl rfl (by decide) rfl ?_
  refine zr_aload_n (q := 6) g 1 dX8_seed_5 rfl rfl rfl ?_
  refine zr_lload_n (q := 7) g 2 dX8_seed_6 rfl rfl rfl ?_
  obtain ⟨h3, e4, hM⟩ := zw_nm_ex hM
  refine zr_putl (q := 10) (k0 := 10) (h' := h3) g (hI 0 (by decide)) zs_0 rfl (by intro j hj; rcases j with _ | _ | _ | _ | _ | _ | _ | _ | _ | _ | _ | _ | _ | _ | _ | _ | _ | _ | _ | _ | _ | _ | _ | _ | _ | _ | _ | _ | _ | _ | _ | _ | _ | _ | _ | _ | _ | _ | j <;> first | rfl | simp at hj) zp_X8_78 dX8_seed_7 rfl e4 ?_
  refine zr_lload_n (q := 11) g 0 dX8_seed_10 rfl rfl rfl ?_
  cases hM
  exact zr_lret g hr hlk dX8_seed_11 rfl rfl
noncomputable def M_X1_fireBehindChance (x1 : Int32) (h : zw_Hp) : Option (Int32 × zw_Hp) :=
  if (4 : Int32) ≤ x1 then (if (8 : Int32) ≤ x1 then (if (12 : Int32) ≤ x1 then ((M_X3_follow 14 (0 : Int32) (0 : Int32) (0 : Int32) h).bind (fun z4 => some ((z4.2.1 14 6), z4.2))) else ((M_X3_follow 14 (2 : Int32) (0 : Int32) (x1 - (8 : Int32)) h).bind (fun z6 => some ((z6.2.1 14 6), z6.2)))) else ((M_X3_follow 14 (3 : Int32) (0 : Int32) (x1 - (4 : Int32)) h).bind (fun z8 => some ((z8.2.1 14 6), z8.2)))) else ((M_X3_follow 14 (1 : Int32) x1 (x1 + (1 : Int32)) h).bind (fun z10 => some ((z10.2.1 14 6), z10.2)))
set_option maxRecDepth 100000 in
set_option maxHeartbeats 4000000 in
theorem R_X1_fireBehindChance (ok : zw_Ok E) (hI : ∀ i, i < 48 → i ∈ E.2.2.1) {x1 : Int32} {h : zw_Hp} {z : Int32 × zw_Hp} (hM : M_X1_fireBehindChance x1 h = some z) : zw_Ct l E mt_X1_fireBehindChance [.ref (E.2.1 30), .int x1] h (some (.int z.1)) z.2 := by
  unfold M_X1_fireBehindChance at hM
  refine zw_ct (lv0 := [(0, .ref (E.2.1 30)), (1, .int x1)]) ok (by decide) rfl (Nat.le_of_ble_eq_true rfl) (fun p e s m args below meth c g hr hlk => ?_)
  replace g : zw_G p E (zw_A E) s m args c RX1 cX1_fireBehindChance 2 := g
  show zw_V p l e s m args below meth c E mt_X1_fireBehindChance 2 (some (.int z.1)) z.2 0 [(0, .ref (E.2.1 30)), (1, .int x1)] [] h
  refine zr_iload_n (q := 1) g 1 dX1_fireBehindChance_0 rfl rfl rfl ?_
  refine zr_iconst (q := 2) (v := (4 : Int32)) g dX1_fireBehindChance_1 rfl (by decide) ?_
  refine zr_icmp_ge (q := 5) (tgt := 21) g dX1_fireBehindChance_2 rfl rfl (fun c1 => ?_) (fun c1 => ?_)
  · replace hM := zw_ift c1 hM
    refine zr_iload_n (q := 22) g 1 dX1_fireBehindChance_21 rfl rfl rfl ?_
    refine zr_bipush (q := 24) (v := (8 : Int32)) g dX1_fireBehindChance_22 rfl (by decide) ?_
    refine zr_icmp_ge (q := 27) (tgt := 43) g dX1_fireBehindChance_24 rfl rfl (fun c2 => ?_) (fun c2 => ?_)
    · replace hM := zw_ift c2 hM
      refine zr_iload_n (q := 44) g 1 dX1_fireBehindChance_43 rfl rfl rfl ?_
      refine zr_bipush (q := 46) (v := (12 : Int32)) g dX1_fireBehindChance_44 rfl (by decide) ?_
      refine zr_icmp_ge (q := 49) (tgt := 66) g dX1_fireBehindChance_46 rfl rfl (fun c3 => ?_) (fun c3 => ?_)
      · replace hM := zw_ift c3 hM
        refine zr_aload_n (q := 67) g 0 dX1_fireBehindChance_66 rfl rfl rfl ?_
        refine zr_getr (q := 70) (k0 := 2) (j := 14) g (hI 30 (by decide)) zs_30 rfl zf_X1_19 dX1_fireBehindChance_67 rfl ?_
        refine zr_iconst (q := 71) (v := (0 : Int32)) g dX1_fireBehindChance_70 rfl (by decide) ?_
        refine zr_iconst (q := 72) (v := (0 : Int32)) g dX1_fireBehindChance_71 rfl (by decide) ?_
        refine zr_iconst (q := 73) (v := (0 : Int32)) g dX1_fireBehindChance_72 rfl (by decide) ?_
        obtain ⟨z4, q5, hM⟩ := zw_bd hM
        refine zr_callV (q := 76) (As := [.int (0 : Int32), .int (0 : Int32), .int (0 : Int32)]) (rest := []) (st' := [.int z4.1]) (i := 14) g (R_X3_follow (Or.inr rfl) ok hI q5) zv_X3_follow zl_X1_48 (hI 14 (by decide)) zs_14 zc_X3.1 dX1_fireBehindChance_73 rfl rfl ⟨Nat.le_of_ble_eq_true rfl, Nat.le_of_ble_eq_true rfl⟩ ⟨Nat.zero_le _, Nat.zero_le _⟩ (Nat.le_of_ble_eq_true rfl) rfl rfl ?_
        refine zr_pop (q := 77) g dX1_fireBehindChance_76 rfl rfl ?_
        refine zr_aload_n (q := 78) g 0 dX1_fireBehindChance_77 rfl rfl rfl ?_
        refine zr_getr (q := 81) (k0 := 2) (j := 14) g (hI 30 (by decide)) zs_30 rfl zf_X1_19 dX1_fireBehindChance_78 rfl ?_
        refine zr_geti (q := 84) (k0 := 6) g (hI 14 (by decide)) zs_14 rfl zf_X1_35 dX1_fireBehindChance_81 rfl ?_
        cases hM
        exact zr_iret g hr hlk dX1_fireBehindChance_84 rfl rfl
      · replace hM := zw_iff c3 hM
        refine zr_aload_n (q := 50) g 0 dX1_fireBehindChance_49 rfl rfl rfl ?_
        refine zr_getr (q := 53) (k0 := 2) (j := 14) g (hI 30 (by decide)) zs_30 rfl zf_X1_19 dX1_fireBehindChance_50 rfl ?_
        refine zr_iconst (q := 54) (v := (2 : Int32)) g dX1_fireBehindChance_53 rfl (by decide) ?_
        refine zr_iconst (q := 55) (v := (0 : Int32)) g dX1_fireBehindChance_54 rfl (by decide) ?_
        refine zr_iload_n (q := 56) g 1 dX1_fireBehindChance_55 rfl rfl rfl ?_
        refine zr_bipush (q := 58) (v := (8 : Int32)) g dX1_fireBehindChance_56 rfl (by decide) ?_
        refine zr_isub (q := 59) g dX1_fireBehindChance_58 rfl ?_
        obtain ⟨z6, q7, hM⟩ := zw_bd hM
        refine zr_callV (q := 62) (As := [.int (2 : Int32), .int (0 : Int32), .int (x1 - (8 : Int32))]) (rest := []) (st' := [.int z6.1]) (i := 14) g (R_X3_follow (Or.inr rfl) ok hI q7) zv_X3_follow zl_X1_48 (hI 14 (by decide)) zs_14 zc_X3.1 dX1_fireBehindChance_59 rfl rfl ⟨Nat.le_of_ble_eq_true rfl, Nat.le_of_ble_eq_true rfl⟩ ⟨Nat.zero_le _, Nat.zero_le _⟩ (Nat.le_of_ble_eq_true rfl) rfl rfl ?_
        refine zr_pop (q := 63) g dX1_fireBehindChance_62 rfl rfl ?_
        refine zr_goto (tgt := 77) g dX1_fireBehindChance_63 rfl ?_
        refine zr_aload_n (q := 78) g 0 dX1_fireBehindChance_77 rfl rfl rfl ?_
        refine zr_getr (q := 81) (k0 := 2) (j := 14) g (hI 30 (by decide)) zs_30 rfl zf_X1_19 dX1_fireBehindChance_78 rfl ?_
        refine zr_geti (q := 84) (k0 := 6) g (hI 14 (by decide)) zs_14 rfl zf_X1_35 dX1_fireBehindChance_81 rfl ?_
        cases hM
        exact zr_iret g hr hlk dX1_fireBehindChance_84 rfl rfl
    · replace hM := zw_iff c2 hM
      refine zr_aload_n (q := 28) g 0 dX1_fireBehindChance_27 rfl rfl rfl ?_
      refine zr_getr (q := 31) (k0 := 2) (j := 14) g (hI 30 (by decide)) zs_30 rfl zf_X1_19 dX1_fireBehindChance_28 rfl ?_
      refine zr_iconst (q := 32) (v := (3 : Int32)) g dX1_fireBehindChance_31 rfl (by decide) ?_
      refine zr_iconst (q := 33) (v := (0 : Int32)) g dX1_fireBehindChance_32 rfl (by decide) ?_
      refine zr_iload_n (q := 34) g 1 dX1_fireBehindChance_33 rfl rfl rfl ?_
      refine zr_iconst (q := 35) (v := (4 : Int32)) g dX1_fireBehindChance_34 rfl (by decide) ?_
      refine zr_isub (q := 36) g dX1_fireBehindChance_35 rfl ?_
      obtain ⟨z8, q9, hM⟩ := zw_bd hM
      refine zr_callV (q := 39) (As := [.int (3 : Int32), .int (0 : Int32), .int (x1 - (4 : Int32))]) (rest := []) (st' := [.int z8.1]) (i := 14) g (R_X3_follow (Or.inr rfl) ok hI q9) zv_X3_follow zl_X1_48 (hI 14 (by decide)) zs_14 zc_X3.1 dX1_fireBehindChance_36 rfl rfl ⟨Nat.le_of_ble_eq_true rfl, Nat.le_of_ble_eq_true rfl⟩ ⟨Nat.zero_le _, Nat.zero_le _⟩ (Nat.le_of_ble_eq_true rfl) rfl rfl ?_
      refine zr_pop (q := 40) g dX1_fireBehindChance_39 rfl rfl ?_
      refine zr_goto (tgt := 77) g dX1_fireBehindChance_40 rfl ?_
      refine zr_aload_n (q := 78) g 0 dX1_fireBehindChance_77 rfl rfl rfl ?_
      refine zr_getr (q := 81) (k0 := 2) (j := 14) g (hI 30 (by decide)) zs_30 rfl zf_X1_19 dX1_fireBehindChance_78 rfl ?_
      refine zr_geti (q := 84) (k0 := 6) g (hI 14 (by decide)) zs_14 rfl zf_X1_35 dX1_fireBehindChance_81 rfl ?_
      cases hM
      exact zr_iret g hr hlk dX1_fireBehindChance_84 rfl rfl
  · replace hM := zw_iff c1 hM
    refine zr_aload_n (q := 6) g 0 dX1_fireBehindChance_5 rfl rfl rfl ?_
    refine zr_getr (q := 9) (k0 := 2) (j := 14) g (hI 30 (by decide)) zs_30 rfl zf_X1_19 dX1_fireBehindChance_6 rfl ?_
    refine zr_iconst (q := 10) (v := (1 : Int32)) g dX1_fireBehindChance_9 rfl (by decide) ?_
    refine zr_iload_n (q := 11) g 1 dX1_fireBehindChance_10 rfl rfl rfl ?_
    refine zr_iload_n (q := 12) g 1 dX1_fireBehindChance_11 rfl rfl rfl ?_
    refine zr_iconst (q := 13) (v := (1 : Int32)) g dX1_fireBehindChance_12 rfl (by decide) ?_
    refine zr_iadd (q := 14) g dX1_fireBehindChance_13 rfl ?_
    obtain ⟨z10, q11, hM⟩ := zw_bd hM
    refine zr_callV (q := 17) (As := [.int (1 : Int32), .int x1, .int (x1 + (1 : Int32))]) (rest := []) (st' := [.int z10.1]) (i := 14) g (R_X3_follow (Or.inr rfl) ok hI q11) zv_X3_follow zl_X1_48 (hI 14 (by decide)) zs_14 zc_X3.1 dX1_fireBehindChance_14 rfl rfl ⟨Nat.le_of_ble_eq_true rfl, Nat.le_of_ble_eq_true rfl⟩ ⟨Nat.zero_le _, Nat.zero_le _⟩ (Nat.le_of_ble_eq_true rfl) rfl rfl ?_
    refine zr_pop (q := 18) g dX1_fireBehindChance_17 rfl rfl ?_
    refine zr_goto (tgt := 77) g dX1_fireBehindChance_18 rfl ?_
    refine zr_aload_n (q := 78) g 0 dX1_fireBehindChance_77 rfl rfl rfl ?_
    refine zr_getr (q := 81) (k0 := 2) (j := 14) g (hI 30 (by decide)) zs_30 rfl zf_X1_19 dX1_fireBehindChance_78 rfl ?_
    refine zr_geti (q := 84) (k0 := 6) g (hI 14 (by decide)) zs_14 rfl zf_X1_35 dX1_fireBehindChance_81 rfl ?_
    cases hM
    exact zr_iret g hr hlk dX1_fireBehindChance_84 rfl rfl
noncomputable def B_X8_nights_25 (k25 : (Int32 × Int32 × Int32 × zw_Hp) → Option (Int32 × zw_Hp)) (x1 : Int32) (x2 : Int32) (x3 : Int32) (h : zw_Hp) : Option (Int32 × zw_Hp) :=
  if x1 ≤ x3 then (some (x2, h)) else (zw_nm (zw_upL h 0 (((h.2 0) * (6364136223846793005 : Int64)) + (1442695040888963407 : Int64))) (fun h6 => (M_X1_fireBehindChance ((((((h6.2 0)).toUInt64 >>> (((33 : Int32)).toInt64.toUInt64 &&& Int64.toUInt64 63)).toInt64) - ((((h6.2 0)).toUInt64 >>> (((33 : Int32)).toInt64.toUInt64 &&& Int64.toUInt64 63)).toInt64) / (24 : Int64) * (24 : Int64))).toInt32 h6).bind (fun z8 => zw_nm (x2 + z8.1) (fun y10 => zw_nm (x3 + (1 : Int32)) (fun y12 => k25 (x1, y10, y12, z8.2))))))
set_option maxRecDepth 100000 in
set_option maxHeartbeats 4000000 in
theorem U_X8_nights_25 (ok : zw_Ok E) (hI : ∀ i, i < 48 → i ∈ E.2.2.1) (g : zw_G p E (zw_A E) s m args c RX8 cX8_nights 4) (hr : meth.sig.returnType = some .int) (hlk : meth.locks = false) {k25 : (Int32 × Int32 × Int32 × zw_Hp) → Option (Int32 × zw_Hp)} (eL25 : ∀ (w : Int32 × Int32 × Int32 × zw_Hp) (z : Int32 × zw_Hp), k25 w = some z → zw_V p l e s m args below meth c E mt_X8_nights 4 (some (.int z.1)) z.2 25 [(0, .ref (E.2.1 0)), (1, .int w.1), (2, .int w.2.1), (3, .int w.2.2.1)] [] w.2.2.2) :
    ∀ (x1 : Int32) (x2 : Int32) (x3 : Int32) (h : zw_Hp) (z : Int32 × zw_Hp), B_X8_nights_25 k25 x1 x2 x3 h = some z → zw_V p l e s m args below meth c E mt_X8_nights 4 (some (.int z.1)) z.2 25 [(0, .ref (E.2.1 0)), (1, .int x1), (2, .int x2), (3, .int x3)] [] h := by
  intro x1 x2 x3 h z hM
  unfold B_X8_nights_25 at hM
  refine zr_iload_n (q := 26) g 3 dX8_nights_25 rfl rfl rfl ?_
  refine zr_iload_n (q := 27) g 1 dX8_nights_26 rfl rfl rfl ?_
  refine zr_icmp_ge (q := 30) (tgt := 74) g dX8_nights_27 rfl rfl (fun c5 => ?_) (fun c5 => ?_)
  · replace hM := zw_ift c5 hM
    refine zr_iload_n (q := 75) g 2 dX8_nights_74 rfl rfl rfl ?_
    cases hM
    exact zr_iret g hr hlk dX8_nights_75 rfl rfl
  · replace hM := zw_iff c5 hM
    refine zr_aload_n (q := 31) g 0 dX8_nights_30 rfl rfl rfl ?_
    refine zr_aload_n (q := 32) g 0 dX8_nights_31 rfl rfl rfl ?_
    refine zr_getl (q := 35) (k0 := 10) g (hI 0 (by decide)) zs_0 rfl zf_X8_78 dX8_nights_32 rfl ?_
    refine zr_ldc2 (q := 38) (v := (6364136223846793005 : Int64)) g dX8_nights_35 rfl zk_X8_260 ?_
    refine zr_lmul (q := 39) g dX8_nights_38 rfl ?_
    refine zr_ldc2 (q := 42) (v := (1442695040888963407 : Int64)) g dX8_nights_39 rfl zk_X8_262 ?_
    refine zr_ladd (q := 43) g dX8_nights_42 rfl ?_
    obtain ⟨h6, e7, hM⟩ := zw_nm_ex hM
    refine zr_putl (q := 46) (k0 := 10) (h' := h6) g (hI 0 (by decide)) zs_0 rfl (by intro j hj; rcases j with _ | _ | _ | _ | _ | _ | _ | _ | _ | _ | _ | _ | _ | _ | _ | _ | _ | _ | _ | _ | _ | _ | _ | _ | _ | _ | _ | _ | _ | _ | _ | _ | _ | _ | _ | _ | _ | _ | j <;> first | rfl | simp at hj) zp_X8_78 dX8_nights_43 rfl e7 ?_
    refine zr_iload_n (q := 47) g 2 dX8_nights_46 rfl rfl rfl ?_
    refine zr_aload_n (q := 48) g 0 dX8_nights_47 rfl rfl rfl ?_
    refine zr_getr (q := 51) (k0 := 9) (j := 30) g (hI 0 (by decide)) zs_0 rfl zf_X8_74 dX8_nights_48 rfl ?_
    refine zr_aload_n (q := 52) g 0 dX8_nights_51 rfl rfl rfl ?_
    refine zr_getl (q := 55) (k0 := 10) g (hI 0 (by decide)) zs_0 rfl zf_X8_78 dX8_nights_52 rfl ?_
    refine zr_bipush (q := 57) (v := (33 : Int32)) g dX8_nights_55 rfl (by decide) ?_
    refine zr_lushr (q := 58) g dX8_nights_57 rfl ?_
    refine zr_ldc2 (q := 61) (v := (24 : Int64)) g dX8_nights_58 rfl zk_X8_264 ?_
    refine zr_lrem (q := 62) g dX8_nights_61 rfl (by decide) ?_
    refine zr_l2i (q := 63) g dX8_nights_62 rfl ?_
    obtain ⟨z8, q9, hM⟩ := zw_bd hM
    refine zr_callV (q := 66) (As := [.int ((((((h6.2 0)).toUInt64 >>> (((33 : Int32)).toInt64.toUInt64 &&& Int64.toUInt64 63)).toInt64) - ((((h6.2 0)).toUInt64 >>> (((33 : Int32)).toInt64.toUInt64 &&& Int64.toUInt64 63)).toInt64) / (24 : Int64) * (24 : Int64))).toInt32]) (rest := [.int x2]) (st' := [.int z8.1, .int x2]) (i := 30) g (R_X1_fireBehindChance ok hI q9) zv_X1_fireBehindChance zl_X8_266 (hI 30 (by decide)) zs_30 zc_X1.1 dX8_nights_63 rfl rfl ⟨Nat.le_of_ble_eq_true rfl, Nat.le_of_ble_eq_true rfl⟩ ⟨Nat.zero_le _, Nat.zero_le _⟩ (Nat.le_of_ble_eq_true rfl) rfl rfl ?_
    refine zr_iadd (q := 67) g dX8_nights_66 rfl ?_
    obtain ⟨y10, e11, hM⟩ := zw_nm_ex hM
    refine zr_nmi e11 ?_
    refine zr_istore_n (q := 68) (lv' := [(2, .int y10), (0, .ref (E.2.1 0)), (1, .int x1), (3, .int x3)]) g dX8_nights_67 rfl rfl (by decide) rfl ?_
    obtain ⟨y12, e13, hM⟩ := zw_nm_ex hM
    refine zr_iinc (q := 71) (v := y12) (lv' := [(3, .int y12), (2, .int y10), (0, .ref (E.2.1 0)), (1, .int x1)]) g 3 dX8_nights_68 rfl rfl (by rw [e13]; rfl) (by decide) rfl ?_
    refine zr_goto (tgt := 25) g dX8_nights_71 rfl ?_
    refine zr_lv (lv' := [(0, .ref (E.2.1 0)), (1, .int x1), (2, .int y10), (3, .int y12)]) [2, 3, 1, 0] rfl ?_
    exact eL25 _ _ hM
noncomputable def L_X8_nights_25 (w : Int32 × Int32 × Int32 × zw_Hp) : Option (Int32 × zw_Hp) :=
  zw_it (fun (k25 : (Int32 × Int32 × Int32 × zw_Hp) → Option (Int32 × zw_Hp)) (w : Int32 × Int32 × Int32 × zw_Hp) => B_X8_nights_25 k25 (w.1) (w.2.1) (w.2.2.1) (w.2.2.2)) 600 w
theorem UL_X8_nights_25 (ok : zw_Ok E) (hI : ∀ i, i < 48 → i ∈ E.2.2.1) (g : zw_G p E (zw_A E) s m args c RX8 cX8_nights 4) (hr : meth.sig.returnType = some .int) (hlk : meth.locks = false) :
    ∀ (w : Int32 × Int32 × Int32 × zw_Hp) (z : Int32 × zw_Hp), L_X8_nights_25 w = some z → zw_V p l e s m args below meth c E mt_X8_nights 4 (some (.int z.1)) z.2 25 [(0, .ref (E.2.1 0)), (1, .int w.1), (2, .int w.2.1), (3, .int w.2.2.1)] [] w.2.2.2 :=
  fun w z hM => zw_it_ind (P := fun (w : Int32 × Int32 × Int32 × zw_Hp) (z : Int32 × zw_Hp) => zw_V p l e s m args below meth c E mt_X8_nights 4 (some (.int z.1)) z.2 25 [(0, .ref (E.2.1 0)), (1, .int w.1), (2, .int w.2.1), (3, .int w.2.2.1)] [] w.2.2.2) (fun k e w z hM => U_X8_nights_25 ok hI g hr hlk e _ _ _ _ _ hM) 600 w z hM
noncomputable def M_X8_nights (x1 : Int32) (h : zw_Hp) : Option (Int32 × zw_Hp) :=
  if x1 < (1 : Int32) then (some ((-2 : Int32), h)) else (if x1 ≤ (30 : Int32) then ((M_X1_begin h).bind (fun z3 => L_X8_nights_25 (x1, (0 : Int32), (0 : Int32), z3))) else (some ((-2 : Int32), h)))
set_option maxRecDepth 100000 in
set_option maxHeartbeats 4000000 in
theorem R_X8_nights (ok : zw_Ok E) (hI : ∀ i, i < 48 → i ∈ E.2.2.1) {x1 : Int32} {h : zw_Hp} {z : Int32 × zw_Hp} (hM : M_X8_nights x1 h = some z) : zw_Ct l E mt_X8_nights [.ref (E.2.1 0), .int x1] h (some (.int z.1)) z.2 := by
  unfold M_X8_nights at hM
  refine zw_ct (lv0 := [(0, .ref (E.2.1 0)), (1, .int x1)]) ok (by decide) rfl (Nat.le_of_ble_eq_true rfl) (fun p e s m args below meth c g hr hlk => ?_)
  replace g : zw_G p E (zw_A E) s m args c RX8 cX8_nights 4 := g
  show zw_V p l e s m args below meth c E mt_X8_nights 4 (some (.int z.1)) z.2 0 [(0, .ref (E.2.1 0)), (1, .int x1)] [] h
  refine zr_iload_n (q := 1) g 1 dX8_nights_0 rfl rfl rfl ?_
  refine zr_iconst (q := 2) (v := (1 : Int32)) g dX8_nights_1 rfl (by decide) ?_
  refine zr_icmp_lt (q := 5) (tgt := 11) g dX8_nights_2 rfl rfl (fun c1 => ?_) (fun c1 => ?_)
  · replace hM := zw_ift c1 hM
    refine zr_bipush (q := 13) (v := (-2 : Int32)) g dX8_nights_11 rfl (by decide) ?_
    cases hM
    exact zr_iret g hr hlk dX8_nights_13 rfl rfl
  · replace hM := zw_iff c1 hM
    refine zr_iload_n (q := 6) g 1 dX8_nights_5 rfl rfl rfl ?_
    refine zr_bipush (q := 8) (v := (30 : Int32)) g dX8_nights_6 rfl (by decide) ?_
    refine zr_icmp_le (q := 11) (tgt := 14) g dX8_nights_8 rfl rfl (fun c2 => ?_) (fun c2 => ?_)
    · replace hM := zw_ift c2 hM
      refine zr_iconst (q := 15) (v := (0 : Int32)) g dX8_nights_14 rfl (by decide) ?_
      refine zr_istore_n (q := 16) (lv' := [(2, .int (0 : Int32)), (0, .ref (E.2.1 0)), (1, .int x1)]) g dX8_nights_15 rfl rfl (by decide) rfl ?_
      refine zr_aload_n (q := 17) g 1 dX8_nights_16 rfl rfl rfl ?_
      refine zr_getr (q := 20) (k0 := 9) (j := 30) g (hI 0 (by decide)) zs_0 rfl zf_X8_74 dX8_nights_17 rfl ?_
      obtain ⟨z3, q4, hM⟩ := zw_bd hM
      refine zr_callV (q := 23) (As := []) (rest := []) (st' := []) (i := 30) g (R_X1_begin ok hI q4) zv_X1_begin zl_X8_257 (hI 30 (by decide)) zs_30 zc_X1.1 dX8_nights_20 rfl rfl ⟨Nat.le_of_ble_eq_true rfl, Nat.le_of_ble_eq_true rfl⟩ ⟨Nat.zero_le _, Nat.zero_le _⟩ (Nat.le_of_ble_eq_true rfl) rfl rfl ?_
      refine zr_iconst (q := 24) (v := (0 : Int32)) g dX8_nights_23 rfl (by decide) ?_
      refine zr_istore_n (q := 25) (lv' := [(3, .int (0 : Int32)), (2, .int (0 : Int32)), (0, .ref (E.2.1 0)), (1, .int x1)]) g dX8_nights_24 rfl rfl (by decide) rfl ?_
      refine zr_lv (lv' := [(0, .ref (E.2.1 0)), (1, .int x1), (2, .int (0 : Int32)), (3, .int (0 : Int32))]) [2, 3, 1, 0] rfl ?_
      exact UL_X8_nights_25 ok hI g hr hlk _ _ hM
    · replace hM := zw_iff c2 hM
      refine zr_bipush (q := 13) (v := (-2 : Int32)) g dX8_nights_11 rfl (by decide) ?_
      cases hM
      exact zr_iret g hr hlk dX8_nights_13 rfl rfl
noncomputable def M_X8_keep (x1 : Int32) (h : zw_Hp) : Option (Int32 × zw_Hp) :=
  if x1 < 0 then (some ((-1 : Int32), h)) else (if x1 < (2 : Int32) then ((M_X5_store 22 9 x1 h).bind (fun z3 => zw_nm (zw_up z3 0 6 ((z3.1 0 6) ||| ((1 : Int32) <<< (x1 &&& 31)))) (fun h5 => some ((h5.1 9 8), h5)))) else (some ((-1 : Int32), h)))
set_option maxRecDepth 100000 in
set_option maxHeartbeats 4000000 in
theorem R_X8_keep (ok : zw_Ok E) (hI : ∀ i, i < 48 → i ∈ E.2.2.1) {x1 : Int32} {h : zw_Hp} {z : Int32 × zw_Hp} (hM : M_X8_keep x1 h = some z) : zw_Ct l E mt_X8_keep [.ref (E.2.1 0), .int x1] h (some (.int z.1)) z.2 := by
  unfold M_X8_keep at hM
  refine zw_ct (lv0 := [(0, .ref (E.2.1 0)), (1, .int x1)]) ok (by decide) rfl (Nat.le_of_ble_eq_true rfl) (fun p e s m args below meth c g hr hlk => ?_)
  replace g : zw_G p E (zw_A E) s m args c RX8 cX8_keep 2 := g
  show zw_V p l e s m args below meth c E mt_X8_keep 2 (some (.int z.1)) z.2 0 [(0, .ref (E.2.1 0)), (1, .int x1)] [] h
  refine zr_iload_n (q := 1) g 1 dX8_keep_0 rfl rfl rfl ?_
  refine zr_if_lt (q := 4) (tgt := 9) g dX8_keep_1 rfl rfl (fun c1 => ?_) (fun c1 => ?_)
  · replace hM := zw_ift c1 hM
    refine zr_iconst (q := 10) (v := (-1 : Int32)) g dX8_keep_9 rfl (by decide) ?_
    cases hM
    exact zr_iret g hr hlk dX8_keep_10 rfl rfl
  · replace hM := zw_iff c1 hM
    refine zr_iload_n (q := 5) g 1 dX8_keep_4 rfl rfl rfl ?_
    refine zr_iconst (q := 6) (v := (2 : Int32)) g dX8_keep_5 rfl (by decide) ?_
    refine zr_icmp_lt (q := 9) (tgt := 11) g dX8_keep_6 rfl rfl (fun c2 => ?_) (fun c2 => ?_)
    · replace hM := zw_ift c2 hM
      refine zr_aload_n (q := 12) g 0 dX8_keep_11 rfl rfl rfl ?_
      refine zr_getr (q := 15) (k0 := 5) (j := 22) g (hI 0 (by decide)) zs_0 rfl zf_X8_47 dX8_keep_12 rfl ?_
      refine zr_iload_n (q := 16) g 1 dX8_keep_15 rfl rfl rfl ?_
      refine zr_aload_n (q := 17) g 0 dX8_keep_16 rfl rfl rfl ?_
      refine zr_getr (q := 20) (k0 := 3) (j := 9) g (hI 0 (by decide)) zs_0 rfl zf_X8_31 dX8_keep_17 rfl ?_
      obtain ⟨z3, q4, hM⟩ := zw_bd hM
      refine zr_callV (q := 23) (As := [.int x1, .ref (E.2.1 9)]) (rest := []) (st' := []) (i := 22) g (R_X5_store (Or.inr rfl) (Or.inl rfl) ok hI q4) zv_X5_store zl_X8_269 (hI 22 (by decide)) zs_22 zc_X5.1 dX8_keep_20 rfl rfl ⟨Nat.le_of_ble_eq_true rfl, Nat.le_of_ble_eq_true rfl⟩ ⟨Nat.zero_le _, Nat.zero_le _⟩ (Nat.le_of_ble_eq_true rfl) rfl rfl ?_
      refine zr_aload_n (q := 24) g 0 dX8_keep_23 rfl rfl rfl ?_
      refine zr_dup (q := 25) g dX8_keep_24 rfl rfl ?_
      refine zr_geti (q := 28) (k0 := 6) g (hI 0 (by decide)) zs_0 rfl zf_X8_51 dX8_keep_25 rfl ?_
      refine zr_iconst (q := 29) (v := (1 : Int32)) g dX8_keep_28 rfl (by decide) ?_
      refine zr_iload_n (q := 30) g 1 dX8_keep_29 rfl rfl rfl ?_
      refine zr_ishl (q := 31) g dX8_keep_30 rfl ?_
      refine zr_ior (q := 32) g dX8_keep_31 rfl ?_
      obtain ⟨h5, e6, hM⟩ := zw_nm_ex hM
      refine zr_puti (q := 35) (k0 := 6) (h' := h5) g (hI 0 (by decide)) zs_0 rfl zp_X8_51 dX8_keep_32 rfl e6 ?_
      refine zr_aload_n (q := 36) g 0 dX8_keep_35 rfl rfl rfl ?_
      refine zr_getr (q := 39) (k0 := 3) (j := 9) g (hI 0 (by decide)) zs_0 rfl zf_X8_31 dX8_keep_36 rfl ?_
      refine zr_geti (q := 42) (k0 := 8) g (hI 9 (by decide)) zs_9 rfl zf_X8_114 dX8_keep_39 rfl ?_
      cases hM
      exact zr_iret g hr hlk dX8_keep_42 rfl rfl
    · replace hM := zw_iff c2 hM
      refine zr_iconst (q := 10) (v := (-1 : Int32)) g dX8_keep_9 rfl (by decide) ?_
      cases hM
      exact zr_iret g hr hlk dX8_keep_10 rfl rfl
noncomputable def M_X8_again (x1 : Int32) (h : zw_Hp) : Option (Int32 × zw_Hp) :=
  if x1 < 0 then (some ((-1 : Int32), h)) else (if x1 < (2 : Int32) then (if (((h.1 0 6) >>> (x1 &&& 31)) &&& (1 : Int32)) = 0 then (some ((-3 : Int32), h)) else ((M_X5_fetch 22 9 x1 h).bind (fun z4 => (M_X0_clear z4).bind (fun z6 => some ((z6.1 9 8), z6))))) else (some ((-1 : Int32), h)))
set_option maxRecDepth 100000 in
set_option maxHeartbeats 4000000 in
theorem R_X8_again (ok : zw_Ok E) (hI : ∀ i, i < 48 → i ∈ E.2.2.1) {x1 : Int32} {h : zw_Hp} {z : Int32 × zw_Hp} (hM : M_X8_again x1 h = some z) : zw_Ct l E mt_X8_again [.ref (E.2.1 0), .int x1] h (some (.int z.1)) z.2 := by
  unfold M_X8_again at hM
  refine zw_ct (lv0 := [(0, .ref (E.2.1 0)), (1, .int x1)]) ok (by decide) rfl (Nat.le_of_ble_eq_true rfl) (fun p e s m args below meth c g hr hlk => ?_)
  replace g : zw_G p E (zw_A E) s m args c RX8 cX8_again 2 := g
  show zw_V p l e s m args below meth c E mt_X8_again 2 (some (.int z.1)) z.2 0 [(0, .ref (E.2.1 0)), (1, .int x1)] [] h
  refine zr_iload_n (q := 1) g 1 dX8_again_0 rfl rfl rfl ?_
  refine zr_if_lt (q := 4) (tgt := 9) g dX8_again_1 rfl rfl (fun c1 => ?_) (fun c1 => ?_)
  · replace hM := zw_ift c1 hM
    refine zr_iconst (q := 10) (v := (-1 : Int32)) g dX8_again_9 rfl (by decide) ?_
    cases hM
    exact zr_iret g hr hlk dX8_again_10 rfl rfl
  · replace hM := zw_iff c1 hM
    refine zr_iload_n (q := 5) g 1 dX8_again_4 rfl rfl rfl ?_
    refine zr_iconst (q := 6) (v := (2 : Int32)) g dX8_again_5 rfl (by decide) ?_
    refine zr_icmp_lt (q := 9) (tgt := 11) g dX8_again_6 rfl rfl (fun c2 => ?_) (fun c2 => ?_)
    · replace hM := zw_ift c2 hM
      refine zr_aload_n (q := 12) g 0 dX8_again_11 rfl rfl rfl ?_
      refine zr_geti (q := 15) (k0 := 6) g (hI 0 (by decide)) zs_0 rfl zf_X8_51 dX8_again_12 rfl ?_
      refine zr_iload_n (q := 16) g 1 dX8_again_15 rfl rfl rfl ?_
      refine zr_ishr (q := 17) g dX8_again_16 rfl ?_
      refine zr_iconst (q := 18) (v := (1 : Int32)) g dX8_again_17 rfl (by decide) ?_
      refine zr_iand (q := 19) g dX8_again_18 rfl ?_
      refine zr_if_ne (q := 22) (tgt := 25) g dX8_again_19 rfl rfl (fun c3 => ?_) (fun c3 => ?_)
      · replace hM := zw_iff c3 hM
        refine zr_aload_n (q := 26) g 0 dX8_again_25 rfl rfl rfl ?_
        refine zr_getr (q := 29) (k0 := 5) (j := 22) g (hI 0 (by decide)) zs_0 rfl zf_X8_47 dX8_again_26 rfl ?_
        refine zr_iload_n (q := 30) g 1 dX8_again_29 rfl rfl rfl ?_
        refine zr_aload_n (q := 31) g 0 dX8_again_30 rfl rfl rfl ?_
        refine zr_getr (q := 34) (k0 := 3) (j := 9) g (hI 0 (by decide)) zs_0 rfl zf_X8_31 dX8_again_31 rfl ?_
        obtain ⟨z4, q5, hM⟩ := zw_bd hM
        refine zr_callV (q := 37) (As := [.int x1, .ref (E.2.1 9)]) (rest := []) (st' := []) (i := 22) g (R_X5_fetch (Or.inr rfl) (Or.inl rfl) ok hI q5) zv_X5_fetch zl_X8_273 (hI 22 (by decide)) zs_22 zc_X5.1 dX8_again_34 rfl rfl ⟨Nat.le_of_ble_eq_true rfl, Nat.le_of_ble_eq_true rfl⟩ ⟨Nat.zero_le _, Nat.zero_le _⟩ (Nat.le_of_ble_eq_true rfl) rfl rfl ?_
        refine zr_aload_n (q := 38) g 0 dX8_again_37 rfl rfl rfl ?_
        refine zr_getr (q := 41) (k0 := 4) (j := 19) g (hI 0 (by decide)) zs_0 rfl zf_X8_38 dX8_again_38 rfl ?_
        obtain ⟨z6, q7, hM⟩ := zw_bd hM
        refine zr_callV (q := 44) (As := []) (rest := []) (st' := []) (i := 19) g (R_X0_clear ok hI q7) zv_X0_clear zl_X8_96 (hI 19 (by decide)) zs_19 zc_X0.1 dX8_again_41 rfl rfl ⟨Nat.le_of_ble_eq_true rfl, Nat.le_of_ble_eq_true rfl⟩ ⟨Nat.zero_le _, Nat.zero_le _⟩ (Nat.le_of_ble_eq_true rfl) rfl rfl ?_
        refine zr_aload_n (q := 45) g 0 dX8_again_44 rfl rfl rfl ?_
        refine zr_getr (q := 48) (k0 := 3) (j := 9) g (hI 0 (by decide)) zs_0 rfl zf_X8_31 dX8_again_45 rfl ?_
        refine zr_geti (q := 51) (k0 := 8) g (hI 9 (by decide)) zs_9 rfl zf_X8_114 dX8_again_48 rfl ?_
        cases hM
        exact zr_iret g hr hlk dX8_again_51 rfl rfl
      · replace hM := zw_ift c3 hM
        refine zr_bipush (q := 24) (v := (-3 : Int32)) g dX8_again_22 rfl (by decide) ?_
        cases hM
        exact zr_iret g hr hlk dX8_again_24 rfl rfl
    · replace hM := zw_iff c2 hM
      refine zr_iconst (q := 10) (v := (-1 : Int32)) g dX8_again_9 rfl (by decide) ?_
      cases hM
      exact zr_iret g hr hlk dX8_again_10 rfl rfl
noncomputable def M_X9_in (x0 : Int64) (x2 : Int64) (x4 : Int64) (h : zw_Hp) : Option (Int32) :=
  if (lg_cmp x0 x2) < 0 then (some (0 : Int32)) else (if 0 < (lg_cmp x0 x4) then (some (0 : Int32)) else (some (1 : Int32)))
set_option maxRecDepth 100000 in
set_option maxHeartbeats 4000000 in
theorem R_X9_in (ok : zw_Ok E) (hI : ∀ i, i < 48 → i ∈ E.2.2.1) {x0 : Int64} {x2 : Int64} {x4 : Int64} {h : zw_Hp} {z : Int32} (hM : M_X9_in x0 x2 x4 h = some z) : zw_Ct l E mt_X9_in [.long x0, .long x2, .long x4] h (some (.int z)) h := by
  unfold M_X9_in at hM
  refine zw_ct (lv0 := [(0, .long x0), (2, .long x2), (4, .long x4)]) ok (by decide) rfl (Nat.le_of_ble_eq_true rfl) (fun p e s m args below meth c g hr hlk => ?_)
  replace g : zw_G p E (zw_A E) s m args c RX9 cX9_in 6 := g
  show zw_V p l e s m args below meth c E mt_X9_in 6 (some (.int z)) h 0 [(0, .long x0), (2, .long x2), (4, .long x4)] [] h
  refine zr_lload_n (q := 1) g 0 dX9_in_0 rfl rfl rfl ?_
  refine zr_lload_n (q := 2) g 1 dX9_in_1 rfl rfl rfl ?_
  refine zr_lcmp (q := 3) g dX9_in_2 rfl ?_
  refine zr_if_lt (q := 6) (tgt := 17) g dX9_in_3 rfl rfl (fun c1 => ?_) (fun c1 => ?_)
  · replace hM := zw_ift c1 hM
    refine zr_iconst (q := 18) (v := (0 : Int32)) g dX9_in_17 rfl (by decide) ?_
    cases hM
    exact zr_zret g hr hlk (by decide) dX9_in_18 rfl rfl
  · replace hM := zw_iff c1 hM
    refine zr_lload_n (q := 7) g 0 dX9_in_6 rfl rfl rfl ?_
    refine zr_lload (q := 9) g 2 dX9_in_7 rfl rfl ?_
    refine zr_lcmp (q := 10) g dX9_in_9 rfl ?_
    refine zr_if_gt (q := 13) (tgt := 17) g dX9_in_10 rfl rfl (fun c2 => ?_) (fun c2 => ?_)
    · replace hM := zw_ift c2 hM
      refine zr_iconst (q := 18) (v := (0 : Int32)) g dX9_in_17 rfl (by decide) ?_
      cases hM
      exact zr_zret g hr hlk (by decide) dX9_in_18 rfl rfl
    · replace hM := zw_iff c2 hM
      refine zr_iconst (q := 14) (v := (1 : Int32)) g dX9_in_13 rfl (by decide) ?_
      refine zr_goto (tgt := 18) g dX9_in_14 rfl ?_
      cases hM
      exact zr_zret g hr hlk (by decide) dX9_in_18 rfl rfl
noncomputable def M_X9_has (x0 : Int32) (x1 : Int32) (h : zw_Hp) : Option (Int32) :=
  if ((x0 >>> (x1 &&& 31)) &&& (1 : Int32)) = (1 : Int32) then (some (1 : Int32)) else (some (0 : Int32))
set_option maxRecDepth 100000 in
set_option maxHeartbeats 4000000 in
theorem R_X9_has (ok : zw_Ok E) (hI : ∀ i, i < 48 → i ∈ E.2.2.1) {x0 : Int32} {x1 : Int32} {h : zw_Hp} {z : Int32} (hM : M_X9_has x0 x1 h = some z) : zw_Ct l E mt_X9_has [.int x0, .int x1] h (some (.int z)) h := by
  unfold M_X9_has at hM
  refine zw_ct (lv0 := [(0, .int x0), (1, .int x1)]) ok (by decide) rfl (Nat.le_of_ble_eq_true rfl) (fun p e s m args below meth c g hr hlk => ?_)
  replace g : zw_G p E (zw_A E) s m args c RX9 cX9_has 2 := g
  show zw_V p l e s m args below meth c E mt_X9_has 2 (some (.int z)) h 0 [(0, .int x0), (1, .int x1)] [] h
  refine zr_iload_n (q := 1) g 0 dX9_has_0 rfl rfl rfl ?_
  refine zr_iload_n (q := 2) g 1 dX9_has_1 rfl rfl rfl ?_
  refine zr_ishr (q := 3) g dX9_has_2 rfl ?_
  refine zr_iconst (q := 4) (v := (1 : Int32)) g dX9_has_3 rfl (by decide) ?_
  refine zr_iand (q := 5) g dX9_has_4 rfl ?_
  refine zr_iconst (q := 6) (v := (1 : Int32)) g dX9_has_5 rfl (by decide) ?_
  refine zr_icmp_ne (q := 9) (tgt := 13) g dX9_has_6 rfl rfl (fun c1 => ?_) (fun c1 => ?_)
  · replace hM := zw_iff c1 hM
    refine zr_iconst (q := 14) (v := (0 : Int32)) g dX9_has_13 rfl (by decide) ?_
    cases hM
    exact zr_zret g hr hlk (by decide) dX9_has_14 rfl rfl
  · replace hM := zw_ift c1 hM
    refine zr_iconst (q := 10) (v := (1 : Int32)) g dX9_has_9 rfl (by decide) ?_
    refine zr_goto (tgt := 14) g dX9_has_10 rfl ?_
    cases hM
    exact zr_zret g hr hlk (by decide) dX9_has_14 rfl rfl
noncomputable def B_X9_many_4 (h : zw_Hp) (k4 : (Int32 × Int32 × Int32) → Option (Int32)) (x0 : Int32) (x1 : Int32) (x2 : Int32) : Option (Int32) :=
  if (5 : Int32) ≤ x2 then (some x1) else (zw_nm (x1 + ((x0 >>> (x2 &&& 31)) &&& (1 : Int32))) (fun y2 => zw_nm (x2 + (1 : Int32)) (fun y4 => k4 (x0, y2, y4))))
set_option maxRecDepth 100000 in
set_option maxHeartbeats 4000000 in
theorem U_X9_many_4 {h : zw_Hp} (ok : zw_Ok E) (hI : ∀ i, i < 48 → i ∈ E.2.2.1) (g : zw_G p E (zw_A E) s m args c RX9 cX9_many 3) (hr : meth.sig.returnType = some .int) (hlk : meth.locks = false) {k4 : (Int32 × Int32 × Int32) → Option (Int32)} (eL4 : ∀ (w : Int32 × Int32 × Int32) (z : Int32), k4 w = some z → zw_V p l e s m args below meth c E mt_X9_many 3 (some (.int z)) h 4 [(0, .int w.1), (1, .int w.2.1), (2, .int w.2.2)] [] h) :
    ∀ (x0 : Int32) (x1 : Int32) (x2 : Int32) (z : Int32), B_X9_many_4 h k4 x0 x1 x2 = some z → zw_V p l e s m args below meth c E mt_X9_many 3 (some (.int z)) h 4 [(0, .int x0), (1, .int x1), (2, .int x2)] [] h := by
  intro x0 x1 x2 z hM
  unfold B_X9_many_4 at hM
  refine zr_iload_n (q := 5) g 2 dX9_many_4 rfl rfl rfl ?_
  refine zr_iconst (q := 6) (v := (5 : Int32)) g dX9_many_5 rfl (by decide) ?_
  refine zr_icmp_ge (q := 9) (tgt := 23) g dX9_many_6 rfl rfl (fun c1 => ?_) (fun c1 => ?_)
  · replace hM := zw_ift c1 hM
    refine zr_iload_n (q := 24) g 1 dX9_many_23 rfl rfl rfl ?_
    cases hM
    exact zr_iret g hr hlk dX9_many_24 rfl rfl
  · replace hM := zw_iff c1 hM
    refine zr_iload_n (q := 10) g 1 dX9_many_9 rfl rfl rfl ?_
    refine zr_iload_n (q := 11) g 0 dX9_many_10 rfl rfl rfl ?_
    refine zr_iload_n (q := 12) g 2 dX9_many_11 rfl rfl rfl ?_
    refine zr_ishr (q := 13) g dX9_many_12 rfl ?_
    refine zr_iconst (q := 14) (v := (1 : Int32)) g dX9_many_13 rfl (by decide) ?_
    refine zr_iand (q := 15) g dX9_many_14 rfl ?_
    refine zr_iadd (q := 16) g dX9_many_15 rfl ?_
    obtain ⟨y2, e3, hM⟩ := zw_nm_ex hM
    refine zr_nmi e3 ?_
    refine zr_istore_n (q := 17) (lv' := [(1, .int y2), (0, .int x0), (2, .int x2)]) g dX9_many_16 rfl rfl (by decide) rfl ?_
    obtain ⟨y4, e5, hM⟩ := zw_nm_ex hM
    refine zr_iinc (q := 20) (v := y4) (lv' := [(2, .int y4), (1, .int y2), (0, .int x0)]) g 2 dX9_many_17 rfl rfl (by rw [e5]; rfl) (by decide) rfl ?_
    refine zr_goto (tgt := 4) g dX9_many_20 rfl ?_
    refine zr_lv (lv' := [(0, .int x0), (1, .int y2), (2, .int y4)]) [2, 1, 0] rfl ?_
    exact eL4 _ _ hM
noncomputable def L_X9_many_4 (h : zw_Hp) (w : Int32 × Int32 × Int32) : Option (Int32) :=
  zw_it (fun (k4 : (Int32 × Int32 × Int32) → Option (Int32)) (w : Int32 × Int32 × Int32) => B_X9_many_4 h k4 (w.1) (w.2.1) (w.2.2)) 600 w
theorem UL_X9_many_4 {h : zw_Hp} (ok : zw_Ok E) (hI : ∀ i, i < 48 → i ∈ E.2.2.1) (g : zw_G p E (zw_A E) s m args c RX9 cX9_many 3) (hr : meth.sig.returnType = some .int) (hlk : meth.locks = false) :
    ∀ (w : Int32 × Int32 × Int32) (z : Int32), L_X9_many_4 h w = some z → zw_V p l e s m args below meth c E mt_X9_many 3 (some (.int z)) h 4 [(0, .int w.1), (1, .int w.2.1), (2, .int w.2.2)] [] h :=
  fun w z hM => zw_it_ind (P := fun (w : Int32 × Int32 × Int32) (z : Int32) => zw_V p l e s m args below meth c E mt_X9_many 3 (some (.int z)) h 4 [(0, .int w.1), (1, .int w.2.1), (2, .int w.2.2)] [] h) (fun k e w z hM => U_X9_many_4 ok hI g hr hlk e _ _ _ _ hM) 600 w z hM
noncomputable def M_X9_many (x0 : Int32) (h : zw_Hp) : Option (Int32) :=
  L_X9_many_4 h (x0, (0 : Int32), (0 : Int32))
set_option maxRecDepth 100000 in
set_option maxHeartbeats 4000000 in
theorem R_X9_many (ok : zw_Ok E) (hI : ∀ i, i < 48 → i ∈ E.2.2.1) {x0 : Int32} {h : zw_Hp} {z : Int32} (hM : M_X9_many x0 h = some z) : zw_Ct l E mt_X9_many [.int x0] h (some (.int z)) h := by
  unfold M_X9_many at hM
  refine zw_ct (lv0 := [(0, .int x0)]) ok (by decide) rfl (Nat.le_of_ble_eq_true rfl) (fun p e s m args below meth c g hr hlk => ?_)
  replace g : zw_G p E (zw_A E) s m args c RX9 cX9_many 3 := g
  show zw_V p l e s m args below meth c E mt_X9_many 3 (some (.int z)) h 0 [(0, .int x0)] [] h
  refine zr_iconst (q := 1) (v := (0 : Int32)) g dX9_many_0 rfl (by decide) ?_
  refine zr_istore_n (q := 2) (lv' := [(1, .int (0 : Int32)), (0, .int x0)]) g dX9_many_1 rfl rfl (by decide) rfl ?_
  refine zr_iconst (q := 3) (v := (0 : Int32)) g dX9_many_2 rfl (by decide) ?_
  refine zr_istore_n (q := 4) (lv' := [(2, .int (0 : Int32)), (1, .int (0 : Int32)), (0, .int x0)]) g dX9_many_3 rfl rfl (by decide) rfl ?_
  refine zr_lv (lv' := [(0, .int x0), (1, .int (0 : Int32)), (2, .int (0 : Int32))]) [2, 1, 0] rfl ?_
  exact UL_X9_many_4 ok hI g hr hlk _ _ hM
noncomputable def B_X9_power_4 (h : zw_Hp) (k4 : (Int32 × Int32 × Int32 × Int32) → Option (Int32)) (x0 : Int32) (x1 : Int32) (x2 : Int32) (x3 : Int32) : Option (Int32) :=
  if x1 ≤ x3 then (some x2) else (zw_nm (x2 * x0) (fun y2 => zw_nm (x3 + (1 : Int32)) (fun y4 => k4 (x0, x1, y2, y4))))
set_option maxRecDepth 100000 in
set_option maxHeartbeats 4000000 in
theorem U_X9_power_4 {h : zw_Hp} (ok : zw_Ok E) (hI : ∀ i, i < 48 → i ∈ E.2.2.1) (g : zw_G p E (zw_A E) s m args c RX9 cX9_power 4) (hr : meth.sig.returnType = some .int) (hlk : meth.locks = false) {k4 : (Int32 × Int32 × Int32 × Int32) → Option (Int32)} (eL4 : ∀ (w : Int32 × Int32 × Int32 × Int32) (z : Int32), k4 w = some z → zw_V p l e s m args below meth c E mt_X9_power 4 (some (.int z)) h 4 [(0, .int w.1), (1, .int w.2.1), (2, .int w.2.2.1), (3, .int w.2.2.2)] [] h) :
    ∀ (x0 : Int32) (x1 : Int32) (x2 : Int32) (x3 : Int32) (z : Int32), B_X9_power_4 h k4 x0 x1 x2 x3 = some z → zw_V p l e s m args below meth c E mt_X9_power 4 (some (.int z)) h 4 [(0, .int x0), (1, .int x1), (2, .int x2), (3, .int x3)] [] h := by
  intro x0 x1 x2 x3 z hM
  unfold B_X9_power_4 at hM
  refine zr_iload_n (q := 5) g 3 dX9_power_4 rfl rfl rfl ?_
  refine zr_iload_n (q := 6) g 1 dX9_power_5 rfl rfl rfl ?_
  refine zr_icmp_ge (q := 9) (tgt := 19) g dX9_power_6 rfl rfl (fun c1 => ?_) (fun c1 => ?_)
  · replace hM := zw_ift c1 hM
    refine zr_iload_n (q := 20) g 2 dX9_power_19 rfl rfl rfl ?_
    cases hM
    exact zr_iret g hr hlk dX9_power_20 rfl rfl
  · replace hM := zw_iff c1 hM
    refine zr_iload_n (q := 10) g 2 dX9_power_9 rfl rfl rfl ?_
    refine zr_iload_n (q := 11) g 0 dX9_power_10 rfl rfl rfl ?_
    refine zr_imul (q := 12) g dX9_power_11 rfl ?_
    obtain ⟨y2, e3, hM⟩ := zw_nm_ex hM
    refine zr_nmi e3 ?_
    refine zr_istore_n (q := 13) (lv' := [(2, .int y2), (0, .int x0), (1, .int x1), (3, .int x3)]) g dX9_power_12 rfl rfl (by decide) rfl ?_
    obtain ⟨y4, e5, hM⟩ := zw_nm_ex hM
    refine zr_iinc (q := 16) (v := y4) (lv' := [(3, .int y4), (2, .int y2), (0, .int x0), (1, .int x1)]) g 3 dX9_power_13 rfl rfl (by rw [e5]; rfl) (by decide) rfl ?_
    refine zr_goto (tgt := 4) g dX9_power_16 rfl ?_
    refine zr_lv (lv' := [(0, .int x0), (1, .int x1), (2, .int y2), (3, .int y4)]) [2, 3, 1, 0] rfl ?_
    exact eL4 _ _ hM
noncomputable def L_X9_power_4 (h : zw_Hp) (w : Int32 × Int32 × Int32 × Int32) : Option (Int32) :=
  zw_it (fun (k4 : (Int32 × Int32 × Int32 × Int32) → Option (Int32)) (w : Int32 × Int32 × Int32 × Int32) => B_X9_power_4 h k4 (w.1) (w.2.1) (w.2.2.1) (w.2.2.2)) 600 w
theorem UL_X9_power_4 {h : zw_Hp} (ok : zw_Ok E) (hI : ∀ i, i < 48 → i ∈ E.2.2.1) (g : zw_G p E (zw_A E) s m args c RX9 cX9_power 4) (hr : meth.sig.returnType = some .int) (hlk : meth.locks = false) :
    ∀ (w : Int32 × Int32 × Int32 × Int32) (z : Int32), L_X9_power_4 h w = some z → zw_V p l e s m args below meth c E mt_X9_power 4 (some (.int z)) h 4 [(0, .int w.1), (1, .int w.2.1), (2, .int w.2.2.1), (3, .int w.2.2.2)] [] h :=
  fun w z hM => zw_it_ind (P := fun (w : Int32 × Int32 × Int32 × Int32) (z : Int32) => zw_V p l e s m args below meth c E mt_X9_power 4 (some (.int z)) h 4 [(0, .int w.1), (1, .int w.2.1), (2, .int w.2.2.1), (3, .int w.2.2.2)] [] h) (fun k e w z hM => U_X9_power_4 ok hI g hr hlk e _ _ _ _ _ hM) 600 w z hM
noncomputable def M_X9_power (x0 : Int32) (x1 : Int32) (h : zw_Hp) : Option (Int32) :=
  L_X9_power_4 h (x0, x1, (1 : Int32), (0 : Int32))
set_option maxRecDepth 100000 in
set_option maxHeartbeats 4000000 in
theorem R_X9_power (ok : zw_Ok E) (hI : ∀ i, i < 48 → i ∈ E.2.2.1) {x0 : Int32} {x1 : Int32} {h : zw_Hp} {z : Int32} (hM : M_X9_power x0 x1 h = some z) : zw_Ct l E mt_X9_power [.int x0, .int x1] h (some (.int z)) h := by
  unfold M_X9_power at hM
  refine zw_ct (lv0 := [(0, .int x0), (1, .int x1)]) ok (by decide) rfl (Nat.le_of_ble_eq_true rfl) (fun p e s m args below meth c g hr hlk => ?_)
  replace g : zw_G p E (zw_A E) s m args c RX9 cX9_power 4 := g
  show zw_V p l e s m args below meth c E mt_X9_power 4 (some (.int z)) h 0 [(0, .int x0), (1, .int x1)] [] h
  refine zr_iconst (q := 1) (v := (1 : Int32)) g dX9_power_0 rfl (by decide) ?_
  refine zr_istore_n (q := 2) (lv' := [(2, .int (1 : Int32)), (0, .int x0), (1, .int x1)]) g dX9_power_1 rfl rfl (by decide) rfl ?_
  refine zr_iconst (q := 3) (v := (0 : Int32)) g dX9_power_2 rfl (by decide) ?_
  refine zr_istore_n (q := 4) (lv' := [(3, .int (0 : Int32)), (2, .int (1 : Int32)), (0, .int x0), (1, .int x1)]) g dX9_power_3 rfl rfl (by decide) rfl ?_
  refine zr_lv (lv' := [(0, .int x0), (1, .int x1), (2, .int (1 : Int32)), (3, .int (0 : Int32))]) [2, 3, 1, 0] rfl ?_
  exact UL_X9_power_4 ok hI g hr hlk _ _ hM
noncomputable def M_X9_noOne (x1 : Int32) (h : zw_Hp) : Option (Int32) :=
  (M_X9_in (x1).toInt64 (0 : Int64) (((h.1 31 6) - (1 : Int32))).toInt64 h).bind (fun z1 => if z1 = 0 then (some (1 : Int32)) else (some (0 : Int32)))
set_option maxRecDepth 100000 in
set_option maxHeartbeats 4000000 in
theorem R_X9_noOne (ok : zw_Ok E) (hI : ∀ i, i < 48 → i ∈ E.2.2.1) {x1 : Int32} {h : zw_Hp} {z : Int32} (hM : M_X9_noOne x1 h = some z) : zw_Ct l E mt_X9_noOne [.ref (E.2.1 31), .int x1] h (some (.int z)) h := by
  unfold M_X9_noOne at hM
  refine zw_ct (lv0 := [(0, .ref (E.2.1 31)), (1, .int x1)]) ok (by decide) rfl (Nat.le_of_ble_eq_true rfl) (fun p e s m args below meth c g hr hlk => ?_)
  replace g : zw_G p E (zw_A E) s m args c RX9 cX9_noOne 2 := g
  show zw_V p l e s m args below meth c E mt_X9_noOne 2 (some (.int z)) h 0 [(0, .ref (E.2.1 31)), (1, .int x1)] [] h
  refine zr_iload_n (q := 1) g 1 dX9_noOne_0 rfl rfl rfl ?_
  refine zr_i2l (q := 2) g dX9_noOne_1 rfl ?_
  refine zr_lconst (q := 3) (v := (0 : Int64)) g dX9_noOne_2 rfl (by decide) ?_
  refine zr_aload_n (q := 4) g 0 dX9_noOne_3 rfl rfl rfl ?_
  refine zr_geti (q := 7) (k0 := 6) g (hI 31 (by decide)) zs_31 rfl zf_X9_63 dX9_noOne_4 rfl ?_
  refine zr_iconst (q := 8) (v := (1 : Int32)) g dX9_noOne_7 rfl (by decide) ?_
  refine zr_isub (q := 9) g dX9_noOne_8 rfl ?_
  refine zr_i2l (q := 10) g dX9_noOne_9 rfl ?_
  obtain ⟨z1, q2, hM⟩ := zw_bd hM
  refine zr_callS (q := 13) (As := [.long (x1).toInt64, .long (0 : Int64), .long (((h.1 31 6) - (1 : Int32))).toInt64]) (rest := []) (st' := [.int z1]) g (R_X9_in ok hI q2) zv_X9_in zl_X9_66 dX9_noOne_10 rfl rfl ⟨Nat.le_of_ble_eq_true rfl, Nat.le_of_ble_eq_true rfl⟩ ⟨Nat.zero_le _, Nat.zero_le _⟩ (Nat.le_of_ble_eq_true rfl) rfl rfl ?_
  refine zr_if_ne (q := 16) (tgt := 20) g dX9_noOne_13 rfl rfl (fun c3 => ?_) (fun c3 => ?_)
  · replace hM := zw_iff c3 hM
    refine zr_iconst (q := 21) (v := (0 : Int32)) g dX9_noOne_20 rfl (by decide) ?_
    cases hM
    exact zr_zret g hr hlk (by decide) dX9_noOne_21 rfl rfl
  · replace hM := zw_ift c3 hM
    refine zr_iconst (q := 17) (v := (1 : Int32)) g dX9_noOne_16 rfl (by decide) ?_
    refine zr_goto (tgt := 21) g dX9_noOne_17 rfl ?_
    cases hM
    exact zr_zret g hr hlk (by decide) dX9_noOne_21 rfl rfl
noncomputable def M_X9_noBucket (x1 : Int32) (h : zw_Hp) : Option (Int32) :=
  (M_X9_in (x1).toInt64 (0 : Int64) (((h.1 31 8) - (1 : Int32))).toInt64 h).bind (fun z1 => if z1 = 0 then (some (1 : Int32)) else (some (0 : Int32)))
set_option maxRecDepth 100000 in
set_option maxHeartbeats 4000000 in
theorem R_X9_noBucket (ok : zw_Ok E) (hI : ∀ i, i < 48 → i ∈ E.2.2.1) {x1 : Int32} {h : zw_Hp} {z : Int32} (hM : M_X9_noBucket x1 h = some z) : zw_Ct l E mt_X9_noBucket [.ref (E.2.1 31), .int x1] h (some (.int z)) h := by
  unfold M_X9_noBucket at hM
  refine zw_ct (lv0 := [(0, .ref (E.2.1 31)), (1, .int x1)]) ok (by decide) rfl (Nat.le_of_ble_eq_true rfl) (fun p e s m args below meth c g hr hlk => ?_)
  replace g : zw_G p E (zw_A E) s m args c RX9 cX9_noBucket 2 := g
  show zw_V p l e s m args below meth c E mt_X9_noBucket 2 (some (.int z)) h 0 [(0, .ref (E.2.1 31)), (1, .int x1)] [] h
  refine zr_iload_n (q := 1) g 1 dX9_noBucket_0 rfl rfl rfl ?_
  refine zr_i2l (q := 2) g dX9_noBucket_1 rfl ?_
  refine zr_lconst (q := 3) (v := (0 : Int64)) g dX9_noBucket_2 rfl (by decide) ?_
  refine zr_aload_n (q := 4) g 0 dX9_noBucket_3 rfl rfl rfl ?_
  refine zr_geti (q := 7) (k0 := 8) g (hI 31 (by decide)) zs_31 rfl zf_X9_70 dX9_noBucket_4 rfl ?_
  refine zr_iconst (q := 8) (v := (1 : Int32)) g dX9_noBucket_7 rfl (by decide) ?_
  refine zr_isub (q := 9) g dX9_noBucket_8 rfl ?_
  refine zr_i2l (q := 10) g dX9_noBucket_9 rfl ?_
  obtain ⟨z1, q2, hM⟩ := zw_bd hM
  refine zr_callS (q := 13) (As := [.long (x1).toInt64, .long (0 : Int64), .long (((h.1 31 8) - (1 : Int32))).toInt64]) (rest := []) (st' := [.int z1]) g (R_X9_in ok hI q2) zv_X9_in zl_X9_66 dX9_noBucket_10 rfl rfl ⟨Nat.le_of_ble_eq_true rfl, Nat.le_of_ble_eq_true rfl⟩ ⟨Nat.zero_le _, Nat.zero_le _⟩ (Nat.le_of_ble_eq_true rfl) rfl rfl ?_
  refine zr_if_ne (q := 16) (tgt := 20) g dX9_noBucket_13 rfl rfl (fun c3 => ?_) (fun c3 => ?_)
  · replace hM := zw_iff c3 hM
    refine zr_iconst (q := 21) (v := (0 : Int32)) g dX9_noBucket_20 rfl (by decide) ?_
    cases hM
    exact zr_zret g hr hlk (by decide) dX9_noBucket_21 rfl rfl
  · replace hM := zw_ift c3 hM
    refine zr_iconst (q := 17) (v := (1 : Int32)) g dX9_noBucket_16 rfl (by decide) ?_
    refine zr_goto (tgt := 21) g dX9_noBucket_17 rfl ?_
    cases hM
    exact zr_zret g hr hlk (by decide) dX9_noBucket_21 rfl rfl
noncomputable def M_X9_write (x1 : Int32) (h : zw_Hp) : Option (Int32 × zw_Hp) :=
  zw_nm (zw_up h 31 0 (0 : Int32)) (fun h1 => (M_X9_in (x1).toInt64 (0 : Int64) (255 : Int64) h1).bind (fun z3 => if z3 = 0 then (some ((-2 : Int32), h1)) else (if (h1.1 31 2) = (36 : Int32) then (some ((-4 : Int32), h1)) else (if zw_ok (h1.1 31 2) 36 = true then zw_nm (zw_up h1 32 ((h1.1 31 2)).toNatClampNeg x1) (fun h8 => zw_nm (zw_up h8 31 2 ((h8.1 31 2) + (1 : Int32))) (fun h10 => some ((h10.1 31 2), h10))) else none))))
set_option maxRecDepth 100000 in
set_option maxHeartbeats 4000000 in
theorem R_X9_write (ok : zw_Ok E) (hI : ∀ i, i < 48 → i ∈ E.2.2.1) {x1 : Int32} {h : zw_Hp} {z : Int32 × zw_Hp} (hM : M_X9_write x1 h = some z) : zw_Ct l E mt_X9_write [.ref (E.2.1 31), .int x1] h (some (.int z.1)) z.2 := by
  unfold M_X9_write at hM
  refine zw_ct (lv0 := [(0, .ref (E.2.1 31)), (1, .int x1)]) ok (by decide) rfl (Nat.le_of_ble_eq_true rfl) (fun p e s m args below meth c g hr hlk => ?_)
  replace g : zw_G p E (zw_A E) s m args c RX9 cX9_write 2 := g
  show zw_V p l e s m args below meth c E mt_X9_write 2 (some (.int z.1)) z.2 0 [(0, .ref (E.2.1 31)), (1, .int x1)] [] h
  refine zr_aload_n (q := 1) g 0 dX9_write_0 rfl rfl rfl ?_
  refine zr_iconst (q := 2) (v := (0 : Int32)) g dX9_write_1 rfl (by decide) ?_
  obtain ⟨h1, e2, hM⟩ := zw_nm_ex hM
  refine zr_puti (q := 5) (k0 := 0) (h' := h1) g (hI 31 (by decide)) zs_31 rfl zp_X9_59 dX9_write_2 rfl e2 ?_
  refine zr_iload_n (q := 6) g 1 dX9_write_5 rfl rfl rfl ?_
  refine zr_i2l (q := 7) g dX9_write_6 rfl ?_
  refine zr_lconst (q := 8) (v := (0 : Int64)) g dX9_write_7 rfl (by decide) ?_
  refine zr_ldc2 (q := 11) (v := (255 : Int64)) g dX9_write_8 rfl zk_X9_73 ?_
  obtain ⟨z3, q4, hM⟩ := zw_bd hM
  refine zr_callS (q := 14) (As := [.long (x1).toInt64, .long (0 : Int64), .long (255 : Int64)]) (rest := []) (st' := [.int z3]) g (R_X9_in ok hI q4) zv_X9_in zl_X9_66 dX9_write_11 rfl rfl ⟨Nat.le_of_ble_eq_true rfl, Nat.le_of_ble_eq_true rfl⟩ ⟨Nat.zero_le _, Nat.zero_le _⟩ (Nat.le_of_ble_eq_true rfl) rfl rfl ?_
  refine zr_if_ne (q := 17) (tgt := 20) g dX9_write_14 rfl rfl (fun c5 => ?_) (fun c5 => ?_)
  · replace hM := zw_iff c5 hM
    refine zr_aload_n (q := 21) g 0 dX9_write_20 rfl rfl rfl ?_
    refine zr_geti (q := 24) (k0 := 2) g (hI 31 (by decide)) zs_31 rfl zf_X9_75 dX9_write_21 rfl ?_
    refine zr_bipush (q := 26) (v := (36 : Int32)) g dX9_write_24 rfl (by decide) ?_
    refine zr_icmp_ne (q := 29) (tgt := 32) g dX9_write_26 rfl rfl (fun c6 => ?_) (fun c6 => ?_)
    · replace hM := zw_iff c6 hM
      refine zr_aload_n (q := 33) g 0 dX9_write_32 rfl rfl rfl ?_
      refine zr_getr (q := 36) (k0 := 1) (j := 32) g (hI 31 (by decide)) zs_31 rfl zf_X9_7 dX9_write_33 rfl ?_
      refine zr_aload_n (q := 37) g 0 dX9_write_36 rfl rfl rfl ?_
      refine zr_geti (q := 40) (k0 := 2) g (hI 31 (by decide)) zs_31 rfl zf_X9_75 dX9_write_37 rfl ?_
      refine zr_iload_n (q := 41) g 1 dX9_write_40 rfl rfl rfl ?_
      obtain ⟨c7, hM⟩ := zw_gd hM
      obtain ⟨h8, e9, hM⟩ := zw_nm_ex hM
      refine zr_iast (q := 42) (h' := h8) g (hI 32 (by decide)) zs_32 c7 dX9_write_41 rfl e9 ?_
      refine zr_aload_n (q := 43) g 0 dX9_write_42 rfl rfl rfl ?_
      refine zr_dup (q := 44) g dX9_write_43 rfl rfl ?_
      refine zr_geti (q := 47) (k0 := 2) g (hI 31 (by decide)) zs_31 rfl zf_X9_75 dX9_write_44 rfl ?_
      refine zr_iconst (q := 48) (v := (1 : Int32)) g dX9_write_47 rfl (by decide) ?_
      refine zr_iadd (q := 49) g dX9_write_48 rfl ?_
      obtain ⟨h10, e11, hM⟩ := zw_nm_ex hM
      refine zr_puti (q := 52) (k0 := 2) (h' := h10) g (hI 31 (by decide)) zs_31 rfl zp_X9_75 dX9_write_49 rfl e11 ?_
      refine zr_aload_n (q := 53) g 0 dX9_write_52 rfl rfl rfl ?_
      refine zr_geti (q := 56) (k0 := 2) g (hI 31 (by decide)) zs_31 rfl zf_X9_75 dX9_write_53 rfl ?_
      cases hM
      exact zr_iret g hr hlk dX9_write_56 rfl rfl
    · replace hM := zw_ift c6 hM
      refine zr_bipush (q := 31) (v := (-4 : Int32)) g dX9_write_29 rfl (by decide) ?_
      cases hM
      exact zr_iret g hr hlk dX9_write_31 rfl rfl
  · replace hM := zw_ift c5 hM
    refine zr_bipush (q := 19) (v := (-2 : Int32)) g dX9_write_17 rfl (by decide) ?_
    cases hM
    exact zr_iret g hr hlk dX9_write_19 rfl rfl
noncomputable def M_X9_wipe (h : zw_Hp) : Option (Int32 × zw_Hp) :=
  zw_nm (zw_up h 31 0 (0 : Int32)) (fun h1 => zw_nm (h1.1 31 2) (fun y3 => zw_nm (zw_up h1 31 2 (0 : Int32)) (fun h5 => some (y3, h5))))
set_option maxRecDepth 100000 in
set_option maxHeartbeats 4000000 in
theorem R_X9_wipe (ok : zw_Ok E) (hI : ∀ i, i < 48 → i ∈ E.2.2.1) {h : zw_Hp} {z : Int32 × zw_Hp} (hM : M_X9_wipe h = some z) : zw_Ct l E mt_X9_wipe [.ref (E.2.1 31)] h (some (.int z.1)) z.2 := by
  unfold M_X9_wipe at hM
  refine zw_ct (lv0 := [(0, .ref (E.2.1 31))]) ok (by decide) rfl (Nat.le_of_ble_eq_true rfl) (fun p e s m args below meth c g hr hlk => ?_)
  replace g : zw_G p E (zw_A E) s m args c RX9 cX9_wipe 2 := g
  show zw_V p l e s m args below meth c E mt_X9_wipe 2 (some (.int z.1)) z.2 0 [(0, .ref (E.2.1 31))] [] h
  refine zr_aload_n (q := 1) g 0 dX9_wipe_0 rfl rfl rfl ?_
  refine zr_iconst (q := 2) (v := (0 : Int32)) g dX9_wipe_1 rfl (by decide) ?_
  obtain ⟨h1, e2, hM⟩ := zw_nm_ex hM
  refine zr_puti (q := 5) (k0 := 0) (h' := h1) g (hI 31 (by decide)) zs_31 rfl zp_X9_59 dX9_wipe_2 rfl e2 ?_
  refine zr_aload_n (q := 6) g 0 dX9_wipe_5 rfl rfl rfl ?_
  refine zr_geti (q := 9) (k0 := 2) g (hI 31 (by decide)) zs_31 rfl zf_X9_75 dX9_wipe_6 rfl ?_
  obtain ⟨y3, e4, hM⟩ := zw_nm_ex hM
  refine zr_nmi e4 ?_
  refine zr_istore_n (q := 10) (lv' := [(1, .int y3), (0, .ref (E.2.1 31))]) g dX9_wipe_9 rfl rfl (by decide) rfl ?_
  refine zr_aload_n (q := 11) g 1 dX9_wipe_10 rfl rfl rfl ?_
  refine zr_iconst (q := 12) (v := (0 : Int32)) g dX9_wipe_11 rfl (by decide) ?_
  obtain ⟨h5, e6, hM⟩ := zw_nm_ex hM
  refine zr_puti (q := 15) (k0 := 2) (h' := h5) g (hI 31 (by decide)) zs_31 rfl zp_X9_75 dX9_wipe_12 rfl e6 ?_
  refine zr_iload_n (q := 16) g 0 dX9_wipe_15 rfl rfl rfl ?_
  cases hM
  exact zr_iret g hr hlk dX9_wipe_16 rfl rfl
noncomputable def M_X9_figure (x1 : Int32) (x2 : Int32) (h : zw_Hp) : Option (Int32 × zw_Hp) :=
  if (h.1 31 3) = (h.1 31 2) then (some ((-9 : Int32), h)) else (if zw_ok (h.1 31 3) 36 = true then ((M_X9_in (((h.1 32 ((h.1 31 3)).toNatClampNeg) - (48 : Int32))).toInt64 (x1).toInt64 (x2).toInt64 h).bind (fun z3 => if z3 = 0 then (some ((-9 : Int32), h)) else (zw_nm (zw_up h 31 3 ((h.1 31 3) + (1 : Int32))) (fun h6 => if zw_ok ((h6.1 31 3) - (1 : Int32)) 36 = true then (some (((h6.1 32 (((h6.1 31 3) - (1 : Int32))).toNatClampNeg) - (48 : Int32)), h6)) else none)))) else none)
set_option maxRecDepth 100000 in
set_option maxHeartbeats 4000000 in
theorem R_X9_figure (ok : zw_Ok E) (hI : ∀ i, i < 48 → i ∈ E.2.2.1) {x1 : Int32} {x2 : Int32} {h : zw_Hp} {z : Int32 × zw_Hp} (hM : M_X9_figure x1 x2 h = some z) : zw_Ct l E mt_X9_figure [.ref (E.2.1 31), .int x1, .int x2] h (some (.int z.1)) z.2 := by
  unfold M_X9_figure at hM
  refine zw_ct (lv0 := [(0, .ref (E.2.1 31)), (1, .int x1), (2, .int x2)]) ok (by decide) rfl (Nat.le_of_ble_eq_true rfl) (fun p e s m args below meth c g hr hlk => ?_)
  replace g : zw_G p E (zw_A E) s m args c RX9 cX9_figure 3 := g
  show zw_V p l e s m args below meth c E mt_X9_figure 3 (some (.int z.1)) z.2 0 [(0, .ref (E.2.1 31)), (1, .int x1), (2, .int x2)] [] h
  refine zr_aload_n (q := 1) g 0 dX9_figure_0 rfl rfl rfl ?_
  refine zr_geti (q := 4) (k0 := 3) g (hI 31 (by decide)) zs_31 rfl zf_X9_78 dX9_figure_1 rfl ?_
  refine zr_aload_n (q := 5) g 0 dX9_figure_4 rfl rfl rfl ?_
  refine zr_geti (q := 8) (k0 := 2) g (hI 31 (by decide)) zs_31 rfl zf_X9_75 dX9_figure_5 rfl ?_
  refine zr_icmp_eq (q := 11) (tgt := 34) g dX9_figure_8 rfl rfl (fun c1 => ?_) (fun c1 => ?_)
  · replace hM := zw_ift c1 hM
    refine zr_bipush (q := 36) (v := (-9 : Int32)) g dX9_figure_34 rfl (by decide) ?_
    cases hM
    exact zr_iret g hr hlk dX9_figure_36 rfl rfl
  · replace hM := zw_iff c1 hM
    refine zr_aload_n (q := 12) g 0 dX9_figure_11 rfl rfl rfl ?_
    refine zr_getr (q := 15) (k0 := 1) (j := 32) g (hI 31 (by decide)) zs_31 rfl zf_X9_7 dX9_figure_12 rfl ?_
    refine zr_aload_n (q := 16) g 0 dX9_figure_15 rfl rfl rfl ?_
    refine zr_geti (q := 19) (k0 := 3) g (hI 31 (by decide)) zs_31 rfl zf_X9_78 dX9_figure_16 rfl ?_
    obtain ⟨c2, hM⟩ := zw_gd hM
    refine zr_iald (q := 20) g (hI 32 (by decide)) zs_32 c2 dX9_figure_19 rfl ?_
    refine zr_bipush (q := 22) (v := (48 : Int32)) g dX9_figure_20 rfl (by decide) ?_
    refine zr_isub (q := 23) g dX9_figure_22 rfl ?_
    refine zr_i2l (q := 24) g dX9_figure_23 rfl ?_
    refine zr_iload_n (q := 25) g 1 dX9_figure_24 rfl rfl rfl ?_
    refine zr_i2l (q := 26) g dX9_figure_25 rfl ?_
    refine zr_iload_n (q := 27) g 2 dX9_figure_26 rfl rfl rfl ?_
    refine zr_i2l (q := 28) g dX9_figure_27 rfl ?_
    obtain ⟨z3, q4, hM⟩ := zw_bd hM
    refine zr_callS (q := 31) (As := [.long (((h.1 32 ((h.1 31 3)).toNatClampNeg) - (48 : Int32))).toInt64, .long (x1).toInt64, .long (x2).toInt64]) (rest := []) (st' := [.int z3]) g (R_X9_in ok hI q4) zv_X9_in zl_X9_66 dX9_figure_28 rfl rfl ⟨Nat.le_of_ble_eq_true rfl, Nat.le_of_ble_eq_true rfl⟩ ⟨Nat.zero_le _, Nat.zero_le _⟩ (Nat.le_of_ble_eq_true rfl) rfl rfl ?_
    refine zr_if_ne (q := 34) (tgt := 37) g dX9_figure_31 rfl rfl (fun c5 => ?_) (fun c5 => ?_)
    · replace hM := zw_iff c5 hM
      refine zr_aload_n (q := 38) g 0 dX9_figure_37 rfl rfl rfl ?_
      refine zr_dup (q := 39) g dX9_figure_38 rfl rfl ?_
      refine zr_geti (q := 42) (k0 := 3) g (hI 31 (by decide)) zs_31 rfl zf_X9_78 dX9_figure_39 rfl ?_
      refine zr_iconst (q := 43) (v := (1 : Int32)) g dX9_figure_42 rfl (by decide) ?_
      refine zr_iadd (q := 44) g dX9_figure_43 rfl ?_
      obtain ⟨h6, e7, hM⟩ := zw_nm_ex hM
      refine zr_puti (q := 47) (k0 := 3) (h' := h6) g (hI 31 (by decide)) zs_31 rfl zp_X9_78 dX9_figure_44 rfl e7 ?_
      refine zr_aload_n (q := 48) g 0 dX9_figure_47 rfl rfl rfl ?_
      refine zr_getr (q := 51) (k0 := 1) (j := 32) g (hI 31 (by decide)) zs_31 rfl zf_X9_7 dX9_figure_48 rfl ?_
      refine zr_aload_n (q := 52) g 0 dX9_figure_51 rfl rfl rfl ?_
      refine zr_geti (q := 55) (k0 := 3) g (hI 31 (by decide)) zs_31 rfl zf_X9_78 dX9_figure_52 rfl ?_
      refine zr_iconst (q := 56) (v := (1 : Int32)) g dX9_figure_55 rfl (by decide) ?_
      refine zr_isub (q := 57) g dX9_figure_56 rfl ?_
      obtain ⟨c8, hM⟩ := zw_gd hM
      refine zr_iald (q := 58) g (hI 32 (by decide)) zs_32 c8 dX9_figure_57 rfl ?_
      refine zr_bipush (q := 60) (v := (48 : Int32)) g dX9_figure_58 rfl (by decide) ?_
      refine zr_isub (q := 61) g dX9_figure_60 rfl ?_
      cases hM
      exact zr_iret g hr hlk dX9_figure_61 rfl rfl
    · replace hM := zw_ift c5 hM
      refine zr_bipush (q := 36) (v := (-9 : Int32)) g dX9_figure_34 rfl (by decide) ?_
      cases hM
      exact zr_iret g hr hlk dX9_figure_36 rfl rfl
noncomputable def M_X9_readPerson (h : zw_Hp) : Option (Int32 × zw_Hp) :=
  (M_X9_figure (0 : Int32) (3 : Int32) h).bind (fun z1 => zw_nm z1.1 (fun y3 => if y3 = (-9 : Int32) then (some ((0 : Int32), z1.2)) else (if zw_ok (z1.2.1 31 13) 5 = true then zw_nm (zw_up z1.2 35 ((z1.2.1 31 13)).toNatClampNeg y3) (fun h7 => zw_nm (zw_up h7 31 13 ((h7.1 31 13) + (1 : Int32))) (fun h9 => some ((1 : Int32), h9))) else none)))
set_option maxRecDepth 100000 in
set_option maxHeartbeats 4000000 in
theorem R_X9_readPerson (ok : zw_Ok E) (hI : ∀ i, i < 48 → i ∈ E.2.2.1) {h : zw_Hp} {z : Int32 × zw_Hp} (hM : M_X9_readPerson h = some z) : zw_Ct l E mt_X9_readPerson [.ref (E.2.1 31)] h (some (.int z.1)) z.2 := by
  unfold M_X9_readPerson at hM
  refine zw_ct (lv0 := [(0, .ref (E.2.1 31))]) ok (by decide) rfl (Nat.le_of_ble_eq_true rfl) (fun p e s m args below meth c g hr hlk => ?_)
  replace g : zw_G p E (zw_A E) s m args c RX9 cX9_readPerson 2 := g
  show zw_V p l e s m args below meth c E mt_X9_readPerson 2 (some (.int z.1)) z.2 0 [(0, .ref (E.2.1 31))] [] h
  refine zr_aload_n (q := 1) g 0 dX9_readPerson_0 rfl rfl rfl ?_
  refine zr_iconst (q := 2) (v := (0 : Int32)) g dX9_readPerson_1 rfl (by decide) ?_
  refine zr_iconst (q := 3) (v := (3 : Int32)) g dX9_readPerson_2 rfl (by decide) ?_
  obtain ⟨z1, q2, hM⟩ := zw_bd hM
  refine zr_callV (q := 6) (As := [.int (0 : Int32), .int (3 : Int32)]) (rest := []) (st' := [.int z1.1]) (i := 31) g (R_X9_figure ok hI q2) zv_X9_figure zl_X9_81 (hI 31 (by decide)) zs_31 zc_X9.1 dX9_readPerson_3 rfl rfl ⟨Nat.le_of_ble_eq_true rfl, Nat.le_of_ble_eq_true rfl⟩ ⟨Nat.zero_le _, Nat.zero_le _⟩ (Nat.le_of_ble_eq_true rfl) rfl rfl ?_
  obtain ⟨y3, e4, hM⟩ := zw_nm_ex hM
  refine zr_nmi e4 ?_
  refine zr_istore_n (q := 7) (lv' := [(1, .int y3), (0, .ref (E.2.1 31))]) g dX9_readPerson_6 rfl rfl (by decide) rfl ?_
  refine zr_iload_n (q := 8) g 0 dX9_readPerson_7 rfl rfl rfl ?_
  refine zr_bipush (q := 10) (v := (-9 : Int32)) g dX9_readPerson_8 rfl (by decide) ?_
  refine zr_icmp_ne (q := 13) (tgt := 15) g dX9_readPerson_10 rfl rfl (fun c5 => ?_) (fun c5 => ?_)
  · replace hM := zw_iff c5 hM
    refine zr_aload_n (q := 16) g 1 dX9_readPerson_15 rfl rfl rfl ?_
    refine zr_getr (q := 19) (k0 := 14) (j := 35) g (hI 31 (by decide)) zs_31 rfl zf_X9_19 dX9_readPerson_16 rfl ?_
    refine zr_aload_n (q := 20) g 1 dX9_readPerson_19 rfl rfl rfl ?_
    refine zr_geti (q := 23) (k0 := 13) g (hI 31 (by decide)) zs_31 rfl zf_X9_85 dX9_readPerson_20 rfl ?_
    refine zr_iload_n (q := 24) g 0 dX9_readPerson_23 rfl rfl rfl ?_
    obtain ⟨c6, hM⟩ := zw_gd hM
    obtain ⟨h7, e8, hM⟩ := zw_nm_ex hM
    refine zr_iast (q := 25) (h' := h7) g (hI 35 (by decide)) zs_35 c6 dX9_readPerson_24 rfl e8 ?_
    refine zr_aload_n (q := 26) g 1 dX9_readPerson_25 rfl rfl rfl ?_
    refine zr_dup (q := 27) g dX9_readPerson_26 rfl rfl ?_
    refine zr_geti (q := 30) (k0 := 13) g (hI 31 (by decide)) zs_31 rfl zf_X9_85 dX9_readPerson_27 rfl ?_
    refine zr_iconst (q := 31) (v := (1 : Int32)) g dX9_readPerson_30 rfl (by decide) ?_
    refine zr_iadd (q := 32) g dX9_readPerson_31 rfl ?_
    obtain ⟨h9, e10, hM⟩ := zw_nm_ex hM
    refine zr_puti (q := 35) (k0 := 13) (h' := h9) g (hI 31 (by decide)) zs_31 rfl zp_X9_85 dX9_readPerson_32 rfl e10 ?_
    refine zr_iconst (q := 36) (v := (1 : Int32)) g dX9_readPerson_35 rfl (by decide) ?_
    cases hM
    exact zr_zret g hr hlk (by decide) dX9_readPerson_36 rfl rfl
  · replace hM := zw_ift c5 hM
    refine zr_iconst (q := 14) (v := (0 : Int32)) g dX9_readPerson_13 rfl (by decide) ?_
    cases hM
    exact zr_zret g hr hlk (by decide) dX9_readPerson_14 rfl rfl
noncomputable def B_X9_readBucket_25 (x1 : Int32) (s0 : Int32) (h : zw_Hp) : Option (Int32 × zw_Hp) :=
  if s0 = (-9 : Int32) then (some ((0 : Int32), h)) else (if zw_ok (h.1 31 15) 4 = true then zw_nm (zw_up h 36 ((h.1 31 15)).toNatClampNeg x1) (fun h10 => zw_nm (zw_up h10 31 17 ((h10.1 31 17) ||| (s0 <<< ((h10.1 31 15) &&& 31)))) (fun h12 => zw_nm (zw_up h12 31 15 ((h12.1 31 15) + (1 : Int32))) (fun h14 => some ((1 : Int32), h14)))) else none)
set_option maxRecDepth 100000 in
set_option maxHeartbeats 4000000 in
theorem U_X9_readBucket_25 (ok : zw_Ok E) (hI : ∀ i, i < 48 → i ∈ E.2.2.1) (g : zw_G p E (zw_A E) s m args c RX9 cX9_readBucket 3) (hr : meth.sig.returnType = some .boolean) (hlk : meth.locks = false) :
    ∀ (x1 : Int32) (s0 : Int32) (h : zw_Hp) (z : Int32 × zw_Hp), B_X9_readBucket_25 x1 s0 h = some z → zw_V p l e s m args below meth c E mt_X9_readBucket 3 (some (.int z.1)) z.2 25 [(0, .ref (E.2.1 31)), (1, .int x1)] [.int s0] h := by
  intro x1 s0 h z hM
  unfold B_X9_readBucket_25 at hM
  refine zr_istore_n (q := 26) (lv' := [(2, .int s0), (0, .ref (E.2.1 31)), (1, .int x1)]) g dX9_readBucket_25 rfl rfl (by decide) rfl ?_
  refine zr_iload_n (q := 27) g 0 dX9_readBucket_26 rfl rfl rfl ?_
  refine zr_bipush (q := 29) (v := (-9 : Int32)) g dX9_readBucket_27 rfl (by decide) ?_
  refine zr_icmp_ne (q := 32) (tgt := 34) g dX9_readBucket_29 rfl rfl (fun c8 => ?_) (fun c8 => ?_)
  · replace hM := zw_iff c8 hM
    refine zr_aload_n (q := 35) g 1 dX9_readBucket_34 rfl rfl rfl ?_
    refine zr_getr (q := 38) (k0 := 16) (j := 36) g (hI 31 (by decide)) zs_31 rfl zf_X9_22 dX9_readBucket_35 rfl ?_
    refine zr_aload_n (q := 39) g 1 dX9_readBucket_38 rfl rfl rfl ?_
    refine zr_geti (q := 42) (k0 := 15) g (hI 31 (by decide)) zs_31 rfl zf_X9_88 dX9_readBucket_39 rfl ?_
    refine zr_iload_n (q := 43) g 2 dX9_readBucket_42 rfl rfl rfl ?_
    obtain ⟨c9, hM⟩ := zw_gd hM
    obtain ⟨h10, e11, hM⟩ := zw_nm_ex hM
    refine zr_iast (q := 44) (h' := h10) g (hI 36 (by decide)) zs_36 c9 dX9_readBucket_43 rfl e11 ?_
    refine zr_aload_n (q := 45) g 1 dX9_readBucket_44 rfl rfl rfl ?_
    refine zr_dup (q := 46) g dX9_readBucket_45 rfl rfl ?_
    refine zr_geti (q := 49) (k0 := 17) g (hI 31 (by decide)) zs_31 rfl zf_X9_91 dX9_readBucket_46 rfl ?_
    refine zr_iload_n (q := 50) g 0 dX9_readBucket_49 rfl rfl rfl ?_
    refine zr_aload_n (q := 51) g 1 dX9_readBucket_50 rfl rfl rfl ?_
    refine zr_geti (q := 54) (k0 := 15) g (hI 31 (by decide)) zs_31 rfl zf_X9_88 dX9_readBucket_51 rfl ?_
    refine zr_ishl (q := 55) g dX9_readBucket_54 rfl ?_
    refine zr_ior (q := 56) g dX9_readBucket_55 rfl ?_
    obtain ⟨h12, e13, hM⟩ := zw_nm_ex hM
    refine zr_puti (q := 59) (k0 := 17) (h' := h12) g (hI 31 (by decide)) zs_31 rfl zp_X9_91 dX9_readBucket_56 rfl e13 ?_
    refine zr_aload_n (q := 60) g 1 dX9_readBucket_59 rfl rfl rfl ?_
    refine zr_dup (q := 61) g dX9_readBucket_60 rfl rfl ?_
    refine zr_geti (q := 64) (k0 := 15) g (hI 31 (by decide)) zs_31 rfl zf_X9_88 dX9_readBucket_61 rfl ?_
    refine zr_iconst (q := 65) (v := (1 : Int32)) g dX9_readBucket_64 rfl (by decide) ?_
    refine zr_iadd (q := 66) g dX9_readBucket_65 rfl ?_
    obtain ⟨h14, e15, hM⟩ := zw_nm_ex hM
    refine zr_puti (q := 69) (k0 := 15) (h' := h14) g (hI 31 (by decide)) zs_31 rfl zp_X9_88 dX9_readBucket_66 rfl e15 ?_
    refine zr_iconst (q := 70) (v := (1 : Int32)) g dX9_readBucket_69 rfl (by decide) ?_
    cases hM
    exact zr_zret g hr hlk (by decide) dX9_readBucket_70 rfl rfl
  · replace hM := zw_ift c8 hM
    refine zr_iconst (q := 33) (v := (0 : Int32)) g dX9_readBucket_32 rfl (by decide) ?_
    cases hM
    exact zr_zret g hr hlk (by decide) dX9_readBucket_33 rfl rfl
noncomputable def M_X9_readBucket (h : zw_Hp) : Option (Int32 × zw_Hp) :=
  (M_X9_figure (1 : Int32) (9 : Int32) h).bind (fun z1 => zw_nm z1.1 (fun y3 => if y3 = (-9 : Int32) then (B_X9_readBucket_25 y3 (-9 : Int32) z1.2) else ((M_X9_figure (0 : Int32) (1 : Int32) z1.2).bind (fun z6 => B_X9_readBucket_25 y3 z6.1 z6.2))))
set_option maxRecDepth 100000 in
set_option maxHeartbeats 4000000 in
theorem R_X9_readBucket (ok : zw_Ok E) (hI : ∀ i, i < 48 → i ∈ E.2.2.1) {h : zw_Hp} {z : Int32 × zw_Hp} (hM : M_X9_readBucket h = some z) : zw_Ct l E mt_X9_readBucket [.ref (E.2.1 31)] h (some (.int z.1)) z.2 := by
  unfold M_X9_readBucket at hM
  refine zw_ct (lv0 := [(0, .ref (E.2.1 31))]) ok (by decide) rfl (Nat.le_of_ble_eq_true rfl) (fun p e s m args below meth c g hr hlk => ?_)
  replace g : zw_G p E (zw_A E) s m args c RX9 cX9_readBucket 3 := g
  show zw_V p l e s m args below meth c E mt_X9_readBucket 3 (some (.int z.1)) z.2 0 [(0, .ref (E.2.1 31))] [] h
  refine zr_aload_n (q := 1) g 0 dX9_readBucket_0 rfl rfl rfl ?_
  refine zr_iconst (q := 2) (v := (1 : Int32)) g dX9_readBucket_1 rfl (by decide) ?_
  refine zr_bipush (q := 4) (v := (9 : Int32)) g dX9_readBucket_2 rfl (by decide) ?_
  obtain ⟨z1, q2, hM⟩ := zw_bd hM
  refine zr_callV (q := 7) (As := [.int (1 : Int32), .int (9 : Int32)]) (rest := []) (st' := [.int z1.1]) (i := 31) g (R_X9_figure ok hI q2) zv_X9_figure zl_X9_81 (hI 31 (by decide)) zs_31 zc_X9.1 dX9_readBucket_4 rfl rfl ⟨Nat.le_of_ble_eq_true rfl, Nat.le_of_ble_eq_true rfl⟩ ⟨Nat.zero_le _, Nat.zero_le _⟩ (Nat.le_of_ble_eq_true rfl) rfl rfl ?_
  obtain ⟨y3, e4, hM⟩ := zw_nm_ex hM
  refine zr_nmi e4 ?_
  refine zr_istore_n (q := 8) (lv' := [(1, .int y3), (0, .ref (E.2.1 31))]) g dX9_readBucket_7 rfl rfl (by decide) rfl ?_
  refine zr_iload_n (q := 9) g 0 dX9_readBucket_8 rfl rfl rfl ?_
  refine zr_bipush (q := 11) (v := (-9 : Int32)) g dX9_readBucket_9 rfl (by decide) ?_
  refine zr_icmp_ne (q := 14) (tgt := 19) g dX9_readBucket_11 rfl rfl (fun c5 => ?_) (fun c5 => ?_)
  · replace hM := zw_iff c5 hM
    refine zr_aload_n (q := 20) g 1 dX9_readBucket_19 rfl rfl rfl ?_
    refine zr_iconst (q := 21) (v := (0 : Int32)) g dX9_readBucket_20 rfl (by decide) ?_
    refine zr_iconst (q := 22) (v := (1 : Int32)) g dX9_readBucket_21 rfl (by decide) ?_
    obtain ⟨z6, q7, hM⟩ := zw_bd hM
    refine zr_callV (q := 25) (As := [.int (0 : Int32), .int (1 : Int32)]) (rest := []) (st' := [.int z6.1]) (i := 31) g (R_X9_figure ok hI q7) zv_X9_figure zl_X9_81 (hI 31 (by decide)) zs_31 zc_X9.1 dX9_readBucket_22 rfl rfl ⟨Nat.le_of_ble_eq_true rfl, Nat.le_of_ble_eq_true rfl⟩ ⟨Nat.zero_le _, Nat.zero_le _⟩ (Nat.le_of_ble_eq_true rfl) rfl rfl ?_
    refine zr_lv (lv' := [(0, .ref (E.2.1 31)), (1, .int y3)]) [1, 0] rfl ?_
    exact U_X9_readBucket_25 ok hI g hr hlk _ _ _ _ hM
  · replace hM := zw_ift c5 hM
    refine zr_bipush (q := 16) (v := (-9 : Int32)) g dX9_readBucket_14 rfl (by decide) ?_
    refine zr_goto (tgt := 25) g dX9_readBucket_16 rfl ?_
    refine zr_lv (lv' := [(0, .ref (E.2.1 31)), (1, .int y3)]) [1, 0] rfl ?_
    exact U_X9_readBucket_25 ok hI g hr hlk _ _ _ _ hM
noncomputable def B_X9_readPart_39 (x1 : Int32) (h : zw_Hp) : Option (Int32 × zw_Hp) :=
  if x1 = (66 : Int32) then (if (4 : Int32) ≤ (h.1 31 15) then (zw_nm (zw_up h 31 3 ((h.1 31 3) - (1 : Int32))) (fun h15 => some ((0 : Int32), h15))) else ((M_X9_readBucket h).bind (fun z17 => if z17.1 = 0 ∨ z17.1 = 1 then some (z17.1, z17.2) else none))) else (zw_nm (zw_up h 31 3 ((h.1 31 3) - (1 : Int32))) (fun h12 => some ((0 : Int32), h12)))
set_option maxRecDepth 100000 in
set_option maxHeartbeats 4000000 in
theorem U_X9_readPart_39 (ok : zw_Ok E) (hI : ∀ i, i < 48 → i ∈ E.2.2.1) (g : zw_G p E (zw_A E) s m args c RX9 cX9_readPart 2) (hr : meth.sig.returnType = some .boolean) (hlk : meth.locks = false) :
    ∀ (x1 : Int32) (h : zw_Hp) (z : Int32 × zw_Hp), B_X9_readPart_39 x1 h = some z → zw_V p l e s m args below meth c E mt_X9_readPart 2 (some (.int z.1)) z.2 39 [(0, .ref (E.2.1 31)), (1, .int x1)] [] h := by
  intro x1 h z hM
  unfold B_X9_readPart_39 at hM
  refine zr_iload_n (q := 40) g 1 dX9_readPart_39 rfl rfl rfl ?_
  refine zr_bipush (q := 42) (v := (66 : Int32)) g dX9_readPart_40 rfl (by decide) ?_
  refine zr_icmp_ne (q := 45) (tgt := 58) g dX9_readPart_42 rfl rfl (fun c11 => ?_) (fun c11 => ?_)
  · replace hM := zw_iff c11 hM
    refine zr_aload_n (q := 59) g 0 dX9_readPart_58 rfl rfl rfl ?_
    refine zr_dup (q := 60) g dX9_readPart_59 rfl rfl ?_
    refine zr_geti (q := 63) (k0 := 3) g (hI 31 (by decide)) zs_31 rfl zf_X9_78 dX9_readPart_60 rfl ?_
    refine zr_iconst (q := 64) (v := (1 : Int32)) g dX9_readPart_63 rfl (by decide) ?_
    refine zr_isub (q := 65) g dX9_readPart_64 rfl ?_
    obtain ⟨h12, e13, hM⟩ := zw_nm_ex hM
    refine zr_puti (q := 68) (k0 := 3) (h' := h12) g (hI 31 (by decide)) zs_31 rfl zp_X9_78 dX9_readPart_65 rfl e13 ?_
    refine zr_iconst (q := 69) (v := (0 : Int32)) g dX9_readPart_68 rfl (by decide) ?_
    cases hM
    exact zr_zret g hr hlk (by decide) dX9_readPart_69 rfl rfl
  · replace hM := zw_ift c11 hM
    refine zr_aload_n (q := 46) g 0 dX9_readPart_45 rfl rfl rfl ?_
    refine zr_geti (q := 49) (k0 := 15) g (hI 31 (by decide)) zs_31 rfl zf_X9_88 dX9_readPart_46 rfl ?_
    refine zr_iconst (q := 50) (v := (4 : Int32)) g dX9_readPart_49 rfl (by decide) ?_
    refine zr_icmp_ge (q := 53) (tgt := 58) g dX9_readPart_50 rfl rfl (fun c14 => ?_) (fun c14 => ?_)
    · replace hM := zw_ift c14 hM
      refine zr_aload_n (q := 59) g 0 dX9_readPart_58 rfl rfl rfl ?_
      refine zr_dup (q := 60) g dX9_readPart_59 rfl rfl ?_
      refine zr_geti (q := 63) (k0 := 3) g (hI 31 (by decide)) zs_31 rfl zf_X9_78 dX9_readPart_60 rfl ?_
      refine zr_iconst (q := 64) (v := (1 : Int32)) g dX9_readPart_63 rfl (by decide) ?_
      refine zr_isub (q := 65) g dX9_readPart_64 rfl ?_
      obtain ⟨h15, e16, hM⟩ := zw_nm_ex hM
      refine zr_puti (q := 68) (k0 := 3) (h' := h15) g (hI 31 (by decide)) zs_31 rfl zp_X9_78 dX9_readPart_65 rfl e16 ?_
      refine zr_iconst (q := 69) (v := (0 : Int32)) g dX9_readPart_68 rfl (by decide) ?_
      cases hM
      exact zr_zret g hr hlk (by decide) dX9_readPart_69 rfl rfl
    · replace hM := zw_iff c14 hM
      refine zr_aload_n (q := 54) g 0 dX9_readPart_53 rfl rfl rfl ?_
      obtain ⟨z17, q18, hM⟩ := zw_bd hM
      refine zr_callV (q := 57) (As := []) (rest := []) (st' := [.int z17.1]) (i := 31) g (R_X9_readBucket ok hI q18) zv_X9_readBucket zl_X9_98 (hI 31 (by decide)) zs_31 zc_X9.1 dX9_readPart_54 rfl rfl ⟨Nat.le_of_ble_eq_true rfl, Nat.le_of_ble_eq_true rfl⟩ ⟨Nat.zero_le _, Nat.zero_le _⟩ (Nat.le_of_ble_eq_true rfl) rfl rfl ?_
      obtain ⟨c19, hM⟩ := zw_gp hM
      cases hM
      exact zr_zret g hr hlk c19 dX9_readPart_57 rfl rfl
noncomputable def M_X9_readPart (h : zw_Hp) : Option (Int32 × zw_Hp) :=
  if zw_ok (h.1 31 3) 36 = true then (zw_nm (h.1 32 ((h.1 31 3)).toNatClampNeg) (fun y2 => zw_nm (zw_up h 31 3 ((h.1 31 3) + (1 : Int32))) (fun h4 => if y2 = (80 : Int32) then (if (5 : Int32) ≤ (h4.1 31 13) then (B_X9_readPart_39 y2 h4) else ((M_X9_readPerson h4).bind (fun z8 => if z8.1 = 0 ∨ z8.1 = 1 then some (z8.1, z8.2) else none))) else (B_X9_readPart_39 y2 h4)))) else none
set_option maxRecDepth 100000 in
set_option maxHeartbeats 4000000 in
theorem R_X9_readPart (ok : zw_Ok E) (hI : ∀ i, i < 48 → i ∈ E.2.2.1) {h : zw_Hp} {z : Int32 × zw_Hp} (hM : M_X9_readPart h = some z) : zw_Ct l E mt_X9_readPart [.ref (E.2.1 31)] h (some (.int z.1)) z.2 := by
  unfold M_X9_readPart at hM
  refine zw_ct (lv0 := [(0, .ref (E.2.1 31))]) ok (by decide) rfl (Nat.le_of_ble_eq_true rfl) (fun p e s m args below meth c g hr hlk => ?_)
  replace g : zw_G p E (zw_A E) s m args c RX9 cX9_readPart 2 := g
  show zw_V p l e s m args below meth c E mt_X9_readPart 2 (some (.int z.1)) z.2 0 [(0, .ref (E.2.1 31))] [] h
  refine zr_aload_n (q := 1) g 0 dX9_readPart_0 rfl rfl rfl ?_
  refine zr_getr (q := 4) (k0 := 1) (j := 32) g (hI 31 (by decide)) zs_31 rfl zf_X9_7 dX9_readPart_1 rfl ?_
  refine zr_aload_n (q := 5) g 0 dX9_readPart_4 rfl rfl rfl ?_
  refine zr_geti (q := 8) (k0 := 3) g (hI 31 (by decide)) zs_31 rfl zf_X9_78 dX9_readPart_5 rfl ?_
  obtain ⟨c1, hM⟩ := zw_gd hM
  refine zr_iald (q := 9) g (hI 32 (by decide)) zs_32 c1 dX9_readPart_8 rfl ?_
  obtain ⟨y2, e3, hM⟩ := zw_nm_ex hM
  refine zr_nmi e3 ?_
  refine zr_istore_n (q := 10) (lv' := [(1, .int y2), (0, .ref (E.2.1 31))]) g dX9_readPart_9 rfl rfl (by decide) rfl ?_
  refine zr_aload_n (q := 11) g 1 dX9_readPart_10 rfl rfl rfl ?_
  refine zr_dup (q := 12) g dX9_readPart_11 rfl rfl ?_
  refine zr_geti (q := 15) (k0 := 3) g (hI 31 (by decide)) zs_31 rfl zf_X9_78 dX9_readPart_12 rfl ?_
  refine zr_iconst (q := 16) (v := (1 : Int32)) g dX9_readPart_15 rfl (by decide) ?_
  refine zr_iadd (q := 17) g dX9_readPart_16 rfl ?_
  obtain ⟨h4, e5, hM⟩ := zw_nm_ex hM
  refine zr_puti (q := 20) (k0 := 3) (h' := h4) g (hI 31 (by decide)) zs_31 rfl zp_X9_78 dX9_readPart_17 rfl e5 ?_
  refine zr_iload_n (q := 21) g 0 dX9_readPart_20 rfl rfl rfl ?_
  refine zr_bipush (q := 23) (v := (80 : Int32)) g dX9_readPart_21 rfl (by decide) ?_
  refine zr_icmp_ne (q := 26) (tgt := 39) g dX9_readPart_23 rfl rfl (fun c6 => ?_) (fun c6 => ?_)
  · replace hM := zw_iff c6 hM
    refine zr_lv (lv' := [(0, .ref (E.2.1 31)), (1, .int y2)]) [1, 0] rfl ?_
    exact U_X9_readPart_39 ok hI g hr hlk _ _ _ hM
  · replace hM := zw_ift c6 hM
    refine zr_aload_n (q := 27) g 1 dX9_readPart_26 rfl rfl rfl ?_
    refine zr_geti (q := 30) (k0 := 13) g (hI 31 (by decide)) zs_31 rfl zf_X9_85 dX9_readPart_27 rfl ?_
    refine zr_iconst (q := 31) (v := (5 : Int32)) g dX9_readPart_30 rfl (by decide) ?_
    refine zr_icmp_ge (q := 34) (tgt := 39) g dX9_readPart_31 rfl rfl (fun c7 => ?_) (fun c7 => ?_)
    · replace hM := zw_ift c7 hM
      refine zr_lv (lv' := [(0, .ref (E.2.1 31)), (1, .int y2)]) [1, 0] rfl ?_
      exact U_X9_readPart_39 ok hI g hr hlk _ _ _ hM
    · replace hM := zw_iff c7 hM
      refine zr_aload_n (q := 35) g 1 dX9_readPart_34 rfl rfl rfl ?_
      obtain ⟨z8, q9, hM⟩ := zw_bd hM
      refine zr_callV (q := 38) (As := []) (rest := []) (st' := [.int z8.1]) (i := 31) g (R_X9_readPerson ok hI q9) zv_X9_readPerson zl_X9_94 (hI 31 (by decide)) zs_31 zc_X9.1 dX9_readPart_35 rfl rfl ⟨Nat.le_of_ble_eq_true rfl, Nat.le_of_ble_eq_true rfl⟩ ⟨Nat.zero_le _, Nat.zero_le _⟩ (Nat.le_of_ble_eq_true rfl) rfl rfl ?_
      obtain ⟨c10, hM⟩ := zw_gp hM
      cases hM
      exact zr_zret g hr hlk c10 dX9_readPart_38 rfl rfl
noncomputable def B_X9_readHead_71 (x1 : Int32) (x2 : Int32) (s0 : Int32) (h : zw_Hp) : Option (Int32 × zw_Hp) :=
  zw_nm (zw_up h 31 12 s0) (fun h16 => zw_nm (zw_up h16 31 10 (((10 : Int32) * x1) + x2)) (fun h18 => if (h18.1 31 12) = (-9 : Int32) then (some ((0 : Int32), h18)) else (some ((1 : Int32), h18))))
set_option maxRecDepth 100000 in
set_option maxHeartbeats 4000000 in
theorem U_X9_readHead_71 (ok : zw_Ok E) (hI : ∀ i, i < 48 → i ∈ E.2.2.1) (g : zw_G p E (zw_A E) s m args c RX9 cX9_readHead 3) (hr : meth.sig.returnType = some .boolean) (hlk : meth.locks = false) :
    ∀ (x1 : Int32) (x2 : Int32) (s0 : Int32) (h : zw_Hp) (z : Int32 × zw_Hp), B_X9_readHead_71 x1 x2 s0 h = some z → zw_V p l e s m args below meth c E mt_X9_readHead 3 (some (.int z.1)) z.2 71 [(0, .ref (E.2.1 31)), (1, .int x1), (2, .int x2)] [.int s0, .ref (E.2.1 31)] h := by
  intro x1 x2 s0 h z hM
  unfold B_X9_readHead_71 at hM
  obtain ⟨h16, e17, hM⟩ := zw_nm_ex hM
  refine zr_puti (q := 74) (k0 := 12) (h' := h16) g (hI 31 (by decide)) zs_31 rfl zp_X9_104 dX9_readHead_71 rfl e17 ?_
  refine zr_aload_n (q := 75) g 0 dX9_readHead_74 rfl rfl rfl ?_
  refine zr_bipush (q := 77) (v := (10 : Int32)) g dX9_readHead_75 rfl (by decide) ?_
  refine zr_iload_n (q := 78) g 1 dX9_readHead_77 rfl rfl rfl ?_
  refine zr_imul (q := 79) g dX9_readHead_78 rfl ?_
  refine zr_iload_n (q := 80) g 2 dX9_readHead_79 rfl rfl rfl ?_
  refine zr_iadd (q := 81) g dX9_readHead_80 rfl ?_
  obtain ⟨h18, e19, hM⟩ := zw_nm_ex hM
  refine zr_puti (q := 84) (k0 := 10) (h' := h18) g (hI 31 (by decide)) zs_31 rfl zp_X9_107 dX9_readHead_81 rfl e19 ?_
  refine zr_aload_n (q := 85) g 0 dX9_readHead_84 rfl rfl rfl ?_
  refine zr_geti (q := 88) (k0 := 12) g (hI 31 (by decide)) zs_31 rfl zf_X9_104 dX9_readHead_85 rfl ?_
  refine zr_bipush (q := 90) (v := (-9 : Int32)) g dX9_readHead_88 rfl (by decide) ?_
  refine zr_icmp_eq (q := 93) (tgt := 97) g dX9_readHead_90 rfl rfl (fun c20 => ?_) (fun c20 => ?_)
  · replace hM := zw_ift c20 hM
    refine zr_iconst (q := 98) (v := (0 : Int32)) g dX9_readHead_97 rfl (by decide) ?_
    cases hM
    exact zr_zret g hr hlk (by decide) dX9_readHead_98 rfl rfl
  · replace hM := zw_iff c20 hM
    refine zr_iconst (q := 94) (v := (1 : Int32)) g dX9_readHead_93 rfl (by decide) ?_
    refine zr_goto (tgt := 98) g dX9_readHead_94 rfl ?_
    cases hM
    exact zr_zret g hr hlk (by decide) dX9_readHead_98 rfl rfl
noncomputable def B_X9_readHead_46 (x1 : Int32) (x2 : Int32) (s0 : Int32) (h : zw_Hp) : Option (Int32 × zw_Hp) :=
  zw_nm (zw_up h 31 11 s0) (fun h11 => if (h11.1 31 11) = (-9 : Int32) then (B_X9_readHead_71 x1 x2 (-9 : Int32) h11) else ((M_X9_figure (0 : Int32) (9 : Int32) h11).bind (fun z14 => B_X9_readHead_71 x1 x2 z14.1 z14.2)))
set_option maxRecDepth 100000 in
set_option maxHeartbeats 4000000 in
theorem U_X9_readHead_46 (ok : zw_Ok E) (hI : ∀ i, i < 48 → i ∈ E.2.2.1) (g : zw_G p E (zw_A E) s m args c RX9 cX9_readHead 3) (hr : meth.sig.returnType = some .boolean) (hlk : meth.locks = false) :
    ∀ (x1 : Int32) (x2 : Int32) (s0 : Int32) (h : zw_Hp) (z : Int32 × zw_Hp), B_X9_readHead_46 x1 x2 s0 h = some z → zw_V p l e s m args below meth c E mt_X9_readHead 3 (some (.int z.1)) z.2 46 [(0, .ref (E.2.1 31)), (1, .int x1), (2, .int x2)] [.int s0, .ref (E.2.1 31)] h := by
  intro x1 x2 s0 h z hM
  unfold B_X9_readHead_46 at hM
  obtain ⟨h11, e12, hM⟩ := zw_nm_ex hM
  refine zr_puti (q := 49) (k0 := 11) (h' := h11) g (hI 31 (by decide)) zs_31 rfl zp_X9_101 dX9_readHead_46 rfl e12 ?_
  refine zr_aload_n (q := 50) g 0 dX9_readHead_49 rfl rfl rfl ?_
  refine zr_aload_n (q := 51) g 0 dX9_readHead_50 rfl rfl rfl ?_
  refine zr_geti (q := 54) (k0 := 11) g (hI 31 (by decide)) zs_31 rfl zf_X9_101 dX9_readHead_51 rfl ?_
  refine zr_bipush (q := 56) (v := (-9 : Int32)) g dX9_readHead_54 rfl (by decide) ?_
  refine zr_icmp_ne (q := 59) (tgt := 64) g dX9_readHead_56 rfl rfl (fun c13 => ?_) (fun c13 => ?_)
  · replace hM := zw_iff c13 hM
    refine zr_aload_n (q := 65) g 0 dX9_readHead_64 rfl rfl rfl ?_
    refine zr_iconst (q := 66) (v := (0 : Int32)) g dX9_readHead_65 rfl (by decide) ?_
    refine zr_bipush (q := 68) (v := (9 : Int32)) g dX9_readHead_66 rfl (by decide) ?_
    obtain ⟨z14, q15, hM⟩ := zw_bd hM
    refine zr_callV (q := 71) (As := [.int (0 : Int32), .int (9 : Int32)]) (rest := [.ref (E.2.1 31)]) (st' := [.int z14.1, .ref (E.2.1 31)]) (i := 31) g (R_X9_figure ok hI q15) zv_X9_figure zl_X9_81 (hI 31 (by decide)) zs_31 zc_X9.1 dX9_readHead_68 rfl rfl ⟨Nat.le_of_ble_eq_true rfl, Nat.le_of_ble_eq_true rfl⟩ ⟨Nat.zero_le _, Nat.zero_le _⟩ (Nat.le_of_ble_eq_true rfl) rfl rfl ?_
    exact U_X9_readHead_71 ok hI g hr hlk _ _ _ _ _ hM
  · replace hM := zw_ift c13 hM
    refine zr_bipush (q := 61) (v := (-9 : Int32)) g dX9_readHead_59 rfl (by decide) ?_
    refine zr_goto (tgt := 71) g dX9_readHead_61 rfl ?_
    exact U_X9_readHead_71 ok hI g hr hlk _ _ _ _ _ hM
noncomputable def B_X9_readHead_26 (x1 : Int32) (s0 : Int32) (h : zw_Hp) : Option (Int32 × zw_Hp) :=
  if s0 = (-9 : Int32) then (B_X9_readHead_46 x1 s0 (-9 : Int32) h) else ((M_X9_figure (0 : Int32) (9 : Int32) h).bind (fun z9 => B_X9_readHead_46 x1 s0 z9.1 z9.2))
set_option maxRecDepth 100000 in
set_option maxHeartbeats 4000000 in
theorem U_X9_readHead_26 (ok : zw_Ok E) (hI : ∀ i, i < 48 → i ∈ E.2.2.1) (g : zw_G p E (zw_A E) s m args c RX9 cX9_readHead 3) (hr : meth.sig.returnType = some .boolean) (hlk : meth.locks = false) :
    ∀ (x1 : Int32) (s0 : Int32) (h : zw_Hp) (z : Int32 × zw_Hp), B_X9_readHead_26 x1 s0 h = some z → zw_V p l e s m args below meth c E mt_X9_readHead 3 (some (.int z.1)) z.2 26 [(0, .ref (E.2.1 31)), (1, .int x1)] [.int s0] h := by
  intro x1 s0 h z hM
  unfold B_X9_readHead_26 at hM
  refine zr_istore_n (q := 27) (lv' := [(2, .int s0), (0, .ref (E.2.1 31)), (1, .int x1)]) g dX9_readHead_26 rfl rfl (by decide) rfl ?_
  refine zr_aload_n (q := 28) g 1 dX9_readHead_27 rfl rfl rfl ?_
  refine zr_iload_n (q := 29) g 0 dX9_readHead_28 rfl rfl rfl ?_
  refine zr_bipush (q := 31) (v := (-9 : Int32)) g dX9_readHead_29 rfl (by decide) ?_
  refine zr_icmp_ne (q := 34) (tgt := 39) g dX9_readHead_31 rfl rfl (fun c8 => ?_) (fun c8 => ?_)
  · replace hM := zw_iff c8 hM
    refine zr_aload_n (q := 40) g 1 dX9_readHead_39 rfl rfl rfl ?_
    refine zr_iconst (q := 41) (v := (0 : Int32)) g dX9_readHead_40 rfl (by decide) ?_
    refine zr_bipush (q := 43) (v := (9 : Int32)) g dX9_readHead_41 rfl (by decide) ?_
    obtain ⟨z9, q10, hM⟩ := zw_bd hM
    refine zr_callV (q := 46) (As := [.int (0 : Int32), .int (9 : Int32)]) (rest := [.ref (E.2.1 31)]) (st' := [.int z9.1, .ref (E.2.1 31)]) (i := 31) g (R_X9_figure ok hI q10) zv_X9_figure zl_X9_81 (hI 31 (by decide)) zs_31 zc_X9.1 dX9_readHead_43 rfl rfl ⟨Nat.le_of_ble_eq_true rfl, Nat.le_of_ble_eq_true rfl⟩ ⟨Nat.zero_le _, Nat.zero_le _⟩ (Nat.le_of_ble_eq_true rfl) rfl rfl ?_
    refine zr_lv (lv' := [(0, .ref (E.2.1 31)), (1, .int x1), (2, .int s0)]) [1, 2, 0] rfl ?_
    exact U_X9_readHead_46 ok hI g hr hlk _ _ _ _ _ hM
  · replace hM := zw_ift c8 hM
    refine zr_bipush (q := 36) (v := (-9 : Int32)) g dX9_readHead_34 rfl (by decide) ?_
    refine zr_goto (tgt := 46) g dX9_readHead_36 rfl ?_
    refine zr_lv (lv' := [(0, .ref (E.2.1 31)), (1, .int x1), (2, .int s0)]) [1, 2, 0] rfl ?_
    exact U_X9_readHead_46 ok hI g hr hlk _ _ _ _ _ hM
noncomputable def M_X9_readHead (h : zw_Hp) : Option (Int32 × zw_Hp) :=
  (M_X9_figure (0 : Int32) (9 : Int32) h).bind (fun z1 => zw_nm z1.1 (fun y3 => if y3 = (-9 : Int32) then (B_X9_readHead_26 y3 (-9 : Int32) z1.2) else ((M_X9_figure (0 : Int32) (9 : Int32) z1.2).bind (fun z6 => B_X9_readHead_26 y3 z6.1 z6.2))))
set_option maxRecDepth 100000 in
set_option maxHeartbeats 4000000 in
theorem R_X9_readHead (ok : zw_Ok E) (hI : ∀ i, i < 48 → i ∈ E.2.2.1) {h : zw_Hp} {z : Int32 × zw_Hp} (hM : M_X9_readHead h = some z) : zw_Ct l E mt_X9_readHead [.ref (E.2.1 31)] h (some (.int z.1)) z.2 := by
  unfold M_X9_readHead at hM
  refine zw_ct (lv0 := [(0, .ref (E.2.1 31))]) ok (by decide) rfl (Nat.le_of_ble_eq_true rfl) (fun p e s m args below meth c g hr hlk => ?_)
  replace g : zw_G p E (zw_A E) s m args c RX9 cX9_readHead 3 := g
  show zw_V p l e s m args below meth c E mt_X9_readHead 3 (some (.int z.1)) z.2 0 [(0, .ref (E.2.1 31))] [] h
  refine zr_aload_n (q := 1) g 0 dX9_readHead_0 rfl rfl rfl ?_
  refine zr_iconst (q := 2) (v := (0 : Int32)) g dX9_readHead_1 rfl (by decide) ?_
  refine zr_bipush (q := 4) (v := (9 : Int32)) g dX9_readHead_2 rfl (by decide) ?_
  obtain ⟨z1, q2, hM⟩ := zw_bd hM
  refine zr_callV (q := 7) (As := [.int (0 : Int32), .int (9 : Int32)]) (rest := []) (st' := [.int z1.1]) (i := 31) g (R_X9_figure ok hI q2) zv_X9_figure zl_X9_81 (hI 31 (by decide)) zs_31 zc_X9.1 dX9_readHead_4 rfl rfl ⟨Nat.le_of_ble_eq_true rfl, Nat.le_of_ble_eq_true rfl⟩ ⟨Nat.zero_le _, Nat.zero_le _⟩ (Nat.le_of_ble_eq_true rfl) rfl rfl ?_
  obtain ⟨y3, e4, hM⟩ := zw_nm_ex hM
  refine zr_nmi e4 ?_
  refine zr_istore_n (q := 8) (lv' := [(1, .int y3), (0, .ref (E.2.1 31))]) g dX9_readHead_7 rfl rfl (by decide) rfl ?_
  refine zr_iload_n (q := 9) g 0 dX9_readHead_8 rfl rfl rfl ?_
  refine zr_bipush (q := 11) (v := (-9 : Int32)) g dX9_readHead_9 rfl (by decide) ?_
  refine zr_icmp_ne (q := 14) (tgt := 19) g dX9_readHead_11 rfl rfl (fun c5 => ?_) (fun c5 => ?_)
  · replace hM := zw_iff c5 hM
    refine zr_aload_n (q := 20) g 1 dX9_readHead_19 rfl rfl rfl ?_
    refine zr_iconst (q := 21) (v := (0 : Int32)) g dX9_readHead_20 rfl (by decide) ?_
    refine zr_bipush (q := 23) (v := (9 : Int32)) g dX9_readHead_21 rfl (by decide) ?_
    obtain ⟨z6, q7, hM⟩ := zw_bd hM
    refine zr_callV (q := 26) (As := [.int (0 : Int32), .int (9 : Int32)]) (rest := []) (st' := [.int z6.1]) (i := 31) g (R_X9_figure ok hI q7) zv_X9_figure zl_X9_81 (hI 31 (by decide)) zs_31 zc_X9.1 dX9_readHead_23 rfl rfl ⟨Nat.le_of_ble_eq_true rfl, Nat.le_of_ble_eq_true rfl⟩ ⟨Nat.zero_le _, Nat.zero_le _⟩ (Nat.le_of_ble_eq_true rfl) rfl rfl ?_
    refine zr_lv (lv' := [(0, .ref (E.2.1 31)), (1, .int y3)]) [1, 0] rfl ?_
    exact U_X9_readHead_26 ok hI g hr hlk _ _ _ _ hM
  · replace hM := zw_ift c5 hM
    refine zr_bipush (q := 16) (v := (-9 : Int32)) g dX9_readHead_14 rfl (by decide) ?_
    refine zr_goto (tgt := 26) g dX9_readHead_16 rfl ?_
    refine zr_lv (lv' := [(0, .ref (E.2.1 31)), (1, .int y3)]) [1, 0] rfl ?_
    exact U_X9_readHead_26 ok hI g hr hlk _ _ _ _ hM
noncomputable def B_X9_readNight_57 (k57 : zw_Hp → Option (Int32 × zw_Hp)) (h : zw_Hp) : Option (Int32 × zw_Hp) :=
  if (h.1 31 2) ≤ (h.1 31 3) then (some ((-9 : Int32), h)) else ((M_X9_readPart h).bind (fun z18 => if z18.1 = 0 then (some ((z18.2.1 31 3), z18.2)) else (k57 z18.2)))
set_option maxRecDepth 100000 in
set_option maxHeartbeats 4000000 in
theorem U_X9_readNight_57 (ok : zw_Ok E) (hI : ∀ i, i < 48 → i ∈ E.2.2.1) (g : zw_G p E (zw_A E) s m args c RX9 cX9_readNight 1) (hr : meth.sig.returnType = some .int) (hlk : meth.locks = false) {k57 : zw_Hp → Option (Int32 × zw_Hp)} (eL57 : ∀ (w : zw_Hp) (z : Int32 × zw_Hp), k57 w = some z → zw_V p l e s m args below meth c E mt_X9_readNight 1 (some (.int z.1)) z.2 57 [(0, .ref (E.2.1 31))] [] w) :
    ∀ (h : zw_Hp) (z : Int32 × zw_Hp), B_X9_readNight_57 k57 h = some z → zw_V p l e s m args below meth c E mt_X9_readNight 1 (some (.int z.1)) z.2 57 [(0, .ref (E.2.1 31))] [] h := by
  intro h z hM
  unfold B_X9_readNight_57 at hM
  refine zr_aload_n (q := 58) g 0 dX9_readNight_57 rfl rfl rfl ?_
  refine zr_geti (q := 61) (k0 := 3) g (hI 31 (by decide)) zs_31 rfl zf_X9_78 dX9_readNight_58 rfl ?_
  refine zr_aload_n (q := 62) g 0 dX9_readNight_61 rfl rfl rfl ?_
  refine zr_geti (q := 65) (k0 := 2) g (hI 31 (by decide)) zs_31 rfl zf_X9_75 dX9_readNight_62 rfl ?_
  refine zr_icmp_ge (q := 68) (tgt := 80) g dX9_readNight_65 rfl rfl (fun c17 => ?_) (fun c17 => ?_)
  · replace hM := zw_ift c17 hM
    refine zr_bipush (q := 82) (v := (-9 : Int32)) g dX9_readNight_80 rfl (by decide) ?_
    cases hM
    exact zr_iret g hr hlk dX9_readNight_82 rfl rfl
  · replace hM := zw_iff c17 hM
    refine zr_aload_n (q := 69) g 0 dX9_readNight_68 rfl rfl rfl ?_
    obtain ⟨z18, q19, hM⟩ := zw_bd hM
    refine zr_callV (q := 72) (As := []) (rest := []) (st' := [.int z18.1]) (i := 31) g (R_X9_readPart ok hI q19) zv_X9_readPart zl_X9_113 (hI 31 (by decide)) zs_31 zc_X9.1 dX9_readNight_69 rfl rfl ⟨Nat.le_of_ble_eq_true rfl, Nat.le_of_ble_eq_true rfl⟩ ⟨Nat.zero_le _, Nat.zero_le _⟩ (Nat.le_of_ble_eq_true rfl) rfl rfl ?_
    refine zr_if_ne (q := 75) (tgt := 57) g dX9_readNight_72 rfl rfl (fun c20 => ?_) (fun c20 => ?_)
    · replace hM := zw_iff c20 hM
      exact eL57 _ _ hM
    · replace hM := zw_ift c20 hM
      refine zr_aload_n (q := 76) g 0 dX9_readNight_75 rfl rfl rfl ?_
      refine zr_geti (q := 79) (k0 := 3) g (hI 31 (by decide)) zs_31 rfl zf_X9_78 dX9_readNight_76 rfl ?_
      cases hM
      exact zr_iret g hr hlk dX9_readNight_79 rfl rfl
noncomputable def L_X9_readNight_57 (w : zw_Hp) : Option (Int32 × zw_Hp) :=
  zw_it (fun (k57 : zw_Hp → Option (Int32 × zw_Hp)) (w : zw_Hp) => B_X9_readNight_57 k57 (w)) 600 w
theorem UL_X9_readNight_57 (ok : zw_Ok E) (hI : ∀ i, i < 48 → i ∈ E.2.2.1) (g : zw_G p E (zw_A E) s m args c RX9 cX9_readNight 1) (hr : meth.sig.returnType = some .int) (hlk : meth.locks = false) :
    ∀ (w : zw_Hp) (z : Int32 × zw_Hp), L_X9_readNight_57 w = some z → zw_V p l e s m args below meth c E mt_X9_readNight 1 (some (.int z.1)) z.2 57 [(0, .ref (E.2.1 31))] [] w :=
  fun w z hM => zw_it_ind (P := fun (w : zw_Hp) (z : Int32 × zw_Hp) => zw_V p l e s m args below meth c E mt_X9_readNight 1 (some (.int z.1)) z.2 57 [(0, .ref (E.2.1 31))] [] w) (fun k e w z hM => U_X9_readNight_57 ok hI g hr hlk e _ _ hM) 600 w z hM
noncomputable def M_X9_readNight (h : zw_Hp) : Option (Int32 × zw_Hp) :=
  zw_nm (zw_up h 31 3 (0 : Int32)) (fun h1 => zw_nm (zw_up h1 31 13 (0 : Int32)) (fun h3 => zw_nm (zw_up h3 31 15 (0 : Int32)) (fun h5 => zw_nm (zw_up h5 31 17 (0 : Int32)) (fun h7 => if (h7.1 31 2) = 0 then (some ((0 : Int32), h7)) else (if zw_ok (0 : Int32) 36 = true then (if (h7.1 32 ((0 : Int32)).toNatClampNeg) = (87 : Int32) then (zw_nm (zw_up h7 31 3 (1 : Int32)) (fun h12 => (M_X9_readHead h12).bind (fun z14 => if z14.1 = 0 then (some ((z14.2.1 31 3), z14.2)) else (L_X9_readNight_57 z14.2)))) else (some ((0 : Int32), h7))) else none)))))
set_option maxRecDepth 100000 in
set_option maxHeartbeats 4000000 in
theorem R_X9_readNight (ok : zw_Ok E) (hI : ∀ i, i < 48 → i ∈ E.2.2.1) {h : zw_Hp} {z : Int32 × zw_Hp} (hM : M_X9_readNight h = some z) : zw_Ct l E mt_X9_readNight [.ref (E.2.1 31)] h (some (.int z.1)) z.2 := by
  unfold M_X9_readNight at hM
  refine zw_ct (lv0 := [(0, .ref (E.2.1 31))]) ok (by decide) rfl (Nat.le_of_ble_eq_true rfl) (fun p e s m args below meth c g hr hlk => ?_)
  replace g : zw_G p E (zw_A E) s m args c RX9 cX9_readNight 1 := g
  show zw_V p l e s m args below meth c E mt_X9_readNight 1 (some (.int z.1)) z.2 0 [(0, .ref (E.2.1 31))] [] h
  refine zr_aload_n (q := 1) g 0 dX9_readNight_0 rfl rfl rfl ?_
  refine zr_iconst (q := 2) (v := (0 : Int32)) g dX9_readNight_1 rfl (by decide) ?_
  obtain ⟨h1, e2, hM⟩ := zw_nm_ex hM
  refine zr_puti (q := 5) (k0 := 3) (h' := h1) g (hI 31 (by decide)) zs_31 rfl zp_X9_78 dX9_readNight_2 rfl e2 ?_
  refine zr_aload_n (q := 6) g 0 dX9_readNight_5 rfl rfl rfl ?_
  refine zr_iconst (q := 7) (v := (0 : Int32)) g dX9_readNight_6 rfl (by decide) ?_
  obtain ⟨h3, e4, hM⟩ := zw_nm_ex hM
  refine zr_puti (q := 10) (k0 := 13) (h' := h3) g (hI 31 (by decide)) zs_31 rfl zp_X9_85 dX9_readNight_7 rfl e4 ?_
  refine zr_aload_n (q := 11) g 0 dX9_readNight_10 rfl rfl rfl ?_
  refine zr_iconst (q := 12) (v := (0 : Int32)) g dX9_readNight_11 rfl (by decide) ?_
  obtain ⟨h5, e6, hM⟩ := zw_nm_ex hM
  refine zr_puti (q := 15) (k0 := 15) (h' := h5) g (hI 31 (by decide)) zs_31 rfl zp_X9_88 dX9_readNight_12 rfl e6 ?_
  refine zr_aload_n (q := 16) g 0 dX9_readNight_15 rfl rfl rfl ?_
  refine zr_iconst (q := 17) (v := (0 : Int32)) g dX9_readNight_16 rfl (by decide) ?_
  obtain ⟨h7, e8, hM⟩ := zw_nm_ex hM
  refine zr_puti (q := 20) (k0 := 17) (h' := h7) g (hI 31 (by decide)) zs_31 rfl zp_X9_91 dX9_readNight_17 rfl e8 ?_
  refine zr_aload_n (q := 21) g 0 dX9_readNight_20 rfl rfl rfl ?_
  refine zr_geti (q := 24) (k0 := 2) g (hI 31 (by decide)) zs_31 rfl zf_X9_75 dX9_readNight_21 rfl ?_
  refine zr_if_eq (q := 27) (tgt := 38) g dX9_readNight_24 rfl rfl (fun c9 => ?_) (fun c9 => ?_)
  · replace hM := zw_ift c9 hM
    refine zr_iconst (q := 39) (v := (0 : Int32)) g dX9_readNight_38 rfl (by decide) ?_
    cases hM
    exact zr_iret g hr hlk dX9_readNight_39 rfl rfl
  · replace hM := zw_iff c9 hM
    refine zr_aload_n (q := 28) g 0 dX9_readNight_27 rfl rfl rfl ?_
    refine zr_getr (q := 31) (k0 := 1) (j := 32) g (hI 31 (by decide)) zs_31 rfl zf_X9_7 dX9_readNight_28 rfl ?_
    refine zr_iconst (q := 32) (v := (0 : Int32)) g dX9_readNight_31 rfl (by decide) ?_
    obtain ⟨c10, hM⟩ := zw_gd hM
    refine zr_iald (q := 33) g (hI 32 (by decide)) zs_32 c10 dX9_readNight_32 rfl ?_
    refine zr_bipush (q := 35) (v := (87 : Int32)) g dX9_readNight_33 rfl (by decide) ?_
    refine zr_icmp_eq (q := 38) (tgt := 40) g dX9_readNight_35 rfl rfl (fun c11 => ?_) (fun c11 => ?_)
    · replace hM := zw_ift c11 hM
      refine zr_aload_n (q := 41) g 0 dX9_readNight_40 rfl rfl rfl ?_
      refine zr_iconst (q := 42) (v := (1 : Int32)) g dX9_readNight_41 rfl (by decide) ?_
      obtain ⟨h12, e13, hM⟩ := zw_nm_ex hM
      refine zr_puti (q := 45) (k0 := 3) (h' := h12) g (hI 31 (by decide)) zs_31 rfl zp_X9_78 dX9_readNight_42 rfl e13 ?_
      refine zr_aload_n (q := 46) g 0 dX9_readNight_45 rfl rfl rfl ?_
      obtain ⟨z14, q15, hM⟩ := zw_bd hM
      refine zr_callV (q := 49) (As := []) (rest := []) (st' := [.int z14.1]) (i := 31) g (R_X9_readHead ok hI q15) zv_X9_readHead zl_X9_110 (hI 31 (by decide)) zs_31 zc_X9.1 dX9_readNight_46 rfl rfl ⟨Nat.le_of_ble_eq_true rfl, Nat.le_of_ble_eq_true rfl⟩ ⟨Nat.zero_le _, Nat.zero_le _⟩ (Nat.le_of_ble_eq_true rfl) rfl rfl ?_
      refine zr_if_ne (q := 52) (tgt := 57) g dX9_readNight_49 rfl rfl (fun c16 => ?_) (fun c16 => ?_)
      · replace hM := zw_iff c16 hM
        exact UL_X9_readNight_57 ok hI g hr hlk _ _ hM
      · replace hM := zw_ift c16 hM
        refine zr_aload_n (q := 53) g 0 dX9_readNight_52 rfl rfl rfl ?_
        refine zr_geti (q := 56) (k0 := 3) g (hI 31 (by decide)) zs_31 rfl zf_X9_78 dX9_readNight_53 rfl ?_
        cases hM
        exact zr_iret g hr hlk dX9_readNight_56 rfl rfl
    · replace hM := zw_iff c11 hM
      refine zr_iconst (q := 39) (v := (0 : Int32)) g dX9_readNight_38 rfl (by decide) ?_
      cases hM
      exact zr_iret g hr hlk dX9_readNight_39 rfl rfl
noncomputable def M_X9_fault (h : zw_Hp) : Option (Int32 × zw_Hp) :=
  zw_nm (zw_up h 31 0 (0 : Int32)) (fun h1 => (M_X9_readNight h1).bind (fun z3 => some (z3.1, z3.2)))
set_option maxRecDepth 100000 in
set_option maxHeartbeats 4000000 in
theorem R_X9_fault (ok : zw_Ok E) (hI : ∀ i, i < 48 → i ∈ E.2.2.1) {h : zw_Hp} {z : Int32 × zw_Hp} (hM : M_X9_fault h = some z) : zw_Ct l E mt_X9_fault [.ref (E.2.1 31)] h (some (.int z.1)) z.2 := by
  unfold M_X9_fault at hM
  refine zw_ct (lv0 := [(0, .ref (E.2.1 31))]) ok (by decide) rfl (Nat.le_of_ble_eq_true rfl) (fun p e s m args below meth c g hr hlk => ?_)
  replace g : zw_G p E (zw_A E) s m args c RX9 cX9_fault 1 := g
  show zw_V p l e s m args below meth c E mt_X9_fault 1 (some (.int z.1)) z.2 0 [(0, .ref (E.2.1 31))] [] h
  refine zr_aload_n (q := 1) g 0 dX9_fault_0 rfl rfl rfl ?_
  refine zr_iconst (q := 2) (v := (0 : Int32)) g dX9_fault_1 rfl (by decide) ?_
  obtain ⟨h1, e2, hM⟩ := zw_nm_ex hM
  refine zr_puti (q := 5) (k0 := 0) (h' := h1) g (hI 31 (by decide)) zs_31 rfl zp_X9_59 dX9_fault_2 rfl e2 ?_
  refine zr_aload_n (q := 6) g 0 dX9_fault_5 rfl rfl rfl ?_
  obtain ⟨z3, q4, hM⟩ := zw_bd hM
  refine zr_callV (q := 9) (As := []) (rest := []) (st' := [.int z3.1]) (i := 31) g (R_X9_readNight ok hI q4) zv_X9_readNight zl_X9_116 (hI 31 (by decide)) zs_31 zc_X9.1 dX9_fault_6 rfl rfl ⟨Nat.le_of_ble_eq_true rfl, Nat.le_of_ble_eq_true rfl⟩ ⟨Nat.zero_le _, Nat.zero_le _⟩ (Nat.le_of_ble_eq_true rfl) rfl rfl ?_
  cases hM
  exact zr_iret g hr hlk dX9_fault_9 rfl rfl
end
