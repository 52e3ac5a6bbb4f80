section
variable {p : Program} {l : Launch} {e : Env} {s : State} {m : MethodId} {args : Array Value} {below : List Frame} {meth : Method} {c : Code} {E : zw_En}
noncomputable def M_X4_exchangeInOrder (x1 : Int32) (x2 : Int32) (h : zw_Hp) : Option (zw_Hp) :=
  if x1 < 0 then (some h) else (if (5 : Int32) ≤ x1 then (some h) else (if x2 < 0 then (some h) else (if x2 < (5 : Int32) then (if zw_ok x1 5 = true then (zw_nm (h.1 29 (x1).toNatClampNeg) (fun y6 => if zw_ok x2 5 = true then (if zw_ok x1 5 = true then zw_nm (zw_up h 29 (x1).toNatClampNeg (h.1 29 (x2).toNatClampNeg)) (fun h10 => if zw_ok x2 5 = true then zw_nm (zw_up h10 29 (x2).toNatClampNeg y6) (fun h13 => some h13) else none) else none) else none)) else none) else (some h))))
set_option maxRecDepth 100000 in
set_option maxHeartbeats 4000000 in
theorem R_X4_exchangeInOrder (ok : zw_Ok E) (hI : ∀ i, i < 48 → i ∈ E.2.2.1) {x1 : Int32} {x2 : Int32} {h : zw_Hp} {z : zw_Hp} (hM : M_X4_exchangeInOrder x1 x2 h = some z) : zw_Ct l E mt_X4_exchangeInOrder [.ref (E.2.1 28), .int x1, .int x2] h none z := by
  unfold M_X4_exchangeInOrder at hM
  refine zw_ct (lv0 := [(0, .ref (E.2.1 28)), (1, .int x1), (2, .int x2)]) ok (by decide) rfl (Nat.le_of_ble_eq_true rfl) (fun p e s m args below meth c g hr hlk => ?_)
  replace g : zw_G p E (zw_A E) s m args c RX4 cX4_exchangeInOrder 4 := g
  show zw_V p l e s m args below meth c E mt_X4_exchangeInOrder 4 none z 0 [(0, .ref (E.2.1 28)), (1, .int x1), (2, .int x2)] [] h
  refine zr_iload_n (q := 1) g 1 dX4_exchangeInOrder_0 rfl rfl rfl ?_
  refine zr_if_lt (q := 4) (tgt := 26) g dX4_exchangeInOrder_1 rfl rfl (fun c1 => ?_) (fun c1 => ?_)
  · replace hM := zw_ift c1 hM
    cases hM
    exact zr_vret g hr hlk dX4_exchangeInOrder_26 rfl rfl
  · replace hM := zw_iff c1 hM
    refine zr_iload_n (q := 5) g 1 dX4_exchangeInOrder_4 rfl rfl rfl ?_
    refine zr_aload_n (q := 6) g 0 dX4_exchangeInOrder_5 rfl rfl rfl ?_
    refine zr_getr (q := 9) (k0 := 3) (j := 29) g (hI 28 (by decide)) zs_28 rfl zf_X4_9 dX4_exchangeInOrder_6 rfl ?_
    refine zr_alen (q := 10) (v := (5 : Int32)) g (hI 29 (by decide)) zs_29 rfl dX4_exchangeInOrder_9 rfl ?_
    refine zr_icmp_ge (q := 13) (tgt := 26) g dX4_exchangeInOrder_10 rfl rfl (fun c2 => ?_) (fun c2 => ?_)
    · replace hM := zw_ift c2 hM
      cases hM
      exact zr_vret g hr hlk dX4_exchangeInOrder_26 rfl rfl
    · replace hM := zw_iff c2 hM
      refine zr_iload_n (q := 14) g 2 dX4_exchangeInOrder_13 rfl rfl rfl ?_
      refine zr_if_lt (q := 17) (tgt := 26) g dX4_exchangeInOrder_14 rfl rfl (fun c3 => ?_) (fun c3 => ?_)
      · replace hM := zw_ift c3 hM
        cases hM
        exact zr_vret g hr hlk dX4_exchangeInOrder_26 rfl rfl
      · replace hM := zw_iff c3 hM
        refine zr_iload_n (q := 18) g 2 dX4_exchangeInOrder_17 rfl rfl rfl ?_
        refine zr_aload_n (q := 19) g 0 dX4_exchangeInOrder_18 rfl rfl rfl ?_
        refine zr_getr (q := 22) (k0 := 3) (j := 29) g (hI 28 (by decide)) zs_28 rfl zf_X4_9 dX4_exchangeInOrder_19 rfl ?_
        refine zr_alen (q := 23) (v := (5 : Int32)) g (hI 29 (by decide)) zs_29 rfl dX4_exchangeInOrder_22 rfl ?_
        refine zr_icmp_lt (q := 26) (tgt := 27) g dX4_exchangeInOrder_23 rfl rfl (fun c4 => ?_) (fun c4 => ?_)
        · replace hM := zw_ift c4 hM
          refine zr_aload_n (q := 28) g 0 dX4_exchangeInOrder_27 rfl rfl rfl ?_
          refine zr_getr (q := 31) (k0 := 3) (j := 29) g (hI 28 (by decide)) zs_28 rfl zf_X4_9 dX4_exchangeInOrder_28 rfl ?_
          refine zr_iload_n (q := 32) g 1 dX4_exchangeInOrder_31 rfl rfl rfl ?_
          obtain ⟨c5, hM⟩ := zw_gd hM
          refine zr_iald (q := 33) g (hI 29 (by decide)) zs_29 c5 dX4_exchangeInOrder_32 rfl ?_
          obtain ⟨y6, e7, hM⟩ := zw_nm_ex hM
          refine zr_nmi e7 ?_
          refine zr_istore_n (q := 34) (lv' := [(3, .int y6), (0, .ref (E.2.1 28)), (1, .int x1), (2, .int x2)]) g dX4_exchangeInOrder_33 rfl rfl (by decide) rfl ?_
          refine zr_aload_n (q := 35) g 1 dX4_exchangeInOrder_34 rfl rfl rfl ?_
          refine zr_getr (q := 38) (k0 := 3) (j := 29) g (hI 28 (by decide)) zs_28 rfl zf_X4_9 dX4_exchangeInOrder_35 rfl ?_
          refine zr_iload_n (q := 39) g 2 dX4_exchangeInOrder_38 rfl rfl rfl ?_
          refine zr_aload_n (q := 40) g 1 dX4_exchangeInOrder_39 rfl rfl rfl ?_
          refine zr_getr (q := 43) (k0 := 3) (j := 29) g (hI 28 (by decide)) zs_28 rfl zf_X4_9 dX4_exchangeInOrder_40 rfl ?_
          refine zr_iload_n (q := 44) g 3 dX4_exchangeInOrder_43 rfl rfl rfl ?_
          obtain ⟨c8, hM⟩ := zw_gd hM
          refine zr_iald (q := 45) g (hI 29 (by decide)) zs_29 c8 dX4_exchangeInOrder_44 rfl ?_
          obtain ⟨c9, hM⟩ := zw_gd hM
          obtain ⟨h10, e11, hM⟩ := zw_nm_ex hM
          refine zr_iast (q := 46) (h' := h10) g (hI 29 (by decide)) zs_29 c9 dX4_exchangeInOrder_45 rfl e11 ?_
          refine zr_aload_n (q := 47) g 1 dX4_exchangeInOrder_46 rfl rfl rfl ?_
          refine zr_getr (q := 50) (k0 := 3) (j := 29) g (hI 28 (by decide)) zs_28 rfl zf_X4_9 dX4_exchangeInOrder_47 rfl ?_
          refine zr_iload_n (q := 51) g 3 dX4_exchangeInOrder_50 rfl rfl rfl ?_
          refine zr_iload_n (q := 52) g 0 dX4_exchangeInOrder_51 rfl rfl rfl ?_
          obtain ⟨c12, hM⟩ := zw_gd hM
          obtain ⟨h13, e14, hM⟩ := zw_nm_ex hM
          refine zr_iast (q := 53) (h' := h13) g (hI 29 (by decide)) zs_29 c12 dX4_exchangeInOrder_52 rfl e14 ?_
          cases hM
          exact zr_vret g hr hlk dX4_exchangeInOrder_53 rfl rfl
        · replace hM := zw_iff c4 hM
          cases hM
          exact zr_vret g hr hlk dX4_exchangeInOrder_26 rfl rfl
noncomputable def B_X4_toNextOrder_99 (k99 : (Int32 × Int32 × zw_Hp) → Option (Int32 × zw_Hp)) (x4 : Int32) (x5 : Int32) (h : zw_Hp) : Option (Int32 × zw_Hp) :=
  if x4 ≤ x5 then (some ((1 : Int32), h)) else ((M_X4_exchangeInOrder x5 x4 h).bind (fun z27 => zw_nm (x4 + (-1 : Int32)) (fun y29 => zw_nm (x5 + (1 : Int32)) (fun y31 => k99 (y29, y31, z27)))))
set_option maxRecDepth 100000 in
set_option maxHeartbeats 4000000 in
theorem U_X4_toNextOrder_99 (ok : zw_Ok E) (hI : ∀ i, i < 48 → i ∈ E.2.2.1) (g : zw_G p E (zw_A E) s m args c RX4 cX4_toNextOrder 6) (hr : meth.sig.returnType = some .boolean) (hlk : meth.locks = false) {k99 : (Int32 × Int32 × zw_Hp) → Option (Int32 × zw_Hp)} (eL99 : ∀ (w : Int32 × Int32 × zw_Hp) (z : Int32 × zw_Hp), k99 w = some z → zw_V p l e s m args below meth c E mt_X4_toNextOrder 6 (some (.int z.1)) z.2 99 [(0, .ref (E.2.1 28)), (4, .int w.1), (5, .int w.2.1)] [] w.2.2) :
    ∀ (x4 : Int32) (x5 : Int32) (h : zw_Hp) (z : Int32 × zw_Hp), B_X4_toNextOrder_99 k99 x4 x5 h = some z → zw_V p l e s m args below meth c E mt_X4_toNextOrder 6 (some (.int z.1)) z.2 99 [(0, .ref (E.2.1 28)), (4, .int x4), (5, .int x5)] [] h := by
  intro x4 x5 h z hM
  unfold B_X4_toNextOrder_99 at hM
  refine zr_iload (q := 101) g 2 dX4_toNextOrder_99 rfl rfl ?_
  refine zr_iload (q := 103) g 1 dX4_toNextOrder_101 rfl rfl ?_
  refine zr_icmp_ge (q := 106) (tgt := 123) g dX4_toNextOrder_103 rfl rfl (fun c26 => ?_) (fun c26 => ?_)
  · replace hM := zw_ift c26 hM
    refine zr_iconst (q := 124) (v := (1 : Int32)) g dX4_toNextOrder_123 rfl (by decide) ?_
    cases hM
    exact zr_zret g hr hlk (by decide) dX4_toNextOrder_124 rfl rfl
  · replace hM := zw_iff c26 hM
    refine zr_aload_n (q := 107) g 0 dX4_toNextOrder_106 rfl rfl rfl ?_
    refine zr_iload (q := 109) g 2 dX4_toNextOrder_107 rfl rfl ?_
    refine zr_iload (q := 111) g 1 dX4_toNextOrder_109 rfl rfl ?_
    obtain ⟨z27, q28, hM⟩ := zw_bd hM
    refine zr_callV (q := 114) (As := [.int x5, .int x4]) (rest := []) (st' := []) (i := 28) g (R_X4_exchangeInOrder ok hI q28) zv_X4_exchangeInOrder zl_X4_85 (hI 28 (by decide)) zs_28 zc_X4.1 dX4_toNextOrder_111 rfl rfl ⟨Nat.le_of_ble_eq_true rfl, Nat.le_of_ble_eq_true rfl⟩ ⟨Nat.zero_le _, Nat.zero_le _⟩ (Nat.le_of_ble_eq_true rfl) rfl rfl ?_
    obtain ⟨y29, e30, hM⟩ := zw_nm_ex hM
    refine zr_iinc (q := 117) (v := y29) (lv' := [(4, .int y29), (0, .ref (E.2.1 28)), (5, .int x5)]) g 1 dX4_toNextOrder_114 rfl rfl (by rw [e30]; rfl) (by decide) rfl ?_
    obtain ⟨y31, e32, hM⟩ := zw_nm_ex hM
    refine zr_iinc (q := 120) (v := y31) (lv' := [(5, .int y31), (4, .int y29), (0, .ref (E.2.1 28))]) g 2 dX4_toNextOrder_117 rfl rfl (by rw [e32]; rfl) (by decide) rfl ?_
    refine zr_goto (tgt := 99) g dX4_toNextOrder_120 rfl ?_
    refine zr_lv (lv' := [(0, .ref (E.2.1 28)), (4, .int y29), (5, .int y31)]) [2, 1, 0] rfl ?_
    exact eL99 _ _ hM
noncomputable def L_X4_toNextOrder_99 (w : Int32 × Int32 × zw_Hp) : Option (Int32 × zw_Hp) :=
  zw_it (fun (k99 : (Int32 × Int32 × zw_Hp) → Option (Int32 × zw_Hp)) (w : Int32 × Int32 × zw_Hp) => B_X4_toNextOrder_99 k99 (w.1) (w.2.1) (w.2.2)) 600 w
theorem UL_X4_toNextOrder_99 (ok : zw_Ok E) (hI : ∀ i, i < 48 → i ∈ E.2.2.1) (g : zw_G p E (zw_A E) s m args c RX4 cX4_toNextOrder 6) (hr : meth.sig.returnType = some .boolean) (hlk : meth.locks = false) :
    ∀ (w : Int32 × Int32 × zw_Hp) (z : Int32 × zw_Hp), L_X4_toNextOrder_99 w = some z → zw_V p l e s m args below meth c E mt_X4_toNextOrder 6 (some (.int z.1)) z.2 99 [(0, .ref (E.2.1 28)), (4, .int w.1), (5, .int w.2.1)] [] w.2.2 :=
  fun w z hM => zw_it_ind (P := fun (w : Int32 × Int32 × zw_Hp) (z : Int32 × zw_Hp) => zw_V p l e s m args below meth c E mt_X4_toNextOrder 6 (some (.int z.1)) z.2 99 [(0, .ref (E.2.1 28)), (4, .int w.1), (5, .int w.2.1)] [] w.2.2) (fun k e w z hM => U_X4_toNextOrder_99 ok hI g hr hlk e _ _ _ _ hM) 600 w z hM
noncomputable def B_X4_toNextOrder_83 (x1 : Int32) (x2 : Int32) (x3 : Int32) (h : zw_Hp) : Option (Int32 × zw_Hp) :=
  (M_X4_exchangeInOrder x2 x3 h).bind (fun z20 => zw_nm (x1 - (1 : Int32)) (fun y22 => zw_nm (x2 + (1 : Int32)) (fun y24 => L_X4_toNextOrder_99 (y22, y24, z20))))
set_option maxRecDepth 100000 in
set_option maxHeartbeats 4000000 in
theorem U_X4_toNextOrder_83 (ok : zw_Ok E) (hI : ∀ i, i < 48 → i ∈ E.2.2.1) (g : zw_G p E (zw_A E) s m args c RX4 cX4_toNextOrder 6) (hr : meth.sig.returnType = some .boolean) (hlk : meth.locks = false) :
    ∀ (x1 : Int32) (x2 : Int32) (x3 : Int32) (h : zw_Hp) (z : Int32 × zw_Hp), B_X4_toNextOrder_83 x1 x2 x3 h = some z → zw_V p l e s m args below meth c E mt_X4_toNextOrder 6 (some (.int z.1)) z.2 83 [(0, .ref (E.2.1 28)), (1, .int x1), (2, .int x2), (3, .int x3)] [] h := by
  intro x1 x2 x3 h z hM
  unfold B_X4_toNextOrder_83 at hM
  refine zr_aload_n (q := 84) g 0 dX4_toNextOrder_83 rfl rfl rfl ?_
  refine zr_iload_n (q := 85) g 2 dX4_toNextOrder_84 rfl rfl rfl ?_
  refine zr_iload_n (q := 86) g 3 dX4_toNextOrder_85 rfl rfl rfl ?_
  obtain ⟨z20, q21, hM⟩ := zw_bd hM
  refine zr_callV (q := 89) (As := [.int x2, .int x3]) (rest := []) (st' := []) (i := 28) g (R_X4_exchangeInOrder ok hI q21) zv_X4_exchangeInOrder zl_X4_85 (hI 28 (by decide)) zs_28 zc_X4.1 dX4_toNextOrder_86 rfl rfl ⟨Nat.le_of_ble_eq_true rfl, Nat.le_of_ble_eq_true rfl⟩ ⟨Nat.zero_le _, Nat.zero_le _⟩ (Nat.le_of_ble_eq_true rfl) rfl rfl ?_
  refine zr_iload_n (q := 90) g 1 dX4_toNextOrder_89 rfl rfl rfl ?_
  refine zr_iconst (q := 91) (v := (1 : Int32)) g dX4_toNextOrder_90 rfl (by decide) ?_
  refine zr_isub (q := 92) g dX4_toNextOrder_91 rfl ?_
  obtain ⟨y22, e23, hM⟩ := zw_nm_ex hM
  refine zr_nmi e23 ?_
  refine zr_istore (q := 94) (lv' := [(4, .int y22), (0, .ref (E.2.1 28)), (1, .int x1), (2, .int x2), (3, .int x3)]) g dX4_toNextOrder_92 rfl (by decide) rfl ?_
  refine zr_iload_n (q := 95) g 3 dX4_toNextOrder_94 rfl rfl rfl ?_
  refine zr_iconst (q := 96) (v := (1 : Int32)) g dX4_toNextOrder_95 rfl (by decide) ?_
  refine zr_iadd (q := 97) g dX4_toNextOrder_96 rfl ?_
  obtain ⟨y24, e25, hM⟩ := zw_nm_ex hM
  refine zr_nmi e25 ?_
  refine zr_istore (q := 99) (lv' := [(5, .int y24), (4, .int y22), (0, .ref (E.2.1 28)), (1, .int x1), (2, .int x2), (3, .int x3)]) g dX4_toNextOrder_97 rfl (by decide) rfl ?_
  refine zr_lv (lv' := [(0, .ref (E.2.1 28)), (4, .int y22), (5, .int y24)]) [2, 1, 0] rfl ?_
  exact UL_X4_toNextOrder_99 ok hI g hr hlk _ _ hM
noncomputable def B_X4_toNextOrder_57 (k57 : (Int32 × Int32 × Int32 × zw_Hp) → Option (Int32 × zw_Hp)) (x1 : Int32) (x2 : Int32) (x3 : Int32) (h : zw_Hp) : Option (Int32 × zw_Hp) :=
  if x3 ≤ x2 then (B_X4_toNextOrder_83 x1 x2 x3 h) else (if zw_ok x3 5 = true then (if zw_ok x2 5 = true then (if (h.1 29 (x2).toNatClampNeg) ≤ (h.1 29 (x3).toNatClampNeg) then (B_X4_toNextOrder_83 x1 x2 x3 h) else (zw_nm (x3 + (-1 : Int32)) (fun y18 => k57 (x1, x2, y18, h)))) else none) else none)
set_option maxRecDepth 100000 in
set_option maxHeartbeats 4000000 in
theorem U_X4_toNextOrder_57 (ok : zw_Ok E) (hI : ∀ i, i < 48 → i ∈ E.2.2.1) (g : zw_G p E (zw_A E) s m args c RX4 cX4_toNextOrder 6) (hr : meth.sig.returnType = some .boolean) (hlk : meth.locks = false) {k57 : (Int32 × Int32 × Int32 × zw_Hp) → Option (Int32 × zw_Hp)} (eL57 : ∀ (w : Int32 × Int32 × Int32 × zw_Hp) (z : Int32 × zw_Hp), k57 w = some z → zw_V p l e s m args below meth c E mt_X4_toNextOrder 6 (some (.int z.1)) z.2 57 [(0, .ref (E.2.1 28)), (1, .int w.1), (2, .int w.2.1), (3, .int w.2.2.1)] [] w.2.2.2) :
    ∀ (x1 : Int32) (x2 : Int32) (x3 : Int32) (h : zw_Hp) (z : Int32 × zw_Hp), B_X4_toNextOrder_57 k57 x1 x2 x3 h = some z → zw_V p l e s m args below meth c E mt_X4_toNextOrder 6 (some (.int z.1)) z.2 57 [(0, .ref (E.2.1 28)), (1, .int x1), (2, .int x2), (3, .int x3)] [] h := by
  intro x1 x2 x3 h z hM
  unfold B_X4_toNextOrder_57 at hM
  refine zr_iload_n (q := 58) g 3 dX4_toNextOrder_57 rfl rfl rfl ?_
  refine zr_iload_n (q := 59) g 2 dX4_toNextOrder_58 rfl rfl rfl ?_
  refine zr_icmp_le (q := 62) (tgt := 83) g dX4_toNextOrder_59 rfl rfl (fun c14 => ?_) (fun c14 => ?_)
  · replace hM := zw_ift c14 hM
    exact U_X4_toNextOrder_83 ok hI g hr hlk _ _ _ _ _ hM
  · replace hM := zw_iff c14 hM
    refine zr_aload_n (q := 63) g 0 dX4_toNextOrder_62 rfl rfl rfl ?_
    refine zr_getr (q := 66) (k0 := 3) (j := 29) g (hI 28 (by decide)) zs_28 rfl zf_X4_9 dX4_toNextOrder_63 rfl ?_
    refine zr_iload_n (q := 67) g 3 dX4_toNextOrder_66 rfl rfl rfl ?_
    obtain ⟨c15, hM⟩ := zw_gd hM
    refine zr_iald (q := 68) g (hI 29 (by decide)) zs_29 c15 dX4_toNextOrder_67 rfl ?_
    refine zr_aload_n (q := 69) g 0 dX4_toNextOrder_68 rfl rfl rfl ?_
    refine zr_getr (q := 72) (k0 := 3) (j := 29) g (hI 28 (by decide)) zs_28 rfl zf_X4_9 dX4_toNextOrder_69 rfl ?_
    refine zr_iload_n (q := 73) g 2 dX4_toNextOrder_72 rfl rfl rfl ?_
    obtain ⟨c16, hM⟩ := zw_gd hM
    refine zr_iald (q := 74) g (hI 29 (by decide)) zs_29 c16 dX4_toNextOrder_73 rfl ?_
    refine zr_icmp_ge (q := 77) (tgt := 83) g dX4_toNextOrder_74 rfl rfl (fun c17 => ?_) (fun c17 => ?_)
    · replace hM := zw_ift c17 hM
      exact U_X4_toNextOrder_83 ok hI g hr hlk _ _ _ _ _ hM
    · replace hM := zw_iff c17 hM
      obtain ⟨y18, e19, hM⟩ := zw_nm_ex hM
      refine zr_iinc (q := 80) (v := y18) (lv' := [(3, .int y18), (0, .ref (E.2.1 28)), (1, .int x1), (2, .int x2)]) g 3 dX4_toNextOrder_77 rfl rfl (by rw [e19]; rfl) (by decide) rfl ?_
      refine zr_goto (tgt := 57) g dX4_toNextOrder_80 rfl ?_
      refine zr_lv (lv' := [(0, .ref (E.2.1 28)), (1, .int x1), (2, .int x2), (3, .int y18)]) [1, 2, 3, 0] rfl ?_
      exact eL57 _ _ hM
noncomputable def L_X4_toNextOrder_57 (w : Int32 × Int32 × Int32 × zw_Hp) : Option (Int32 × zw_Hp) :=
  zw_it (fun (k57 : (Int32 × Int32 × Int32 × zw_Hp) → Option (Int32 × zw_Hp)) (w : Int32 × Int32 × Int32 × zw_Hp) => B_X4_toNextOrder_57 k57 (w.1) (w.2.1) (w.2.2.1) (w.2.2.2)) 600 w
theorem UL_X4_toNextOrder_57 (ok : zw_Ok E) (hI : ∀ i, i < 48 → i ∈ E.2.2.1) (g : zw_G p E (zw_A E) s m args c RX4 cX4_toNextOrder 6) (hr : meth.sig.returnType = some .boolean) (hlk : meth.locks = false) :
    ∀ (w : Int32 × Int32 × Int32 × zw_Hp) (z : Int32 × zw_Hp), L_X4_toNextOrder_57 w = some z → zw_V p l e s m args below meth c E mt_X4_toNextOrder 6 (some (.int z.1)) z.2 57 [(0, .ref (E.2.1 28)), (1, .int w.1), (2, .int w.2.1), (3, .int w.2.2.1)] [] w.2.2.2 :=
  fun w z hM => zw_it_ind (P := fun (w : Int32 × Int32 × Int32 × zw_Hp) (z : Int32 × zw_Hp) => zw_V p l e s m args below meth c E mt_X4_toNextOrder 6 (some (.int z.1)) z.2 57 [(0, .ref (E.2.1 28)), (1, .int w.1), (2, .int w.2.1), (3, .int w.2.2.1)] [] w.2.2.2) (fun k e w z hM => U_X4_toNextOrder_57 ok hI g hr hlk e _ _ _ _ _ hM) 600 w z hM
noncomputable def B_X4_toNextOrder_47 (x1 : Int32) (x2 : Int32) (h : zw_Hp) : Option (Int32 × zw_Hp) :=
  if 0 ≤ x2 then (zw_nm (x1 - (1 : Int32)) (fun y12 => L_X4_toNextOrder_57 (x1, x2, y12, h))) else (some ((0 : Int32), h))
set_option maxRecDepth 100000 in
set_option maxHeartbeats 4000000 in
theorem U_X4_toNextOrder_47 (ok : zw_Ok E) (hI : ∀ i, i < 48 → i ∈ E.2.2.1) (g : zw_G p E (zw_A E) s m args c RX4 cX4_toNextOrder 6) (hr : meth.sig.returnType = some .boolean) (hlk : meth.locks = false) :
    ∀ (x1 : Int32) (x2 : Int32) (h : zw_Hp) (z : Int32 × zw_Hp), B_X4_toNextOrder_47 x1 x2 h = some z → zw_V p l e s m args below meth c E mt_X4_toNextOrder 6 (some (.int z.1)) z.2 47 [(0, .ref (E.2.1 28)), (1, .int x1), (2, .int x2)] [] h := by
  intro x1 x2 h z hM
  unfold B_X4_toNextOrder_47 at hM
  refine zr_iload_n (q := 48) g 2 dX4_toNextOrder_47 rfl rfl rfl ?_
  refine zr_if_ge (q := 51) (tgt := 53) g dX4_toNextOrder_48 rfl rfl (fun c11 => ?_) (fun c11 => ?_)
  · replace hM := zw_ift c11 hM
    refine zr_iload_n (q := 54) g 1 dX4_toNextOrder_53 rfl rfl rfl ?_
    refine zr_iconst (q := 55) (v := (1 : Int32)) g dX4_toNextOrder_54 rfl (by decide) ?_
    refine zr_isub (q := 56) g dX4_toNextOrder_55 rfl ?_
    obtain ⟨y12, e13, hM⟩ := zw_nm_ex hM
    refine zr_nmi e13 ?_
    refine zr_istore_n (q := 57) (lv' := [(3, .int y12), (0, .ref (E.2.1 28)), (1, .int x1), (2, .int x2)]) g dX4_toNextOrder_56 rfl rfl (by decide) rfl ?_
    refine zr_lv (lv' := [(0, .ref (E.2.1 28)), (1, .int x1), (2, .int x2), (3, .int y12)]) [1, 2, 3, 0] rfl ?_
    exact UL_X4_toNextOrder_57 ok hI g hr hlk _ _ hM
  · replace hM := zw_iff c11 hM
    refine zr_iconst (q := 52) (v := (0 : Int32)) g dX4_toNextOrder_51 rfl (by decide) ?_
    cases hM
    exact zr_zret g hr hlk (by decide) dX4_toNextOrder_52 rfl rfl
noncomputable def B_X4_toNextOrder_20 (k20 : (Int32 × Int32 × zw_Hp) → Option (Int32 × zw_Hp)) (x1 : Int32) (x2 : Int32) (h : zw_Hp) : Option (Int32 × zw_Hp) :=
  if x2 < 0 then (B_X4_toNextOrder_47 x1 x2 h) else (if zw_ok x2 5 = true then (if zw_ok (x2 + (1 : Int32)) 5 = true then (if (h.1 29 (x2).toNatClampNeg) ≤ (h.1 29 ((x2 + (1 : Int32))).toNatClampNeg) then (B_X4_toNextOrder_47 x1 x2 h) else (zw_nm (x2 + (-1 : Int32)) (fun y9 => k20 (x1, y9, h)))) else none) else none)
set_option maxRecDepth 100000 in
set_option maxHeartbeats 4000000 in
theorem U_X4_toNextOrder_20 (ok : zw_Ok E) (hI : ∀ i, i < 48 → i ∈ E.2.2.1) (g : zw_G p E (zw_A E) s m args c RX4 cX4_toNextOrder 6) (hr : meth.sig.returnType = some .boolean) (hlk : meth.locks = false) {k20 : (Int32 × Int32 × zw_Hp) → Option (Int32 × zw_Hp)} (eL20 : ∀ (w : Int32 × Int32 × zw_Hp) (z : Int32 × zw_Hp), k20 w = some z → zw_V p l e s m args below meth c E mt_X4_toNextOrder 6 (some (.int z.1)) z.2 20 [(0, .ref (E.2.1 28)), (1, .int w.1), (2, .int w.2.1)] [] w.2.2) :
    ∀ (x1 : Int32) (x2 : Int32) (h : zw_Hp) (z : Int32 × zw_Hp), B_X4_toNextOrder_20 k20 x1 x2 h = some z → zw_V p l e s m args below meth c E mt_X4_toNextOrder 6 (some (.int z.1)) z.2 20 [(0, .ref (E.2.1 28)), (1, .int x1), (2, .int x2)] [] h := by
  intro x1 x2 h z hM
  unfold B_X4_toNextOrder_20 at hM
  refine zr_iload_n (q := 21) g 2 dX4_toNextOrder_20 rfl rfl rfl ?_
  refine zr_if_lt (q := 24) (tgt := 47) g dX4_toNextOrder_21 rfl rfl (fun c5 => ?_) (fun c5 => ?_)
  · replace hM := zw_ift c5 hM
    exact U_X4_toNextOrder_47 ok hI g hr hlk _ _ _ _ hM
  · replace hM := zw_iff c5 hM
    refine zr_aload_n (q := 25) g 0 dX4_toNextOrder_24 rfl rfl rfl ?_
    refine zr_getr (q := 28) (k0 := 3) (j := 29) g (hI 28 (by decide)) zs_28 rfl zf_X4_9 dX4_toNextOrder_25 rfl ?_
    refine zr_iload_n (q := 29) g 2 dX4_toNextOrder_28 rfl rfl rfl ?_
    obtain ⟨c6, hM⟩ := zw_gd hM
    refine zr_iald (q := 30) g (hI 29 (by decide)) zs_29 c6 dX4_toNextOrder_29 rfl ?_
    refine zr_aload_n (q := 31) g 0 dX4_toNextOrder_30 rfl rfl rfl ?_
    refine zr_getr (q := 34) (k0 := 3) (j := 29) g (hI 28 (by decide)) zs_28 rfl zf_X4_9 dX4_toNextOrder_31 rfl ?_
    refine zr_iload_n (q := 35) g 2 dX4_toNextOrder_34 rfl rfl rfl ?_
    refine zr_iconst (q := 36) (v := (1 : Int32)) g dX4_toNextOrder_35 rfl (by decide) ?_
    refine zr_iadd (q := 37) g dX4_toNextOrder_36 rfl ?_
    obtain ⟨c7, hM⟩ := zw_gd hM
    refine zr_iald (q := 38) g (hI 29 (by decide)) zs_29 c7 dX4_toNextOrder_37 rfl ?_
    refine zr_icmp_le (q := 41) (tgt := 47) g dX4_toNextOrder_38 rfl rfl (fun c8 => ?_) (fun c8 => ?_)
    · replace hM := zw_ift c8 hM
      exact U_X4_toNextOrder_47 ok hI g hr hlk _ _ _ _ hM
    · replace hM := zw_iff c8 hM
      obtain ⟨y9, e10, hM⟩ := zw_nm_ex hM
      refine zr_iinc (q := 44) (v := y9) (lv' := [(2, .int y9), (0, .ref (E.2.1 28)), (1, .int x1)]) g 2 dX4_toNextOrder_41 rfl rfl (by rw [e10]; rfl) (by decide) rfl ?_
      refine zr_goto (tgt := 20) g dX4_toNextOrder_44 rfl ?_
      refine zr_lv (lv' := [(0, .ref (E.2.1 28)), (1, .int x1), (2, .int y9)]) [1, 2, 0] rfl ?_
      exact eL20 _ _ hM
noncomputable def L_X4_toNextOrder_20 (w : Int32 × Int32 × zw_Hp) : Option (Int32 × zw_Hp) :=
  zw_it (fun (k20 : (Int32 × Int32 × zw_Hp) → Option (Int32 × zw_Hp)) (w : Int32 × Int32 × zw_Hp) => B_X4_toNextOrder_20 k20 (w.1) (w.2.1) (w.2.2)) 600 w
theorem UL_X4_toNextOrder_20 (ok : zw_Ok E) (hI : ∀ i, i < 48 → i ∈ E.2.2.1) (g : zw_G p E (zw_A E) s m args c RX4 cX4_toNextOrder 6) (hr : meth.sig.returnType = some .boolean) (hlk : meth.locks = false) :
    ∀ (w : Int32 × Int32 × zw_Hp) (z : Int32 × zw_Hp), L_X4_toNextOrder_20 w = some z → zw_V p l e s m args below meth c E mt_X4_toNextOrder 6 (some (.int z.1)) z.2 20 [(0, .ref (E.2.1 28)), (1, .int w.1), (2, .int w.2.1)] [] w.2.2 :=
  fun w z hM => zw_it_ind (P := fun (w : Int32 × Int32 × zw_Hp) (z : Int32 × zw_Hp) => zw_V p l e s m args below meth c E mt_X4_toNextOrder 6 (some (.int z.1)) z.2 20 [(0, .ref (E.2.1 28)), (1, .int w.1), (2, .int w.2.1)] [] w.2.2) (fun k e w z hM => U_X4_toNextOrder_20 ok hI g hr hlk e _ _ _ _ hM) 600 w z hM
noncomputable def M_X4_toNextOrder (h : zw_Hp) : Option (Int32 × zw_Hp) :=
  zw_nm (if (5 : Int32) < (h.1 6 2) then (5 : Int32) else (h.1 6 2)) (fun y1 => zw_nm (y1 - (2 : Int32)) (fun y3 => L_X4_toNextOrder_20 (y1, y3, h)))
set_option maxRecDepth 100000 in
set_option maxHeartbeats 4000000 in
theorem R_X4_toNextOrder (ok : zw_Ok E) (hI : ∀ i, i < 48 → i ∈ E.2.2.1) {h : zw_Hp} {z : Int32 × zw_Hp} (hM : M_X4_toNextOrder h = some z) : zw_Ct l E mt_X4_toNextOrder [.ref (E.2.1 28)] h (some (.int z.1)) z.2 := by
  unfold M_X4_toNextOrder at hM
  refine zw_ct (lv0 := [(0, .ref (E.2.1 28))]) ok (by decide) rfl (Nat.le_of_ble_eq_true rfl) (fun p e s m args below meth c g hr hlk => ?_)
  replace g : zw_G p E (zw_A E) s m args c RX4 cX4_toNextOrder 6 := g
  show zw_V p l e s m args below meth c E mt_X4_toNextOrder 6 (some (.int z.1)) z.2 0 [(0, .ref (E.2.1 28))] [] h
  refine zr_aload_n (q := 1) g 0 dX4_toNextOrder_0 rfl rfl rfl ?_
  refine zr_getr (q := 4) (k0 := 0) (j := 6) g (hI 28 (by decide)) zs_28 rfl zf_X4_22 dX4_toNextOrder_1 rfl ?_
  refine zr_geti (q := 7) (k0 := 2) g (hI 6 (by decide)) zs_6 rfl zf_X4_46 dX4_toNextOrder_4 rfl ?_
  refine zr_aload_n (q := 8) g 0 dX4_toNextOrder_7 rfl rfl rfl ?_
  refine zr_getr (q := 11) (k0 := 3) (j := 29) g (hI 28 (by decide)) zs_28 rfl zf_X4_9 dX4_toNextOrder_8 rfl ?_
  refine zr_alen (q := 12) (v := (5 : Int32)) g (hI 29 (by decide)) zs_29 rfl dX4_toNextOrder_11 rfl ?_
  refine zr_mmin (q := 15) g zl_X4_79 zl_mmin ⟨Nat.le_of_ble_eq_true rfl, Nat.le_of_ble_eq_true rfl⟩ ⟨Nat.zero_le _, Nat.zero_le _⟩ (Nat.le_of_ble_eq_true rfl) dX4_toNextOrder_12 rfl ?_
  obtain ⟨y1, e2, hM⟩ := zw_nm_ex hM
  refine zr_nmi e2 ?_
  refine zr_istore_n (q := 16) (lv' := [(1, .int y1), (0, .ref (E.2.1 28))]) g dX4_toNextOrder_15 rfl rfl (by decide) rfl ?_
  refine zr_iload_n (q := 17) g 0 dX4_toNextOrder_16 rfl rfl rfl ?_
  refine zr_iconst (q := 18) (v := (2 : Int32)) g dX4_toNextOrder_17 rfl (by decide) ?_
  refine zr_isub (q := 19) g dX4_toNextOrder_18 rfl ?_
  obtain ⟨y3, e4, hM⟩ := zw_nm_ex hM
  refine zr_nmi e4 ?_
  refine zr_istore_n (q := 20) (lv' := [(2, .int y3), (1, .int y1), (0, .ref (E.2.1 28))]) g dX4_toNextOrder_19 rfl rfl (by decide) rfl ?_
  refine zr_lv (lv' := [(0, .ref (E.2.1 28)), (1, .int y1), (2, .int y3)]) [2, 1, 0] rfl ?_
  exact UL_X4_toNextOrder_20 ok hI g hr hlk _ _ hM
noncomputable def B_X4_tryOrders_51 (k51 : (Int32 × Int32 × Int32 × Int32 × zw_Hp) → Option (zw_Hp)) (x1 : Int32) (x2 : Int32) (x3 : Int32) (x4 : Int32) (h : zw_Hp) : Option (zw_Hp) :=
  if x3 ≤ x4 then (some h) else (if x2 = 0 then (some h) else ((M_X3_copyFrom 14 9 h).bind (fun z15 => if ¬ (0 : Int32) < 0 ∧ ¬ (0 : Int32) < 0 ∧ ¬ (5 : Int32) < 0 ∧ ((0 : Int32)).toNatClampNeg + ((5 : Int32)).toNatClampNeg ≤ 5 ∧ ((0 : Int32)).toNatClampNeg + ((5 : Int32)).toNatClampNeg ≤ 5 then zw_nm (zw_upR z15 15 (va_cpy (z15.1 29) (z15.1 15) ((0 : Int32)).toNatClampNeg ((0 : Int32)).toNatClampNeg ((5 : Int32)).toNatClampNeg)) (fun h18 => (M_X3_passBeats 14 x1 h18).bind (fun z20 => (M_X4_orderFigures z20.2).bind (fun z22 => (M_X4_prefer z22 z20.2).bind (fun z24 => (M_X4_toNextOrder z24).bind (fun z26 => zw_nm z26.1 (fun y28 => zw_nm (x4 + (1 : Int32)) (fun y30 => k51 (x1, y28, x3, y30, z26.2)))))))) else none)))
set_option maxRecDepth 100000 in
set_option maxHeartbeats 4000000 in
theorem U_X4_tryOrders_51 (ok : zw_Ok E) (hI : ∀ i, i < 48 → i ∈ E.2.2.1) (g : zw_G p E (zw_A E) s m args c RX4 cX4_tryOrders 5) (hr : meth.sig.returnType = none) (hlk : meth.locks = false) {k51 : (Int32 × Int32 × Int32 × Int32 × zw_Hp) → Option (zw_Hp)} (eL51 : ∀ (w : Int32 × Int32 × Int32 × Int32 × zw_Hp) (z : zw_Hp), k51 w = some z → zw_V p l e s m args below meth c E mt_X4_tryOrders 5 none z 51 [(0, .ref (E.2.1 28)), (1, .int w.1), (2, .int w.2.1), (3, .int w.2.2.1), (4, .int w.2.2.2.1)] [] w.2.2.2.2) :
    ∀ (x1 : Int32) (x2 : Int32) (x3 : Int32) (x4 : Int32) (h : zw_Hp) (z : zw_Hp), B_X4_tryOrders_51 k51 x1 x2 x3 x4 h = some z → zw_V p l e s m args below meth c E mt_X4_tryOrders 5 none z 51 [(0, .ref (E.2.1 28)), (1, .int x1), (2, .int x2), (3, .int x3), (4, .int x4)] [] h := by
  intro x1 x2 x3 x4 h z hM
  unfold B_X4_tryOrders_51 at hM
  refine zr_iload (q := 53) g 4 dX4_tryOrders_51 rfl rfl ?_
  refine zr_iload_n (q := 54) g 3 dX4_tryOrders_53 rfl rfl rfl ?_
  refine zr_icmp_ge (q := 57) (tgt := 117) g dX4_tryOrders_54 rfl rfl (fun c13 => ?_) (fun c13 => ?_)
  · replace hM := zw_ift c13 hM
    cases hM
    exact zr_vret g hr hlk dX4_tryOrders_117 rfl rfl
  · replace hM := zw_iff c13 hM
    refine zr_iload_n (q := 58) g 2 dX4_tryOrders_57 rfl rfl rfl ?_
    refine zr_if_eq (q := 61) (tgt := 117) g dX4_tryOrders_58 rfl rfl (fun c14 => ?_) (fun c14 => ?_)
    · replace hM := zw_ift c14 hM
      cases hM
      exact zr_vret g hr hlk dX4_tryOrders_117 rfl rfl
    · replace hM := zw_iff c14 hM
      refine zr_aload_n (q := 62) g 0 dX4_tryOrders_61 rfl rfl rfl ?_
      refine zr_getr (q := 65) (k0 := 2) (j := 14) g (hI 28 (by decide)) zs_28 rfl zf_X4_30 dX4_tryOrders_62 rfl ?_
      refine zr_aload_n (q := 66) g 0 dX4_tryOrders_65 rfl rfl rfl ?_
      refine zr_getr (q := 69) (k0 := 1) (j := 9) g (hI 28 (by decide)) zs_28 rfl zf_X4_26 dX4_tryOrders_66 rfl ?_
      obtain ⟨z15, q16, hM⟩ := zw_bd hM
      refine zr_callV (q := 72) (As := [.ref (E.2.1 9)]) (rest := []) (st' := []) (i := 14) g (R_X3_copyFrom (Or.inr rfl) (Or.inl rfl) ok hI q16) zv_X3_copyFrom zl_X4_33 (hI 14 (by decide)) zs_14 zc_X3.1 dX4_tryOrders_69 rfl rfl ⟨Nat.le_of_ble_eq_true rfl, Nat.le_of_ble_eq_true rfl⟩ ⟨Nat.zero_le _, Nat.zero_le _⟩ (Nat.le_of_ble_eq_true rfl) rfl rfl ?_
      refine zr_aload_n (q := 73) g 0 dX4_tryOrders_72 rfl rfl rfl ?_
      refine zr_getr (q := 76) (k0 := 3) (j := 29) g (hI 28 (by decide)) zs_28 rfl zf_X4_9 dX4_tryOrders_73 rfl ?_
      refine zr_iconst (q := 77) (v := (0 : Int32)) g dX4_tryOrders_76 rfl (by decide) ?_
      refine zr_aload_n (q := 78) g 0 dX4_tryOrders_77 rfl rfl rfl ?_
      refine zr_getr (q := 81) (k0 := 2) (j := 14) g (hI 28 (by decide)) zs_28 rfl zf_X4_30 dX4_tryOrders_78 rfl ?_
      refine zr_getr (q := 84) (k0 := 1) (j := 15) g (hI 14 (by decide)) zs_14 rfl zf_X4_62 dX4_tryOrders_81 rfl ?_
      refine zr_iconst (q := 85) (v := (0 : Int32)) g dX4_tryOrders_84 rfl (by decide) ?_
      refine zr_iconst (q := 86) (v := (5 : Int32)) g dX4_tryOrders_85 rfl (by decide) ?_
      obtain ⟨c17, hM⟩ := zw_gp hM
      obtain ⟨h18, e19, hM⟩ := zw_nm_ex hM
      refine zr_copy (q := 89) (h' := h18) g (hI 29 (by decide)) zs_29 (hI 15 (by decide)) zs_15 zl_X4_65 zl_copy c17 ⟨Nat.le_of_ble_eq_true rfl, Nat.le_of_ble_eq_true rfl⟩ (Nat.le_of_ble_eq_true rfl) dX4_tryOrders_86 rfl e19 ?_
      refine zr_aload_n (q := 90) g 0 dX4_tryOrders_89 rfl rfl rfl ?_
      refine zr_getr (q := 93) (k0 := 2) (j := 14) g (hI 28 (by decide)) zs_28 rfl zf_X4_30 dX4_tryOrders_90 rfl ?_
      refine zr_iload_n (q := 94) g 1 dX4_tryOrders_93 rfl rfl rfl ?_
      obtain ⟨z20, q21, hM⟩ := zw_bd hM
      refine zr_callV (q := 97) (As := [.int x1]) (rest := []) (st' := [.int z20.1]) (i := 14) g (R_X3_passBeats (Or.inr rfl) ok hI q21) zv_X3_passBeats zl_X4_39 (hI 14 (by decide)) zs_14 zc_X3.1 dX4_tryOrders_94 rfl rfl ⟨Nat.le_of_ble_eq_true rfl, Nat.le_of_ble_eq_true rfl⟩ ⟨Nat.zero_le _, Nat.zero_le _⟩ (Nat.le_of_ble_eq_true rfl) rfl rfl ?_
      refine zr_pop (q := 98) g dX4_tryOrders_97 rfl rfl ?_
      refine zr_aload_n (q := 99) g 0 dX4_tryOrders_98 rfl rfl rfl ?_
      refine zr_aload_n (q := 100) g 0 dX4_tryOrders_99 rfl rfl rfl ?_
      obtain ⟨z22, q23, hM⟩ := zw_bd hM
      refine zr_callV (q := 103) (As := []) (rest := [.ref (E.2.1 28)]) (st' := [.int z22, .ref (E.2.1 28)]) (i := 28) g (R_X4_orderFigures ok hI q23) zv_X4_orderFigures zl_X4_71 (hI 28 (by decide)) zs_28 zc_X4.1 dX4_tryOrders_100 rfl rfl ⟨Nat.le_of_ble_eq_true rfl, Nat.le_of_ble_eq_true rfl⟩ ⟨Nat.zero_le _, Nat.zero_le _⟩ (Nat.le_of_ble_eq_true rfl) rfl rfl ?_
      obtain ⟨z24, q25, hM⟩ := zw_bd hM
      refine zr_callV (q := 106) (As := [.int z22]) (rest := []) (st' := []) (i := 28) g (R_X4_prefer ok hI q25) zv_X4_prefer zl_X4_55 (hI 28 (by decide)) zs_28 zc_X4.1 dX4_tryOrders_103 rfl rfl ⟨Nat.le_of_ble_eq_true rfl, Nat.le_of_ble_eq_true rfl⟩ ⟨Nat.zero_le _, Nat.zero_le _⟩ (Nat.le_of_ble_eq_true rfl) rfl rfl ?_
      refine zr_aload_n (q := 107) g 0 dX4_tryOrders_106 rfl rfl rfl ?_
      obtain ⟨z26, q27, hM⟩ := zw_bd hM
      refine zr_callV (q := 110) (As := []) (rest := []) (st' := [.int z26.1]) (i := 28) g (R_X4_toNextOrder ok hI q27) zv_X4_toNextOrder zl_X4_75 (hI 28 (by decide)) zs_28 zc_X4.1 dX4_tryOrders_107 rfl rfl ⟨Nat.le_of_ble_eq_true rfl, Nat.le_of_ble_eq_true rfl⟩ ⟨Nat.zero_le _, Nat.zero_le _⟩ (Nat.le_of_ble_eq_true rfl) rfl rfl ?_
      obtain ⟨y28, e29, hM⟩ := zw_nm_ex hM
      refine zr_nmi e29 ?_
      refine zr_istore_n (q := 111) (lv' := [(2, .int y28), (0, .ref (E.2.1 28)), (1, .int x1), (3, .int x3), (4, .int x4)]) g dX4_tryOrders_110 rfl rfl (by decide) rfl ?_
      obtain ⟨y30, e31, hM⟩ := zw_nm_ex hM
      refine zr_iinc (q := 114) (v := y30) (lv' := [(4, .int y30), (2, .int y28), (0, .ref (E.2.1 28)), (1, .int x1), (3, .int x3)]) g 4 dX4_tryOrders_111 rfl rfl (by rw [e31]; rfl) (by decide) rfl ?_
      refine zr_goto (tgt := 51) g dX4_tryOrders_114 rfl ?_
      refine zr_lv (lv' := [(0, .ref (E.2.1 28)), (1, .int x1), (2, .int y28), (3, .int x3), (4, .int y30)]) [2, 3, 1, 4, 0] rfl ?_
      exact eL51 _ _ hM
noncomputable def L_X4_tryOrders_51 (w : Int32 × Int32 × Int32 × Int32 × zw_Hp) : Option (zw_Hp) :=
  zw_it (fun (k51 : (Int32 × Int32 × Int32 × Int32 × zw_Hp) → Option (zw_Hp)) (w : Int32 × Int32 × Int32 × Int32 × zw_Hp) => B_X4_tryOrders_51 k51 (w.1) (w.2.1) (w.2.2.1) (w.2.2.2.1) (w.2.2.2.2)) 600 w
theorem UL_X4_tryOrders_51 (ok : zw_Ok E) (hI : ∀ i, i < 48 → i ∈ E.2.2.1) (g : zw_G p E (zw_A E) s m args c RX4 cX4_tryOrders 5) (hr : meth.sig.returnType = none) (hlk : meth.locks = false) :
    ∀ (w : Int32 × Int32 × Int32 × Int32 × zw_Hp) (z : zw_Hp), L_X4_tryOrders_51 w = some z → zw_V p l e s m args below meth c E mt_X4_tryOrders 5 none z 51 [(0, .ref (E.2.1 28)), (1, .int w.1), (2, .int w.2.1), (3, .int w.2.2.1), (4, .int w.2.2.2.1)] [] w.2.2.2.2 :=
  fun w z hM => zw_it_ind (P := fun (w : Int32 × Int32 × Int32 × Int32 × zw_Hp) (z : zw_Hp) => zw_V p l e s m args below meth c E mt_X4_tryOrders 5 none z 51 [(0, .ref (E.2.1 28)), (1, .int w.1), (2, .int w.2.1), (3, .int w.2.2.1), (4, .int w.2.2.2.1)] [] w.2.2.2.2) (fun k e w z hM => U_X4_tryOrders_51 ok hI g hr hlk e _ _ _ _ _ _ hM) 600 w z hM
noncomputable def B_X4_tryOrders_2 (k2 : (Int32 × Int32 × zw_Hp) → Option (zw_Hp)) (x1 : Int32) (x2 : Int32) (h : zw_Hp) : Option (zw_Hp) :=
  if (5 : Int32) ≤ x2 then (zw_nm (zw_up h 28 4 (-9 : Int32)) (fun h2 => zw_nm (zw_up h2 28 5 (0 : Int32)) (fun h4 => (M_X8_factorial (h4.1 6 2) h4).bind (fun z6 => L_X4_tryOrders_51 (x1, (1 : Int32), z6, (0 : Int32), h4))))) else (if zw_ok x2 5 = true then zw_nm (zw_up h 29 (x2).toNatClampNeg x2) (fun h9 => zw_nm (x2 + (1 : Int32)) (fun y11 => k2 (x1, y11, h9))) else none)
set_option maxRecDepth 100000 in
set_option maxHeartbeats 4000000 in
theorem U_X4_tryOrders_2 (ok : zw_Ok E) (hI : ∀ i, i < 48 → i ∈ E.2.2.1) (g : zw_G p E (zw_A E) s m args c RX4 cX4_tryOrders 5) (hr : meth.sig.returnType = none) (hlk : meth.locks = false) {k2 : (Int32 × Int32 × zw_Hp) → Option (zw_Hp)} (eL2 : ∀ (w : Int32 × Int32 × zw_Hp) (z : zw_Hp), k2 w = some z → zw_V p l e s m args below meth c E mt_X4_tryOrders 5 none z 2 [(0, .ref (E.2.1 28)), (1, .int w.1), (2, .int w.2.1)] [] w.2.2) :
    ∀ (x1 : Int32) (x2 : Int32) (h : zw_Hp) (z : zw_Hp), B_X4_tryOrders_2 k2 x1 x2 h = some z → zw_V p l e s m args below meth c E mt_X4_tryOrders 5 none z 2 [(0, .ref (E.2.1 28)), (1, .int x1), (2, .int x2)] [] h := by
  intro x1 x2 h z hM
  unfold B_X4_tryOrders_2 at hM
  refine zr_iload_n (q := 3) g 2 dX4_tryOrders_2 rfl rfl rfl ?_
  refine zr_aload_n (q := 4) g 0 dX4_tryOrders_3 rfl rfl rfl ?_
  refine zr_getr (q := 7) (k0 := 3) (j := 29) g (hI 28 (by decide)) zs_28 rfl zf_X4_9 dX4_tryOrders_4 rfl ?_
  refine zr_alen (q := 8) (v := (5 : Int32)) g (hI 29 (by decide)) zs_29 rfl dX4_tryOrders_7 rfl ?_
  refine zr_icmp_ge (q := 11) (tgt := 24) g dX4_tryOrders_8 rfl rfl (fun c1 => ?_) (fun c1 => ?_)
  · replace hM := zw_ift c1 hM
    refine zr_aload_n (q := 25) g 0 dX4_tryOrders_24 rfl rfl rfl ?_
    refine zr_bipush (q := 27) (v := (-9 : Int32)) g dX4_tryOrders_25 rfl (by decide) ?_
    obtain ⟨h2, e3, hM⟩ := zw_nm_ex hM
    refine zr_puti (q := 30) (k0 := 4) (h' := h2) g (hI 28 (by decide)) zs_28 rfl zp_X4_15 dX4_tryOrders_27 rfl e3 ?_
    refine zr_aload_n (q := 31) g 0 dX4_tryOrders_30 rfl rfl rfl ?_
    refine zr_iconst (q := 32) (v := (0 : Int32)) g dX4_tryOrders_31 rfl (by decide) ?_
    obtain ⟨h4, e5, hM⟩ := zw_nm_ex hM
    refine zr_puti (q := 35) (k0 := 5) (h' := h4) g (hI 28 (by decide)) zs_28 rfl zp_X4_19 dX4_tryOrders_32 rfl e5 ?_
    refine zr_iconst (q := 36) (v := (1 : Int32)) g dX4_tryOrders_35 rfl (by decide) ?_
    refine zr_istore_n (q := 37) (lv' := [(2, .int (1 : Int32)), (0, .ref (E.2.1 28)), (1, .int x1)]) g dX4_tryOrders_36 rfl rfl (by decide) rfl ?_
    refine zr_aload_n (q := 38) g 1 dX4_tryOrders_37 rfl rfl rfl ?_
    refine zr_getr (q := 41) (k0 := 0) (j := 6) g (hI 28 (by decide)) zs_28 rfl zf_X4_22 dX4_tryOrders_38 rfl ?_
    refine zr_geti (q := 44) (k0 := 2) g (hI 6 (by decide)) zs_6 rfl zf_X4_46 dX4_tryOrders_41 rfl ?_
    obtain ⟨z6, q7, hM⟩ := zw_bd hM
    refine zr_callN (q := 47) (As := [.int (h4.1 6 2)]) (rest := []) (st' := [.int z6]) g (R_X8_factorial ok hI q7) zv_X8_factorial zl_X4_59 dX4_tryOrders_44 rfl rfl ⟨Nat.le_of_ble_eq_true rfl, Nat.le_of_ble_eq_true rfl⟩ ⟨Nat.zero_le _, Nat.zero_le _⟩ (Nat.le_of_ble_eq_true rfl) rfl rfl ?_
    refine zr_istore_n (q := 48) (lv' := [(3, .int z6), (2, .int (1 : Int32)), (0, .ref (E.2.1 28)), (1, .int x1)]) g dX4_tryOrders_47 rfl rfl (by decide) rfl ?_
    refine zr_iconst (q := 49) (v := (0 : Int32)) g dX4_tryOrders_48 rfl (by decide) ?_
    refine zr_istore (q := 51) (lv' := [(4, .int (0 : Int32)), (3, .int z6), (2, .int (1 : Int32)), (0, .ref (E.2.1 28)), (1, .int x1)]) g dX4_tryOrders_49 rfl (by decide) rfl ?_
    refine zr_lv (lv' := [(0, .ref (E.2.1 28)), (1, .int x1), (2, .int (1 : Int32)), (3, .int z6), (4, .int (0 : Int32))]) [3, 4, 2, 1, 0] rfl ?_
    exact UL_X4_tryOrders_51 ok hI g hr hlk _ _ hM
  · replace hM := zw_iff c1 hM
    refine zr_aload_n (q := 12) g 0 dX4_tryOrders_11 rfl rfl rfl ?_
    refine zr_getr (q := 15) (k0 := 3) (j := 29) g (hI 28 (by decide)) zs_28 rfl zf_X4_9 dX4_tryOrders_12 rfl ?_
    refine zr_iload_n (q := 16) g 2 dX4_tryOrders_15 rfl rfl rfl ?_
    refine zr_iload_n (q := 17) g 2 dX4_tryOrders_16 rfl rfl rfl ?_
    obtain ⟨c8, hM⟩ := zw_gd hM
    obtain ⟨h9, e10, hM⟩ := zw_nm_ex hM
    refine zr_iast (q := 18) (h' := h9) g (hI 29 (by decide)) zs_29 c8 dX4_tryOrders_17 rfl e10 ?_
    obtain ⟨y11, e12, hM⟩ := zw_nm_ex hM
    refine zr_iinc (q := 21) (v := y11) (lv' := [(2, .int y11), (0, .ref (E.2.1 28)), (1, .int x1)]) g 2 dX4_tryOrders_18 rfl rfl (by rw [e12]; rfl) (by decide) rfl ?_
    refine zr_goto (tgt := 2) g dX4_tryOrders_21 rfl ?_
    refine zr_lv (lv' := [(0, .ref (E.2.1 28)), (1, .int x1), (2, .int y11)]) [1, 2, 0] rfl ?_
    exact eL2 _ _ hM
noncomputable def L_X4_tryOrders_2 (w : Int32 × Int32 × zw_Hp) : Option (zw_Hp) :=
  zw_it (fun (k2 : (Int32 × Int32 × zw_Hp) → Option (zw_Hp)) (w : Int32 × Int32 × zw_Hp) => B_X4_tryOrders_2 k2 (w.1) (w.2.1) (w.2.2)) 600 w
theorem UL_X4_tryOrders_2 (ok : zw_Ok E) (hI : ∀ i, i < 48 → i ∈ E.2.2.1) (g : zw_G p E (zw_A E) s m args c RX4 cX4_tryOrders 5) (hr : meth.sig.returnType = none) (hlk : meth.locks = false) :
    ∀ (w : Int32 × Int32 × zw_Hp) (z : zw_Hp), L_X4_tryOrders_2 w = some z → zw_V p l e s m args below meth c E mt_X4_tryOrders 5 none z 2 [(0, .ref (E.2.1 28)), (1, .int w.1), (2, .int w.2.1)] [] w.2.2 :=
  fun w z hM => zw_it_ind (P := fun (w : Int32 × Int32 × zw_Hp) (z : zw_Hp) => zw_V p l e s m args below meth c E mt_X4_tryOrders 5 none z 2 [(0, .ref (E.2.1 28)), (1, .int w.1), (2, .int w.2.1)] [] w.2.2) (fun k e w z hM => U_X4_tryOrders_2 ok hI g hr hlk e _ _ _ _ hM) 600 w z hM
noncomputable def M_X4_tryOrders (x1 : Int32) (h : zw_Hp) : Option (zw_Hp) :=
  L_X4_tryOrders_2 (x1, (0 : Int32), h)
set_option maxRecDepth 100000 in
set_option maxHeartbeats 4000000 in
theorem R_X4_tryOrders (ok : zw_Ok E) (hI : ∀ i, i < 48 → i ∈ E.2.2.1) {x1 : Int32} {h : zw_Hp} {z : zw_Hp} (hM : M_X4_tryOrders x1 h = some z) : zw_Ct l E mt_X4_tryOrders [.ref (E.2.1 28), .int x1] h none z := by
  unfold M_X4_tryOrders at hM
  refine zw_ct (lv0 := [(0, .ref (E.2.1 28)), (1, .int x1)]) ok (by decide) rfl (Nat.le_of_ble_eq_true rfl) (fun p e s m args below meth c g hr hlk => ?_)
  replace g : zw_G p E (zw_A E) s m args c RX4 cX4_tryOrders 5 := g
  show zw_V p l e s m args below meth c E mt_X4_tryOrders 5 none z 0 [(0, .ref (E.2.1 28)), (1, .int x1)] [] h
  refine zr_iconst (q := 1) (v := (0 : Int32)) g dX4_tryOrders_0 rfl (by decide) ?_
  refine zr_istore_n (q := 2) (lv' := [(2, .int (0 : Int32)), (0, .ref (E.2.1 28)), (1, .int x1)]) g dX4_tryOrders_1 rfl rfl (by decide) rfl ?_
  refine zr_lv (lv' := [(0, .ref (E.2.1 28)), (1, .int x1), (2, .int (0 : Int32))]) [1, 2, 0] rfl ?_
  exact UL_X4_tryOrders_2 ok hI g hr hlk _ _ hM
noncomputable def M_X8_line (x1 : Int32) (x2 : Int32) (h : zw_Hp) : Option (Int32 × zw_Hp) :=
  if x1 < (1 : Int32) then (some ((-2 : Int32), h)) else (if (20 : Int32) < x1 then (some ((-2 : Int32), h)) else ((M_X8_isZeroOrOne x2 h).bind (fun z3 => if z3 = 0 then (some ((-2 : Int32), h)) else ((M_X4_tryOrders x1 h).bind (fun z6 => if x2 = 0 then (some ((z6.1 28 4), z6)) else (some ((z6.1 28 5), z6)))))))
set_option maxRecDepth 100000 in
set_option maxHeartbeats 4000000 in
theorem R_X8_line (ok : zw_Ok E) (hI : ∀ i, i < 48 → i ∈ E.2.2.1) {x1 : Int32} {x2 : Int32} {h : zw_Hp} {z : Int32 × zw_Hp} (hM : M_X8_line x1 x2 h = some z) : zw_Ct l E mt_X8_line [.ref (E.2.1 0), .int x1, .int x2] h (some (.int z.1)) z.2 := by
  unfold M_X8_line at hM
  refine zw_ct (lv0 := [(0, .ref (E.2.1 0)), (1, .int x1), (2, .int x2)]) ok (by decide) rfl (Nat.le_of_ble_eq_true rfl) (fun p e s m args below meth c g hr hlk => ?_)
  replace g : zw_G p E (zw_A E) s m args c RX8 cX8_line 3 := g
  show zw_V p l e s m args below meth c E mt_X8_line 3 (some (.int z.1)) z.2 0 [(0, .ref (E.2.1 0)), (1, .int x1), (2, .int x2)] [] h
  refine zr_iload_n (q := 1) g 1 dX8_line_0 rfl rfl rfl ?_
  refine zr_iconst (q := 2) (v := (1 : Int32)) g dX8_line_1 rfl (by decide) ?_
  refine zr_icmp_lt (q := 5) (tgt := 18) g dX8_line_2 rfl rfl (fun c1 => ?_) (fun c1 => ?_)
  · replace hM := zw_ift c1 hM
    refine zr_bipush (q := 20) (v := (-2 : Int32)) g dX8_line_18 rfl (by decide) ?_
    cases hM
    exact zr_iret g hr hlk dX8_line_20 rfl rfl
  · replace hM := zw_iff c1 hM
    refine zr_iload_n (q := 6) g 1 dX8_line_5 rfl rfl rfl ?_
    refine zr_bipush (q := 8) (v := (20 : Int32)) g dX8_line_6 rfl (by decide) ?_
    refine zr_icmp_gt (q := 11) (tgt := 18) g dX8_line_8 rfl rfl (fun c2 => ?_) (fun c2 => ?_)
    · replace hM := zw_ift c2 hM
      refine zr_bipush (q := 20) (v := (-2 : Int32)) g dX8_line_18 rfl (by decide) ?_
      cases hM
      exact zr_iret g hr hlk dX8_line_20 rfl rfl
    · replace hM := zw_iff c2 hM
      refine zr_iload_n (q := 12) g 2 dX8_line_11 rfl rfl rfl ?_
      obtain ⟨z3, q4, hM⟩ := zw_bd hM
      refine zr_callS (q := 15) (As := [.int x2]) (rest := []) (st' := [.int z3]) g (R_X8_isZeroOrOne ok hI q4) zv_X8_isZeroOrOne zl_X8_197 dX8_line_12 rfl rfl ⟨Nat.le_of_ble_eq_true rfl, Nat.le_of_ble_eq_true rfl⟩ ⟨Nat.zero_le _, Nat.zero_le _⟩ (Nat.le_of_ble_eq_true rfl) rfl rfl ?_
      refine zr_if_ne (q := 18) (tgt := 21) g dX8_line_15 rfl rfl (fun c5 => ?_) (fun c5 => ?_)
      · replace hM := zw_iff c5 hM
        refine zr_aload_n (q := 22) g 0 dX8_line_21 rfl rfl rfl ?_
        refine zr_getr (q := 25) (k0 := 8) (j := 28) g (hI 0 (by decide)) zs_0 rfl zf_X8_67 dX8_line_22 rfl ?_
        refine zr_iload_n (q := 26) g 1 dX8_line_25 rfl rfl rfl ?_
        obtain ⟨z6, q7, hM⟩ := zw_bd hM
        refine zr_callV (q := 29) (As := [.int x1]) (rest := []) (st' := []) (i := 28) g (R_X4_tryOrders ok hI q7) zv_X4_tryOrders zl_X8_218 (hI 28 (by decide)) zs_28 zc_X4.1 dX8_line_26 rfl rfl ⟨Nat.le_of_ble_eq_true rfl, Nat.le_of_ble_eq_true rfl⟩ ⟨Nat.zero_le _, Nat.zero_le _⟩ (Nat.le_of_ble_eq_true rfl) rfl rfl ?_
        refine zr_iload_n (q := 30) g 2 dX8_line_29 rfl rfl rfl ?_
        refine zr_if_ne (q := 33) (tgt := 43) g dX8_line_30 rfl rfl (fun c8 => ?_) (fun c8 => ?_)
        · replace hM := zw_iff c8 hM
          refine zr_aload_n (q := 44) g 0 dX8_line_43 rfl rfl rfl ?_
          refine zr_getr (q := 47) (k0 := 8) (j := 28) g (hI 0 (by decide)) zs_0 rfl zf_X8_67 dX8_line_44 rfl ?_
          refine zr_geti (q := 50) (k0 := 5) g (hI 28 (by decide)) zs_28 rfl zf_X8_215 dX8_line_47 rfl ?_
          cases hM
          exact zr_iret g hr hlk dX8_line_50 rfl rfl
        · replace hM := zw_ift c8 hM
          refine zr_aload_n (q := 34) g 0 dX8_line_33 rfl rfl rfl ?_
          refine zr_getr (q := 37) (k0 := 8) (j := 28) g (hI 0 (by decide)) zs_0 rfl zf_X8_67 dX8_line_34 rfl ?_
          refine zr_geti (q := 40) (k0 := 4) g (hI 28 (by decide)) zs_28 rfl zf_X8_212 dX8_line_37 rfl ?_
          refine zr_goto (tgt := 50) g dX8_line_40 rfl ?_
          cases hM
          exact zr_iret g hr hlk dX8_line_50 rfl rfl
      · replace hM := zw_ift c5 hM
        refine zr_bipush (q := 20) (v := (-2 : Int32)) g dX8_line_18 rfl (by decide) ?_
        cases hM
        exact zr_iret g hr hlk dX8_line_20 rfl rfl
noncomputable def B_X1_firstWrongDoing_22 (k7 : (Int32 × Int64 × Int32 × zw_Hp) → Option (Int32 × zw_Hp)) (k22 : (Int32 × Int64 × Int32 × Int64 × Int32 × zw_Hp) → Option (Int32 × zw_Hp)) (x1 : Int32) (x2 : Int64) (x4 : Int32) (x5 : Int64) (x7 : Int32) (h : zw_Hp) : Option (Int32 × zw_Hp) :=
  if x1 ≤ x7 then (zw_nm ((x5 - x5 / (1000 : Int64) * (1000 : Int64))).toInt32 (fun y7 => (M_X3_follow 14 (y7 / (100 : Int32)) ((y7 / (10 : Int32)) - (y7 / (10 : Int32)) / (10 : Int32) * (10 : Int32)) (y7 - y7 / (10 : Int32) * (10 : Int32)) h).bind (fun z9 => if z9.1 = 0 then (some (x4, z9.2)) else (zw_nm (x4 + (1 : Int32)) (fun y12 => k7 (x1, x2, y12, z9.2)))))) else (zw_nm (x5 / (1000 : Int64)) (fun y14 => zw_nm (x7 + (1 : Int32)) (fun y16 => k22 (x1, x2, x4, y14, y16, h))))
set_option maxRecDepth 100000 in
set_option maxHeartbeats 4000000 in
theorem U_X1_firstWrongDoing_22 (ok : zw_Ok E) (hI : ∀ i, i < 48 → i ∈ E.2.2.1) (g : zw_G p E (zw_A E) s m args c RX1 cX1_firstWrongDoing 8) (hr : meth.sig.returnType = some .int) (hlk : meth.locks = false) {k7 : (Int32 × Int64 × Int32 × zw_Hp) → Option (Int32 × zw_Hp)} (eL7 : ∀ (w : Int32 × Int64 × Int32 × zw_Hp) (z : Int32 × zw_Hp), k7 w = some z → zw_V p l e s m args below meth c E mt_X1_firstWrongDoing 8 (some (.int z.1)) z.2 7 [(0, .ref (E.2.1 30)), (1, .int w.1), (2, .long w.2.1), (4, .int w.2.2.1)] [] w.2.2.2) {k22 : (Int32 × Int64 × Int32 × Int64 × Int32 × zw_Hp) → Option (Int32 × zw_Hp)} (eL22 : ∀ (w : Int32 × Int64 × Int32 × Int64 × Int32 × zw_Hp) (z : Int32 × zw_Hp), k22 w = some z → zw_V p l e s m args below meth c E mt_X1_firstWrongDoing 8 (some (.int z.1)) z.2 22 [(0, .ref (E.2.1 30)), (1, .int w.1), (2, .long w.2.1), (4, .int w.2.2.1), (5, .long w.2.2.2.1), (7, .int w.2.2.2.2.1)] [] w.2.2.2.2.2) :
    ∀ (x1 : Int32) (x2 : Int64) (x4 : Int32) (x5 : Int64) (x7 : Int32) (h : zw_Hp) (z : Int32 × zw_Hp), B_X1_firstWrongDoing_22 k7 k22 x1 x2 x4 x5 x7 h = some z → zw_V p l e s m args below meth c E mt_X1_firstWrongDoing 8 (some (.int z.1)) z.2 22 [(0, .ref (E.2.1 30)), (1, .int x1), (2, .long x2), (4, .int x4), (5, .long x5), (7, .int x7)] [] h := by
  intro x1 x2 x4 x5 x7 h z hM
  unfold B_X1_firstWrongDoing_22 at hM
  refine zr_iload (q := 24) g 5 dX1_firstWrongDoing_22 rfl rfl ?_
  refine zr_iload_n (q := 25) g 1 dX1_firstWrongDoing_24 rfl rfl rfl ?_
  refine zr_icmp_ge (q := 28) (tgt := 42) g dX1_firstWrongDoing_25 rfl rfl (fun c6 => ?_) (fun c6 => ?_)
  · replace hM := zw_ift c6 hM
    refine zr_lload (q := 44) g 4 dX1_firstWrongDoing_42 rfl rfl ?_
    refine zr_ldc2 (q := 47) (v := (1000 : Int64)) g dX1_firstWrongDoing_44 rfl zk_X1_46 ?_
    refine zr_lrem (q := 48) g dX1_firstWrongDoing_47 rfl (by decide) ?_
    refine zr_l2i (q := 49) g dX1_firstWrongDoing_48 rfl ?_
    obtain ⟨y7, e8, hM⟩ := zw_nm_ex hM
    refine zr_nmi e8 ?_
    refine zr_istore (q := 51) (lv' := [(7, .int y7), (0, .ref (E.2.1 30)), (1, .int x1), (2, .long x2), (4, .int x4), (5, .long x5)]) g dX1_firstWrongDoing_49 rfl (by decide) rfl ?_
    refine zr_aload_n (q := 52) g 1 dX1_firstWrongDoing_51 rfl rfl rfl ?_
    refine zr_getr (q := 55) (k0 := 2) (j := 14) g (hI 30 (by decide)) zs_30 rfl zf_X1_19 dX1_firstWrongDoing_52 rfl ?_
    refine zr_iload (q := 57) g 0 dX1_firstWrongDoing_55 rfl rfl ?_
    refine zr_bipush (q := 59) (v := (100 : Int32)) g dX1_firstWrongDoing_57 rfl (by decide) ?_
    refine zr_idiv (q := 60) g dX1_firstWrongDoing_59 rfl (by decide) ?_
    refine zr_iload (q := 62) g 0 dX1_firstWrongDoing_60 rfl rfl ?_
    refine zr_bipush (q := 64) (v := (10 : Int32)) g dX1_firstWrongDoing_62 rfl (by decide) ?_
    refine zr_idiv (q := 65) g dX1_firstWrongDoing_64 rfl (by decide) ?_
    refine zr_bipush (q := 67) (v := (10 : Int32)) g dX1_firstWrongDoing_65 rfl (by decide) ?_
    refine zr_irem (q := 68) g dX1_firstWrongDoing_67 rfl (by decide) ?_
    refine zr_iload (q := 70) g 0 dX1_firstWrongDoing_68 rfl rfl ?_
    refine zr_bipush (q := 72) (v := (10 : Int32)) g dX1_firstWrongDoing_70 rfl (by decide) ?_
    refine zr_irem (q := 73) g dX1_firstWrongDoing_72 rfl (by decide) ?_
    obtain ⟨z9, q10, hM⟩ := zw_bd hM
    refine zr_callV (q := 76) (As := [.int (y7 / (100 : Int32)), .int ((y7 / (10 : Int32)) - (y7 / (10 : Int32)) / (10 : Int32) * (10 : Int32)), .int (y7 - y7 / (10 : Int32) * (10 : Int32))]) (rest := []) (st' := [.int z9.1]) (i := 14) g (R_X3_follow (Or.inr rfl) ok hI q10) zv_X3_follow zl_X1_48 (hI 14 (by decide)) zs_14 zc_X3.1 dX1_firstWrongDoing_73 rfl rfl ⟨Nat.le_of_ble_eq_true rfl, Nat.le_of_ble_eq_true rfl⟩ ⟨Nat.zero_le _, Nat.zero_le _⟩ (Nat.le_of_ble_eq_true rfl) rfl rfl ?_
    refine zr_if_ne (q := 79) (tgt := 82) g dX1_firstWrongDoing_76 rfl rfl (fun c11 => ?_) (fun c11 => ?_)
    · replace hM := zw_iff c11 hM
      obtain ⟨y12, e13, hM⟩ := zw_nm_ex hM
      refine zr_iinc (q := 85) (v := y12) (lv' := [(4, .int y12), (7, .int y7), (0, .ref (E.2.1 30)), (1, .int x1), (2, .long x2), (5, .long x5)]) g 4 dX1_firstWrongDoing_82 rfl rfl (by rw [e13]; rfl) (by decide) rfl ?_
      refine zr_goto (tgt := 7) g dX1_firstWrongDoing_85 rfl ?_
      refine zr_lv (lv' := [(0, .ref (E.2.1 30)), (1, .int x1), (2, .long x2), (4, .int y12)]) [2, 3, 4, 0] rfl ?_
      exact eL7 _ _ hM
    · replace hM := zw_ift c11 hM
      refine zr_iload (q := 81) g 4 dX1_firstWrongDoing_79 rfl rfl ?_
      cases hM
      exact zr_iret g hr hlk dX1_firstWrongDoing_81 rfl rfl
  · replace hM := zw_iff c6 hM
    refine zr_lload (q := 30) g 4 dX1_firstWrongDoing_28 rfl rfl ?_
    refine zr_ldc2 (q := 33) (v := (1000 : Int64)) g dX1_firstWrongDoing_30 rfl zk_X1_46 ?_
    refine zr_ldiv (q := 34) g dX1_firstWrongDoing_33 rfl (by decide) ?_
    obtain ⟨y14, e15, hM⟩ := zw_nm_ex hM
    refine zr_nml e15 ?_
    refine zr_lstore (q := 36) (lv' := [(5, .long y14), (0, .ref (E.2.1 30)), (1, .int x1), (2, .long x2), (4, .int x4), (7, .int x7)]) g dX1_firstWrongDoing_34 rfl (by decide) rfl ?_
    obtain ⟨y16, e17, hM⟩ := zw_nm_ex hM
    refine zr_iinc (q := 39) (v := y16) (lv' := [(7, .int y16), (5, .long y14), (0, .ref (E.2.1 30)), (1, .int x1), (2, .long x2), (4, .int x4)]) g 5 dX1_firstWrongDoing_36 rfl rfl (by rw [e17]; rfl) (by decide) rfl ?_
    refine zr_goto (tgt := 22) g dX1_firstWrongDoing_39 rfl ?_
    refine zr_lv (lv' := [(0, .ref (E.2.1 30)), (1, .int x1), (2, .long x2), (4, .int x4), (5, .long y14), (7, .int y16)]) [2, 3, 4, 5, 1, 0] rfl ?_
    exact eL22 _ _ hM
noncomputable def L_X1_firstWrongDoing_22 (k7 : (Int32 × Int64 × Int32 × zw_Hp) → Option (Int32 × zw_Hp)) (w : Int32 × Int64 × Int32 × Int64 × Int32 × zw_Hp) : Option (Int32 × zw_Hp) :=
  zw_it (fun (k22 : (Int32 × Int64 × Int32 × Int64 × Int32 × zw_Hp) → Option (Int32 × zw_Hp)) (w : Int32 × Int64 × Int32 × Int64 × Int32 × zw_Hp) => B_X1_firstWrongDoing_22 k7 k22 (w.1) (w.2.1) (w.2.2.1) (w.2.2.2.1) (w.2.2.2.2.1) (w.2.2.2.2.2)) 600 w
theorem UL_X1_firstWrongDoing_22 (ok : zw_Ok E) (hI : ∀ i, i < 48 → i ∈ E.2.2.1) (g : zw_G p E (zw_A E) s m args c RX1 cX1_firstWrongDoing 8) (hr : meth.sig.returnType = some .int) (hlk : meth.locks = false) {k7 : (Int32 × Int64 × Int32 × zw_Hp) → Option (Int32 × zw_Hp)} (eL7 : ∀ (w : Int32 × Int64 × Int32 × zw_Hp) (z : Int32 × zw_Hp), k7 w = some z → zw_V p l e s m args below meth c E mt_X1_firstWrongDoing 8 (some (.int z.1)) z.2 7 [(0, .ref (E.2.1 30)), (1, .int w.1), (2, .long w.2.1), (4, .int w.2.2.1)] [] w.2.2.2) :
    ∀ (w : Int32 × Int64 × Int32 × Int64 × Int32 × zw_Hp) (z : Int32 × zw_Hp), L_X1_firstWrongDoing_22 k7 w = some z → zw_V p l e s m args below meth c E mt_X1_firstWrongDoing 8 (some (.int z.1)) z.2 22 [(0, .ref (E.2.1 30)), (1, .int w.1), (2, .long w.2.1), (4, .int w.2.2.1), (5, .long w.2.2.2.1), (7, .int w.2.2.2.2.1)] [] w.2.2.2.2.2 :=
  fun w z hM => zw_it_ind (P := fun (w : Int32 × Int64 × Int32 × Int64 × Int32 × zw_Hp) (z : Int32 × zw_Hp) => zw_V p l e s m args below meth c E mt_X1_firstWrongDoing 8 (some (.int z.1)) z.2 22 [(0, .ref (E.2.1 30)), (1, .int w.1), (2, .long w.2.1), (4, .int w.2.2.1), (5, .long w.2.2.2.1), (7, .int w.2.2.2.2.1)] [] w.2.2.2.2.2) (fun k e w z hM => U_X1_firstWrongDoing_22 ok hI g hr hlk eL7 e _ _ _ _ _ _ _ hM) 600 w z hM
noncomputable def B_X1_firstWrongDoing_7 (k7 : (Int32 × Int64 × Int32 × zw_Hp) → Option (Int32 × zw_Hp)) (x1 : Int32) (x2 : Int64) (x4 : Int32) (h : zw_Hp) : Option (Int32 × zw_Hp) :=
  if x1 ≤ x4 then (some ((-9 : Int32), h)) else (zw_nm (x4 + (1 : Int32)) (fun y4 => L_X1_firstWrongDoing_22 k7 (x1, x2, x4, x2, y4, h)))
set_option maxRecDepth 100000 in
set_option maxHeartbeats 4000000 in
theorem U_X1_firstWrongDoing_7 (ok : zw_Ok E) (hI : ∀ i, i < 48 → i ∈ E.2.2.1) (g : zw_G p E (zw_A E) s m args c RX1 cX1_firstWrongDoing 8) (hr : meth.sig.returnType = some .int) (hlk : meth.locks = false) {k7 : (Int32 × Int64 × Int32 × zw_Hp) → Option (Int32 × zw_Hp)} (eL7 : ∀ (w : Int32 × Int64 × Int32 × zw_Hp) (z : Int32 × zw_Hp), k7 w = some z → zw_V p l e s m args below meth c E mt_X1_firstWrongDoing 8 (some (.int z.1)) z.2 7 [(0, .ref (E.2.1 30)), (1, .int w.1), (2, .long w.2.1), (4, .int w.2.2.1)] [] w.2.2.2) :
    ∀ (x1 : Int32) (x2 : Int64) (x4 : Int32) (h : zw_Hp) (z : Int32 × zw_Hp), B_X1_firstWrongDoing_7 k7 x1 x2 x4 h = some z → zw_V p l e s m args below meth c E mt_X1_firstWrongDoing 8 (some (.int z.1)) z.2 7 [(0, .ref (E.2.1 30)), (1, .int x1), (2, .long x2), (4, .int x4)] [] h := by
  intro x1 x2 x4 h z hM
  unfold B_X1_firstWrongDoing_7 at hM
  refine zr_iload (q := 9) g 3 dX1_firstWrongDoing_7 rfl rfl ?_
  refine zr_iload_n (q := 10) g 1 dX1_firstWrongDoing_9 rfl rfl rfl ?_
  refine zr_icmp_ge (q := 13) (tgt := 88) g dX1_firstWrongDoing_10 rfl rfl (fun c3 => ?_) (fun c3 => ?_)
  · replace hM := zw_ift c3 hM
    refine zr_bipush (q := 90) (v := (-9 : Int32)) g dX1_firstWrongDoing_88 rfl (by decide) ?_
    cases hM
    exact zr_iret g hr hlk dX1_firstWrongDoing_90 rfl rfl
  · replace hM := zw_iff c3 hM
    refine zr_lload_n (q := 14) g 2 dX1_firstWrongDoing_13 rfl rfl rfl ?_
    refine zr_lstore (q := 16) (lv' := [(5, .long x2), (0, .ref (E.2.1 30)), (1, .int x1), (2, .long x2), (4, .int x4)]) g dX1_firstWrongDoing_14 rfl (by decide) rfl ?_
    refine zr_iload (q := 18) g 4 dX1_firstWrongDoing_16 rfl rfl ?_
    refine zr_iconst (q := 19) (v := (1 : Int32)) g dX1_firstWrongDoing_18 rfl (by decide) ?_
    refine zr_iadd (q := 20) g dX1_firstWrongDoing_19 rfl ?_
    obtain ⟨y4, e5, hM⟩ := zw_nm_ex hM
    refine zr_nmi e5 ?_
    refine zr_istore (q := 22) (lv' := [(7, .int y4), (5, .long x2), (0, .ref (E.2.1 30)), (1, .int x1), (2, .long x2), (4, .int x4)]) g dX1_firstWrongDoing_20 rfl (by decide) rfl ?_
    refine zr_lv (lv' := [(0, .ref (E.2.1 30)), (1, .int x1), (2, .long x2), (4, .int x4), (5, .long x2), (7, .int y4)]) [2, 3, 4, 5, 1, 0] rfl ?_
    exact UL_X1_firstWrongDoing_22 ok hI g hr hlk eL7 _ _ hM
noncomputable def L_X1_firstWrongDoing_7 (w : Int32 × Int64 × Int32 × zw_Hp) : Option (Int32 × zw_Hp) :=
  zw_it (fun (k7 : (Int32 × Int64 × Int32 × zw_Hp) → Option (Int32 × zw_Hp)) (w : Int32 × Int64 × Int32 × zw_Hp) => B_X1_firstWrongDoing_7 k7 (w.1) (w.2.1) (w.2.2.1) (w.2.2.2)) 600 w
theorem UL_X1_firstWrongDoing_7 (ok : zw_Ok E) (hI : ∀ i, i < 48 → i ∈ E.2.2.1) (g : zw_G p E (zw_A E) s m args c RX1 cX1_firstWrongDoing 8) (hr : meth.sig.returnType = some .int) (hlk : meth.locks = false) :
    ∀ (w : Int32 × Int64 × Int32 × zw_Hp) (z : Int32 × zw_Hp), L_X1_firstWrongDoing_7 w = some z → zw_V p l e s m args below meth c E mt_X1_firstWrongDoing 8 (some (.int z.1)) z.2 7 [(0, .ref (E.2.1 30)), (1, .int w.1), (2, .long w.2.1), (4, .int w.2.2.1)] [] w.2.2.2 :=
  fun w z hM => zw_it_ind (P := fun (w : Int32 × Int64 × Int32 × zw_Hp) (z : Int32 × zw_Hp) => zw_V p l e s m args below meth c E mt_X1_firstWrongDoing 8 (some (.int z.1)) z.2 7 [(0, .ref (E.2.1 30)), (1, .int w.1), (2, .long w.2.1), (4, .int w.2.2.1)] [] w.2.2.2) (fun k e w z hM => U_X1_firstWrongDoing_7 ok hI g hr hlk e _ _ _ _ _ hM) 600 w z hM
noncomputable def M_X1_firstWrongDoing (x1 : Int32) (x2 : Int64) (h : zw_Hp) : Option (Int32 × zw_Hp) :=
  (M_X1_begin h).bind (fun z1 => L_X1_firstWrongDoing_7 (x1, x2, (0 : Int32), z1))
set_option maxRecDepth 100000 in
set_option maxHeartbeats 4000000 in
theorem R_X1_firstWrongDoing (ok : zw_Ok E) (hI : ∀ i, i < 48 → i ∈ E.2.2.1) {x1 : Int32} {x2 : Int64} {h : zw_Hp} {z : Int32 × zw_Hp} (hM : M_X1_firstWrongDoing x1 x2 h = some z) : zw_Ct l E mt_X1_firstWrongDoing [.ref (E.2.1 30), .int x1, .long x2] h (some (.int z.1)) z.2 := by
  unfold M_X1_firstWrongDoing at hM
  refine zw_ct (lv0 := [(0, .ref (E.2.1 30)), (1, .int x1), (2, .long x2)]) ok (by decide) rfl (Nat.le_of_ble_eq_true rfl) (fun p e s m args below meth c g hr hlk => ?_)
  replace g : zw_G p E (zw_A E) s m args c RX1 cX1_firstWrongDoing 8 := g
  show zw_V p l e s m args below meth c E mt_X1_firstWrongDoing 8 (some (.int z.1)) z.2 0 [(0, .ref (E.2.1 30)), (1, .int x1), (2, .long x2)] [] h
  refine zr_aload_n (q := 1) g 0 dX1_firstWrongDoing_0 rfl rfl rfl ?_
  obtain ⟨z1, q2, hM⟩ := zw_bd hM
  refine zr_callV (q := 4) (As := []) (rest := []) (st' := []) (i := 30) g (R_X1_begin ok hI q2) zv_X1_begin zl_X1_28 (hI 30 (by decide)) zs_30 zc_X1.1 dX1_firstWrongDoing_1 rfl rfl ⟨Nat.le_of_ble_eq_true rfl, Nat.le_of_ble_eq_true rfl⟩ ⟨Nat.zero_le _, Nat.zero_le _⟩ (Nat.le_of_ble_eq_true rfl) rfl rfl ?_
  refine zr_iconst (q := 5) (v := (0 : Int32)) g dX1_firstWrongDoing_4 rfl (by decide) ?_
  refine zr_istore (q := 7) (lv' := [(4, .int (0 : Int32)), (0, .ref (E.2.1 30)), (1, .int x1), (2, .long x2)]) g dX1_firstWrongDoing_5 rfl (by decide) rfl ?_
  refine zr_lv (lv' := [(0, .ref (E.2.1 30)), (1, .int x1), (2, .long x2), (4, .int (0 : Int32))]) [1, 2, 3, 0] rfl ?_
  exact UL_X1_firstWrongDoing_7 ok hI g hr hlk _ _ hM
noncomputable def B_X8_judge_25 (k25 : (Int32 × Int64 × Int64 × Int32 × zw_Hp) → Option (Int32 × zw_Hp)) (x1 : Int32) (x2 : Int64) (x4 : Int64) (x6 : Int32) (h : zw_Hp) : Option (Int32 × zw_Hp) :=
  if x1 ≤ x6 then (if 0 ≤ (lg_cmp x2 x4) then (some ((-2 : Int32), h)) else ((M_X1_firstWrongDoing x1 x2 h).bind (fun z6 => some (z6.1, z6.2)))) else (zw_nm (x4 * (1000 : Int64)) (fun y8 => zw_nm (x6 + (1 : Int32)) (fun y10 => k25 (x1, x2, y8, y10, h))))
set_option maxRecDepth 100000 in
set_option maxHeartbeats 4000000 in
theorem U_X8_judge_25 (ok : zw_Ok E) (hI : ∀ i, i < 48 → i ∈ E.2.2.1) (g : zw_G p E (zw_A E) s m args c RX8 cX8_judge 7) (hr : meth.sig.returnType = some .int) (hlk : meth.locks = false) {k25 : (Int32 × Int64 × Int64 × Int32 × zw_Hp) → Option (Int32 × zw_Hp)} (eL25 : ∀ (w : Int32 × Int64 × Int64 × Int32 × zw_Hp) (z : Int32 × zw_Hp), k25 w = some z → zw_V p l e s m args below meth c E mt_X8_judge 7 (some (.int z.1)) z.2 25 [(0, .ref (E.2.1 0)), (1, .int w.1), (2, .long w.2.1), (4, .long w.2.2.1), (6, .int w.2.2.2.1)] [] w.2.2.2.2) :
    ∀ (x1 : Int32) (x2 : Int64) (x4 : Int64) (x6 : Int32) (h : zw_Hp) (z : Int32 × zw_Hp), B_X8_judge_25 k25 x1 x2 x4 x6 h = some z → zw_V p l e s m args below meth c E mt_X8_judge 7 (some (.int z.1)) z.2 25 [(0, .ref (E.2.1 0)), (1, .int x1), (2, .long x2), (4, .long x4), (6, .int x6)] [] h := by
  intro x1 x2 x4 x6 h z hM
  unfold B_X8_judge_25 at hM
  refine zr_iload (q := 27) g 4 dX8_judge_25 rfl rfl ?_
  refine zr_iload_n (q := 28) g 1 dX8_judge_27 rfl rfl rfl ?_
  refine zr_icmp_ge (q := 31) (tgt := 45) g dX8_judge_28 rfl rfl (fun c4 => ?_) (fun c4 => ?_)
  · replace hM := zw_ift c4 hM
    refine zr_lload_n (q := 46) g 2 dX8_judge_45 rfl rfl rfl ?_
    refine zr_lload (q := 48) g 3 dX8_judge_46 rfl rfl ?_
    refine zr_lcmp (q := 49) g dX8_judge_48 rfl ?_
    refine zr_if_ge (q := 52) (tgt := 64) g dX8_judge_49 rfl rfl (fun c5 => ?_) (fun c5 => ?_)
    · replace hM := zw_ift c5 hM
      refine zr_bipush (q := 66) (v := (-2 : Int32)) g dX8_judge_64 rfl (by decide) ?_
      cases hM
      exact zr_iret g hr hlk dX8_judge_66 rfl rfl
    · replace hM := zw_iff c5 hM
      refine zr_aload_n (q := 53) g 0 dX8_judge_52 rfl rfl rfl ?_
      refine zr_getr (q := 56) (k0 := 9) (j := 30) g (hI 0 (by decide)) zs_0 rfl zf_X8_74 dX8_judge_53 rfl ?_
      refine zr_iload_n (q := 57) g 1 dX8_judge_56 rfl rfl rfl ?_
      refine zr_lload_n (q := 58) g 2 dX8_judge_57 rfl rfl rfl ?_
      obtain ⟨z6, q7, hM⟩ := zw_bd hM
      refine zr_callV (q := 61) (As := [.int x1, .long x2]) (rest := []) (st' := [.int z6.1]) (i := 30) g (R_X1_firstWrongDoing ok hI q7) zv_X1_firstWrongDoing zl_X8_223 (hI 30 (by decide)) zs_30 zc_X1.1 dX8_judge_58 rfl rfl ⟨Nat.le_of_ble_eq_true rfl, Nat.le_of_ble_eq_true rfl⟩ ⟨Nat.zero_le _, Nat.zero_le _⟩ (Nat.le_of_ble_eq_true rfl) rfl rfl ?_
      refine zr_goto (tgt := 66) g dX8_judge_61 rfl ?_
      cases hM
      exact zr_iret g hr hlk dX8_judge_66 rfl rfl
  · replace hM := zw_iff c4 hM
    refine zr_lload (q := 33) g 3 dX8_judge_31 rfl rfl ?_
    refine zr_ldc2 (q := 36) (v := (1000 : Int64)) g dX8_judge_33 rfl zk_X8_221 ?_
    refine zr_lmul (q := 37) g dX8_judge_36 rfl ?_
    obtain ⟨y8, e9, hM⟩ := zw_nm_ex hM
    refine zr_nml e9 ?_
    refine zr_lstore (q := 39) (lv' := [(4, .long y8), (0, .ref (E.2.1 0)), (1, .int x1), (2, .long x2), (6, .int x6)]) g dX8_judge_37 rfl (by decide) rfl ?_
    obtain ⟨y10, e11, hM⟩ := zw_nm_ex hM
    refine zr_iinc (q := 42) (v := y10) (lv' := [(6, .int y10), (4, .long y8), (0, .ref (E.2.1 0)), (1, .int x1), (2, .long x2)]) g 4 dX8_judge_39 rfl rfl (by rw [e11]; rfl) (by decide) rfl ?_
    refine zr_goto (tgt := 25) g dX8_judge_42 rfl ?_
    refine zr_lv (lv' := [(0, .ref (E.2.1 0)), (1, .int x1), (2, .long x2), (4, .long y8), (6, .int y10)]) [2, 3, 4, 1, 0] rfl ?_
    exact eL25 _ _ hM
noncomputable def L_X8_judge_25 (w : Int32 × Int64 × Int64 × Int32 × zw_Hp) : Option (Int32 × zw_Hp) :=
  zw_it (fun (k25 : (Int32 × Int64 × Int64 × Int32 × zw_Hp) → Option (Int32 × zw_Hp)) (w : Int32 × Int64 × Int64 × Int32 × zw_Hp) => B_X8_judge_25 k25 (w.1) (w.2.1) (w.2.2.1) (w.2.2.2.1) (w.2.2.2.2)) 600 w
theorem UL_X8_judge_25 (ok : zw_Ok E) (hI : ∀ i, i < 48 → i ∈ E.2.2.1) (g : zw_G p E (zw_A E) s m args c RX8 cX8_judge 7) (hr : meth.sig.returnType = some .int) (hlk : meth.locks = false) :
    ∀ (w : Int32 × Int64 × Int64 × Int32 × zw_Hp) (z : Int32 × zw_Hp), L_X8_judge_25 w = some z → zw_V p l e s m args below meth c E mt_X8_judge 7 (some (.int z.1)) z.2 25 [(0, .ref (E.2.1 0)), (1, .int w.1), (2, .long w.2.1), (4, .long w.2.2.1), (6, .int w.2.2.2.1)] [] w.2.2.2.2 :=
  fun w z hM => zw_it_ind (P := fun (w : Int32 × Int64 × Int64 × Int32 × zw_Hp) (z : Int32 × zw_Hp) => zw_V p l e s m args below meth c E mt_X8_judge 7 (some (.int z.1)) z.2 25 [(0, .ref (E.2.1 0)), (1, .int w.1), (2, .long w.2.1), (4, .long w.2.2.1), (6, .int w.2.2.2.1)] [] w.2.2.2.2) (fun k e w z hM => U_X8_judge_25 ok hI g hr hlk e _ _ _ _ _ _ hM) 600 w z hM
noncomputable def M_X8_judge (x1 : Int32) (x2 : Int64) (h : zw_Hp) : Option (Int32 × zw_Hp) :=
  if x1 < (1 : Int32) then (some ((-2 : Int32), h)) else (if (4 : Int32) < x1 then (some ((-2 : Int32), h)) else (if 0 ≤ (lg_cmp x2 (0 : Int64)) then (L_X8_judge_25 (x1, x2, (1 : Int64), (0 : Int32), h)) else (some ((-2 : Int32), h))))
set_option maxRecDepth 100000 in
set_option maxHeartbeats 4000000 in
theorem R_X8_judge (ok : zw_Ok E) (hI : ∀ i, i < 48 → i ∈ E.2.2.1) {x1 : Int32} {x2 : Int64} {h : zw_Hp} {z : Int32 × zw_Hp} (hM : M_X8_judge x1 x2 h = some z) : zw_Ct l E mt_X8_judge [.ref (E.2.1 0), .int x1, .long x2] h (some (.int z.1)) z.2 := by
  unfold M_X8_judge at hM
  refine zw_ct (lv0 := [(0, .ref (E.2.1 0)), (1, .int x1), (2, .long x2)]) ok (by decide) rfl (Nat.le_of_ble_eq_true rfl) (fun p e s m args below meth c g hr hlk => ?_)
  replace g : zw_G p E (zw_A E) s m args c RX8 cX8_judge 7 := g
  show zw_V p l e s m args below meth c E mt_X8_judge 7 (some (.int z.1)) z.2 0 [(0, .ref (E.2.1 0)), (1, .int x1), (2, .long x2)] [] h
  refine zr_iload_n (q := 1) g 1 dX8_judge_0 rfl rfl rfl ?_
  refine zr_iconst (q := 2) (v := (1 : Int32)) g dX8_judge_1 rfl (by decide) ?_
  refine zr_icmp_lt (q := 5) (tgt := 16) g dX8_judge_2 rfl rfl (fun c1 => ?_) (fun c1 => ?_)
  · replace hM := zw_ift c1 hM
    refine zr_bipush (q := 18) (v := (-2 : Int32)) g dX8_judge_16 rfl (by decide) ?_
    cases hM
    exact zr_iret g hr hlk dX8_judge_18 rfl rfl
  · replace hM := zw_iff c1 hM
    refine zr_iload_n (q := 6) g 1 dX8_judge_5 rfl rfl rfl ?_
    refine zr_iconst (q := 7) (v := (4 : Int32)) g dX8_judge_6 rfl (by decide) ?_
    refine zr_icmp_gt (q := 10) (tgt := 16) g dX8_judge_7 rfl rfl (fun c2 => ?_) (fun c2 => ?_)
    · replace hM := zw_ift c2 hM
      refine zr_bipush (q := 18) (v := (-2 : Int32)) g dX8_judge_16 rfl (by decide) ?_
      cases hM
      exact zr_iret g hr hlk dX8_judge_18 rfl rfl
    · replace hM := zw_iff c2 hM
      refine zr_lload_n (q := 11) g 2 dX8_judge_10 rfl rfl rfl ?_
      refine zr_lconst (q := 12) (v := (0 : Int64)) g dX8_judge_11 rfl (by decide) ?_
      refine zr_lcmp (q := 13) g dX8_judge_12 rfl ?_
      refine zr_if_ge (q := 16) (tgt := 19) g dX8_judge_13 rfl rfl (fun c3 => ?_) (fun c3 => ?_)
      · replace hM := zw_ift c3 hM
        refine zr_lconst (q := 20) (v := (1 : Int64)) g dX8_judge_19 rfl (by decide) ?_
        refine zr_lstore (q := 22) (lv' := [(4, .long (1 : Int64)), (0, .ref (E.2.1 0)), (1, .int x1), (2, .long x2)]) g dX8_judge_20 rfl (by decide) rfl ?_
        refine zr_iconst (q := 23) (v := (0 : Int32)) g dX8_judge_22 rfl (by decide) ?_
        refine zr_istore (q := 25) (lv' := [(6, .int (0 : Int32)), (4, .long (1 : Int64)), (0, .ref (E.2.1 0)), (1, .int x1), (2, .long x2)]) g dX8_judge_23 rfl (by decide) rfl ?_
        refine zr_lv (lv' := [(0, .ref (E.2.1 0)), (1, .int x1), (2, .long x2), (4, .long (1 : Int64)), (6, .int (0 : Int32))]) [2, 3, 4, 1, 0] rfl ?_
        exact UL_X8_judge_25 ok hI g hr hlk _ _ hM
      · replace hM := zw_iff c3 hM
        refine zr_bipush (q := 18) (v := (-2 : Int32)) g dX8_judge_16 rfl (by decide) ?_
        cases hM
        exact zr_iret g hr hlk dX8_judge_18 rfl rfl
noncomputable def B_X1_thrownWith_37 (k6 : (Int32 × Int32 × zw_Hp) → Option (Int32 × zw_Hp)) (x1 : Int32) (x2 : Int32) (h : zw_Hp) : Option (Int32 × zw_Hp) :=
  zw_nm (x2 + (1 : Int32)) (fun y10 => k6 (x1, y10, h))
set_option maxRecDepth 100000 in
set_option maxHeartbeats 4000000 in
theorem U_X1_thrownWith_37 (ok : zw_Ok E) (hI : ∀ i, i < 48 → i ∈ E.2.2.1) (g : zw_G p E (zw_A E) s m args c RX1 cX1_thrownWith 3) (hr : meth.sig.returnType = some .int) (hlk : meth.locks = false) {k6 : (Int32 × Int32 × zw_Hp) → Option (Int32 × zw_Hp)} (eL6 : ∀ (w : Int32 × Int32 × zw_Hp) (z : Int32 × zw_Hp), k6 w = some z → zw_V p l e s m args below meth c E mt_X1_thrownWith 3 (some (.int z.1)) z.2 6 [(0, .ref (E.2.1 30)), (1, .int w.1), (2, .int w.2.1)] [] w.2.2) :
    ∀ (x1 : Int32) (x2 : Int32) (h : zw_Hp) (z : Int32 × zw_Hp), B_X1_thrownWith_37 k6 x1 x2 h = some z → zw_V p l e s m args below meth c E mt_X1_thrownWith 3 (some (.int z.1)) z.2 37 [(0, .ref (E.2.1 30)), (1, .int x1), (2, .int x2)] [] h := by
  intro x1 x2 h z hM
  unfold B_X1_thrownWith_37 at hM
  obtain ⟨y10, e11, hM⟩ := zw_nm_ex hM
  refine zr_iinc (q := 40) (v := y10) (lv' := [(2, .int y10), (0, .ref (E.2.1 30)), (1, .int x1)]) g 2 dX1_thrownWith_37 rfl rfl (by rw [e11]; rfl) (by decide) rfl ?_
  refine zr_goto (tgt := 6) g dX1_thrownWith_40 rfl ?_
  refine zr_lv (lv' := [(0, .ref (E.2.1 30)), (1, .int x1), (2, .int y10)]) [1, 2, 0] rfl ?_
  exact eL6 _ _ hM
noncomputable def B_X1_thrownWith_6 (k6 : (Int32 × Int32 × zw_Hp) → Option (Int32 × zw_Hp)) (x1 : Int32) (x2 : Int32) (h : zw_Hp) : Option (Int32 × zw_Hp) :=
  if (4 : Int32) ≤ x2 then ((M_X3_passBeats 14 (12 : Int32) h).bind (fun z4 => some (z4.1, z4.2))) else (if ((x1 >>> (x2 &&& 31)) &&& (1 : Int32)) = 0 then (if zw_ok x2 4 = true then zw_nm (zw_up h 16 (x2).toNatClampNeg (10 : Int32)) (fun h8 => B_X1_thrownWith_37 k6 x1 x2 h8) else none) else (B_X1_thrownWith_37 k6 x1 x2 h))
set_option maxRecDepth 100000 in
set_option maxHeartbeats 4000000 in
theorem U_X1_thrownWith_6 (ok : zw_Ok E) (hI : ∀ i, i < 48 → i ∈ E.2.2.1) (g : zw_G p E (zw_A E) s m args c RX1 cX1_thrownWith 3) (hr : meth.sig.returnType = some .int) (hlk : meth.locks = false) {k6 : (Int32 × Int32 × zw_Hp) → Option (Int32 × zw_Hp)} (eL6 : ∀ (w : Int32 × Int32 × zw_Hp) (z : Int32 × zw_Hp), k6 w = some z → zw_V p l e s m args below meth c E mt_X1_thrownWith 3 (some (.int z.1)) z.2 6 [(0, .ref (E.2.1 30)), (1, .int w.1), (2, .int w.2.1)] [] w.2.2) :
    ∀ (x1 : Int32) (x2 : Int32) (h : zw_Hp) (z : Int32 × zw_Hp), B_X1_thrownWith_6 k6 x1 x2 h = some z → zw_V p l e s m args below meth c E mt_X1_thrownWith 3 (some (.int z.1)) z.2 6 [(0, .ref (E.2.1 30)), (1, .int x1), (2, .int x2)] [] h := by
  intro x1 x2 h z hM
  unfold B_X1_thrownWith_6 at hM
  refine zr_iload_n (q := 7) g 2 dX1_thrownWith_6 rfl rfl rfl ?_
  refine zr_aload_n (q := 8) g 0 dX1_thrownWith_7 rfl rfl rfl ?_
  refine zr_getr (q := 11) (k0 := 2) (j := 14) g (hI 30 (by decide)) zs_30 rfl zf_X1_19 dX1_thrownWith_8 rfl ?_
  refine zr_getr (q := 14) (k0 := 2) (j := 16) g (hI 14 (by decide)) zs_14 rfl zf_X1_68 dX1_thrownWith_11 rfl ?_
  refine zr_alen (q := 15) (v := (4 : Int32)) g (hI 16 (by decide)) zs_16 rfl dX1_thrownWith_14 rfl ?_
  refine zr_icmp_ge (q := 18) (tgt := 43) g dX1_thrownWith_15 rfl rfl (fun c3 => ?_) (fun c3 => ?_)
  · replace hM := zw_ift c3 hM
    refine zr_aload_n (q := 44) g 0 dX1_thrownWith_43 rfl rfl rfl ?_
    refine zr_getr (q := 47) (k0 := 2) (j := 14) g (hI 30 (by decide)) zs_30 rfl zf_X1_19 dX1_thrownWith_44 rfl ?_
    refine zr_bipush (q := 49) (v := (12 : Int32)) g dX1_thrownWith_47 rfl (by decide) ?_
    obtain ⟨z4, q5, hM⟩ := zw_bd hM
    refine zr_callV (q := 52) (As := [.int (12 : Int32)]) (rest := []) (st' := [.int z4.1]) (i := 14) g (R_X3_passBeats (Or.inr rfl) ok hI q5) zv_X3_passBeats zl_X1_31 (hI 14 (by decide)) zs_14 zc_X3.1 dX1_thrownWith_49 rfl rfl ⟨Nat.le_of_ble_eq_true rfl, Nat.le_of_ble_eq_true rfl⟩ ⟨Nat.zero_le _, Nat.zero_le _⟩ (Nat.le_of_ble_eq_true rfl) rfl rfl ?_
    cases hM
    exact zr_iret g hr hlk dX1_thrownWith_52 rfl rfl
  · replace hM := zw_iff c3 hM
    refine zr_iload_n (q := 19) g 1 dX1_thrownWith_18 rfl rfl rfl ?_
    refine zr_iload_n (q := 20) g 2 dX1_thrownWith_19 rfl rfl rfl ?_
    refine zr_ishr (q := 21) g dX1_thrownWith_20 rfl ?_
    refine zr_iconst (q := 22) (v := (1 : Int32)) g dX1_thrownWith_21 rfl (by decide) ?_
    refine zr_iand (q := 23) g dX1_thrownWith_22 rfl ?_
    refine zr_if_ne (q := 26) (tgt := 37) g dX1_thrownWith_23 rfl rfl (fun c6 => ?_) (fun c6 => ?_)
    · replace hM := zw_iff c6 hM
      exact U_X1_thrownWith_37 ok hI g hr hlk eL6 _ _ _ _ hM
    · replace hM := zw_ift c6 hM
      refine zr_aload_n (q := 27) g 0 dX1_thrownWith_26 rfl rfl rfl ?_
      refine zr_getr (q := 30) (k0 := 2) (j := 14) g (hI 30 (by decide)) zs_30 rfl zf_X1_19 dX1_thrownWith_27 rfl ?_
      refine zr_getr (q := 33) (k0 := 2) (j := 16) g (hI 14 (by decide)) zs_14 rfl zf_X1_68 dX1_thrownWith_30 rfl ?_
      refine zr_iload_n (q := 34) g 2 dX1_thrownWith_33 rfl rfl rfl ?_
      refine zr_bipush (q := 36) (v := (10 : Int32)) g dX1_thrownWith_34 rfl (by decide) ?_
      obtain ⟨c7, hM⟩ := zw_gd hM
      obtain ⟨h8, e9, hM⟩ := zw_nm_ex hM
      refine zr_iast (q := 37) (h' := h8) g (hI 16 (by decide)) zs_16 c7 dX1_thrownWith_36 rfl e9 ?_
      exact U_X1_thrownWith_37 ok hI g hr hlk eL6 _ _ _ _ hM
noncomputable def L_X1_thrownWith_6 (w : Int32 × Int32 × zw_Hp) : Option (Int32 × zw_Hp) :=
  zw_it (fun (k6 : (Int32 × Int32 × zw_Hp) → Option (Int32 × zw_Hp)) (w : Int32 × Int32 × zw_Hp) => B_X1_thrownWith_6 k6 (w.1) (w.2.1) (w.2.2)) 600 w
theorem UL_X1_thrownWith_6 (ok : zw_Ok E) (hI : ∀ i, i < 48 → i ∈ E.2.2.1) (g : zw_G p E (zw_A E) s m args c RX1 cX1_thrownWith 3) (hr : meth.sig.returnType = some .int) (hlk : meth.locks = false) :
    ∀ (w : Int32 × Int32 × zw_Hp) (z : Int32 × zw_Hp), L_X1_thrownWith_6 w = some z → zw_V p l e s m args below meth c E mt_X1_thrownWith 3 (some (.int z.1)) z.2 6 [(0, .ref (E.2.1 30)), (1, .int w.1), (2, .int w.2.1)] [] w.2.2 :=
  fun w z hM => zw_it_ind (P := fun (w : Int32 × Int32 × zw_Hp) (z : Int32 × zw_Hp) => zw_V p l e s m args below meth c E mt_X1_thrownWith 3 (some (.int z.1)) z.2 6 [(0, .ref (E.2.1 30)), (1, .int w.1), (2, .int w.2.1)] [] w.2.2) (fun k e w z hM => U_X1_thrownWith_6 ok hI g hr hlk e _ _ _ _ hM) 600 w z hM
noncomputable def M_X1_thrownWith (x1 : Int32) (h : zw_Hp) : Option (Int32 × zw_Hp) :=
  (M_X1_begin h).bind (fun z1 => L_X1_thrownWith_6 (x1, (0 : Int32), z1))
set_option maxRecDepth 100000 in
set_option maxHeartbeats 4000000 in
theorem R_X1_thrownWith (ok : zw_Ok E) (hI : ∀ i, i < 48 → i ∈ E.2.2.1) {x1 : Int32} {h : zw_Hp} {z : Int32 × zw_Hp} (hM : M_X1_thrownWith x1 h = some z) : zw_Ct l E mt_X1_thrownWith [.ref (E.2.1 30), .int x1] h (some (.int z.1)) z.2 := by
  unfold M_X1_thrownWith at hM
  refine zw_ct (lv0 := [(0, .ref (E.2.1 30)), (1, .int x1)]) ok (by decide) rfl (Nat.le_of_ble_eq_true rfl) (fun p e s m args below meth c g hr hlk => ?_)
  replace g : zw_G p E (zw_A E) s m args c RX1 cX1_thrownWith 3 := g
  show zw_V p l e s m args below meth c E mt_X1_thrownWith 3 (some (.int z.1)) z.2 0 [(0, .ref (E.2.1 30)), (1, .int x1)] [] h
  refine zr_aload_n (q := 1) g 0 dX1_thrownWith_0 rfl rfl rfl ?_
  obtain ⟨z1, q2, hM⟩ := zw_bd hM
  refine zr_callV (q := 4) (As := []) (rest := []) (st' := []) (i := 30) g (R_X1_begin ok hI q2) zv_X1_begin zl_X1_28 (hI 30 (by decide)) zs_30 zc_X1.1 dX1_thrownWith_1 rfl rfl ⟨Nat.le_of_ble_eq_true rfl, Nat.le_of_ble_eq_true rfl⟩ ⟨Nat.zero_le _, Nat.zero_le _⟩ (Nat.le_of_ble_eq_true rfl) rfl rfl ?_
  refine zr_iconst (q := 5) (v := (0 : Int32)) g dX1_thrownWith_4 rfl (by decide) ?_
  refine zr_istore_n (q := 6) (lv' := [(2, .int (0 : Int32)), (0, .ref (E.2.1 30)), (1, .int x1)]) g dX1_thrownWith_5 rfl rfl (by decide) rfl ?_
  refine zr_lv (lv' := [(0, .ref (E.2.1 30)), (1, .int x1), (2, .int (0 : Int32))]) [1, 2, 0] rfl ?_
  exact UL_X1_thrownWith_6 ok hI g hr hlk _ _ hM
noncomputable def B_X1_gainOverOrders_81 (k4 : (Int32 × Int32 × Int32 × zw_Hp) → Option (Int32 × zw_Hp)) (x1 : Int32) (x2 : Int32) (x3 : Int32) (h : zw_Hp) : Option (Int32 × zw_Hp) :=
  zw_nm (x3 + (1 : Int32)) (fun y18 => k4 (x1, x2, y18, h))
set_option maxRecDepth 100000 in
set_option maxHeartbeats 4000000 in
theorem U_X1_gainOverOrders_81 (ok : zw_Ok E) (hI : ∀ i, i < 48 → i ∈ E.2.2.1) (g : zw_G p E (zw_A E) s m args c RX1 cX1_gainOverOrders 6) (hr : meth.sig.returnType = some .int) (hlk : meth.locks = false) {k4 : (Int32 × Int32 × Int32 × zw_Hp) → Option (Int32 × zw_Hp)} (eL4 : ∀ (w : Int32 × Int32 × Int32 × zw_Hp) (z : Int32 × zw_Hp), k4 w = some z → zw_V p l e s m args below meth c E mt_X1_gainOverOrders 6 (some (.int z.1)) z.2 4 [(0, .ref (E.2.1 30)), (1, .int w.1), (2, .int w.2.1), (3, .int w.2.2.1)] [] w.2.2.2) :
    ∀ (x1 : Int32) (x2 : Int32) (x3 : Int32) (h : zw_Hp) (z : Int32 × zw_Hp), B_X1_gainOverOrders_81 k4 x1 x2 x3 h = some z → zw_V p l e s m args below meth c E mt_X1_gainOverOrders 6 (some (.int z.1)) z.2 81 [(0, .ref (E.2.1 30)), (1, .int x1), (2, .int x2), (3, .int x3)] [] h := by
  intro x1 x2 x3 h z hM
  unfold B_X1_gainOverOrders_81 at hM
  obtain ⟨y18, e19, hM⟩ := zw_nm_ex hM
  refine zr_iinc (q := 84) (v := y18) (lv' := [(3, .int y18), (0, .ref (E.2.1 30)), (1, .int x1), (2, .int x2)]) g 3 dX1_gainOverOrders_81 rfl rfl (by rw [e19]; rfl) (by decide) rfl ?_
  refine zr_goto (tgt := 4) g dX1_gainOverOrders_84 rfl ?_
  refine zr_lv (lv' := [(0, .ref (E.2.1 30)), (1, .int x1), (2, .int x2), (3, .int y18)]) [1, 2, 3, 0] rfl ?_
  exact eL4 _ _ hM
noncomputable def B_X1_gainOverOrders_4 (k4 : (Int32 × Int32 × Int32 × zw_Hp) → Option (Int32 × zw_Hp)) (x1 : Int32) (x2 : Int32) (x3 : Int32) (h : zw_Hp) : Option (Int32 × zw_Hp) :=
  if ((1 : Int32) <<< ((h.1 6 3) &&& 31)) ≤ x3 then (some (x2, h)) else (if (16 : Int32) ≤ x3 then (some (x2, h)) else (if ((x3 >>> (x1 &&& 31)) &&& (1 : Int32)) = 0 then ((M_J6_bitCount_0f7a4 x3 h).bind (fun z4 => (M_X8_factorial z4 h).bind (fun z6 => (M_X8_factorial (((h.1 6 3) - (1 : Int32)) - z4) h).bind (fun z8 => zw_nm (z6 * z8) (fun y10 => (M_X1_thrownWith (x3 ||| ((1 : Int32) <<< (x1 &&& 31))) h).bind (fun z12 => (M_X1_thrownWith x3 z12.2).bind (fun z14 => zw_nm (x2 + (y10 * (z12.1 - z14.1))) (fun y16 => B_X1_gainOverOrders_81 k4 x1 y16 x3 z14.2)))))))) else (B_X1_gainOverOrders_81 k4 x1 x2 x3 h)))
set_option maxRecDepth 100000 in
set_option maxHeartbeats 4000000 in
theorem U_X1_gainOverOrders_4 (ok : zw_Ok E) (hI : ∀ i, i < 48 → i ∈ E.2.2.1) (g : zw_G p E (zw_A E) s m args c RX1 cX1_gainOverOrders 6) (hr : meth.sig.returnType = some .int) (hlk : meth.locks = false) {k4 : (Int32 × Int32 × Int32 × zw_Hp) → Option (Int32 × zw_Hp)} (eL4 : ∀ (w : Int32 × Int32 × Int32 × zw_Hp) (z : Int32 × zw_Hp), k4 w = some z → zw_V p l e s m args below meth c E mt_X1_gainOverOrders 6 (some (.int z.1)) z.2 4 [(0, .ref (E.2.1 30)), (1, .int w.1), (2, .int w.2.1), (3, .int w.2.2.1)] [] w.2.2.2) :
    ∀ (x1 : Int32) (x2 : Int32) (x3 : Int32) (h : zw_Hp) (z : Int32 × zw_Hp), B_X1_gainOverOrders_4 k4 x1 x2 x3 h = some z → zw_V p l e s m args below meth c E mt_X1_gainOverOrders 6 (some (.int z.1)) z.2 4 [(0, .ref (E.2.1 30)), (1, .int x1), (2, .int x2), (3, .int x3)] [] h := by
  intro x1 x2 x3 h z hM
  unfold B_X1_gainOverOrders_4 at hM
  refine zr_iload_n (q := 5) g 3 dX1_gainOverOrders_4 rfl rfl rfl ?_
  refine zr_iconst (q := 6) (v := (1 : Int32)) g dX1_gainOverOrders_5 rfl (by decide) ?_
  refine zr_aload_n (q := 7) g 0 dX1_gainOverOrders_6 rfl rfl rfl ?_
  refine zr_getr (q := 10) (k0 := 0) (j := 6) g (hI 30 (by decide)) zs_30 rfl zf_X1_9 dX1_gainOverOrders_7 rfl ?_
  refine zr_geti (q := 13) (k0 := 3) g (hI 6 (by decide)) zs_6 rfl zf_X1_52 dX1_gainOverOrders_10 rfl ?_
  refine zr_ishl (q := 14) g dX1_gainOverOrders_13 rfl ?_
  refine zr_icmp_ge (q := 17) (tgt := 87) g dX1_gainOverOrders_14 rfl rfl (fun c1 => ?_) (fun c1 => ?_)
  · replace hM := zw_ift c1 hM
    refine zr_iload_n (q := 88) g 2 dX1_gainOverOrders_87 rfl rfl rfl ?_
    cases hM
    exact zr_iret g hr hlk dX1_gainOverOrders_88 rfl rfl
  · replace hM := zw_iff c1 hM
    refine zr_iload_n (q := 18) g 3 dX1_gainOverOrders_17 rfl rfl rfl ?_
    refine zr_bipush (q := 20) (v := (16 : Int32)) g dX1_gainOverOrders_18 rfl (by decide) ?_
    refine zr_icmp_ge (q := 23) (tgt := 87) g dX1_gainOverOrders_20 rfl rfl (fun c2 => ?_) (fun c2 => ?_)
    · replace hM := zw_ift c2 hM
      refine zr_iload_n (q := 88) g 2 dX1_gainOverOrders_87 rfl rfl rfl ?_
      cases hM
      exact zr_iret g hr hlk dX1_gainOverOrders_88 rfl rfl
    · replace hM := zw_iff c2 hM
      refine zr_iload_n (q := 24) g 3 dX1_gainOverOrders_23 rfl rfl rfl ?_
      refine zr_iload_n (q := 25) g 1 dX1_gainOverOrders_24 rfl rfl rfl ?_
      refine zr_ishr (q := 26) g dX1_gainOverOrders_25 rfl ?_
      refine zr_iconst (q := 27) (v := (1 : Int32)) g dX1_gainOverOrders_26 rfl (by decide) ?_
      refine zr_iand (q := 28) g dX1_gainOverOrders_27 rfl ?_
      refine zr_if_ne (q := 31) (tgt := 81) g dX1_gainOverOrders_28 rfl rfl (fun c3 => ?_) (fun c3 => ?_)
      · replace hM := zw_iff c3 hM
        exact U_X1_gainOverOrders_81 ok hI g hr hlk eL4 _ _ _ _ _ hM
      · replace hM := zw_ift c3 hM
        refine zr_iload_n (q := 32) g 3 dX1_gainOverOrders_31 rfl rfl rfl ?_
        obtain ⟨z4, q5, hM⟩ := zw_bd hM
        refine zr_callS (q := 35) (As := [.int x3]) (rest := []) (st' := [.int z4]) g (R_J6_bitCount_0f7a4 ok hI q5) zv_J6_bitCount_0f7a4 zl_X1_57 dX1_gainOverOrders_32 rfl rfl ⟨Nat.le_of_ble_eq_true rfl, Nat.le_of_ble_eq_true rfl⟩ ⟨Nat.zero_le _, Nat.zero_le _⟩ (Nat.le_of_ble_eq_true rfl) rfl rfl ?_
        refine zr_istore (q := 37) (lv' := [(4, .int z4), (0, .ref (E.2.1 30)), (1, .int x1), (2, .int x2), (3, .int x3)]) g dX1_gainOverOrders_35 rfl (by decide) rfl ?_
        refine zr_iload (q := 39) g 0 dX1_gainOverOrders_37 rfl rfl ?_
        obtain ⟨z6, q7, hM⟩ := zw_bd hM
        refine zr_callN (q := 42) (As := [.int z4]) (rest := []) (st' := [.int z6]) g (R_X8_factorial ok hI q7) zv_X8_factorial zl_X1_62 dX1_gainOverOrders_39 rfl rfl ⟨Nat.le_of_ble_eq_true rfl, Nat.le_of_ble_eq_true rfl⟩ ⟨Nat.zero_le _, Nat.zero_le _⟩ (Nat.le_of_ble_eq_true rfl) rfl rfl ?_
        refine zr_aload_n (q := 43) g 1 dX1_gainOverOrders_42 rfl rfl rfl ?_
        refine zr_getr (q := 46) (k0 := 0) (j := 6) g (hI 30 (by decide)) zs_30 rfl zf_X1_9 dX1_gainOverOrders_43 rfl ?_
        refine zr_geti (q := 49) (k0 := 3) g (hI 6 (by decide)) zs_6 rfl zf_X1_52 dX1_gainOverOrders_46 rfl ?_
        refine zr_iconst (q := 50) (v := (1 : Int32)) g dX1_gainOverOrders_49 rfl (by decide) ?_
        refine zr_isub (q := 51) g dX1_gainOverOrders_50 rfl ?_
        refine zr_iload (q := 53) g 0 dX1_gainOverOrders_51 rfl rfl ?_
        refine zr_isub (q := 54) g dX1_gainOverOrders_53 rfl ?_
        obtain ⟨z8, q9, hM⟩ := zw_bd hM
        refine zr_callN (q := 57) (As := [.int (((h.1 6 3) - (1 : Int32)) - z4)]) (rest := [.int z6]) (st' := [.int z8, .int z6]) g (R_X8_factorial ok hI q9) zv_X8_factorial zl_X1_62 dX1_gainOverOrders_54 rfl rfl ⟨Nat.le_of_ble_eq_true rfl, Nat.le_of_ble_eq_true rfl⟩ ⟨Nat.zero_le _, Nat.zero_le _⟩ (Nat.le_of_ble_eq_true rfl) rfl rfl ?_
        refine zr_imul (q := 58) g dX1_gainOverOrders_57 rfl ?_
        obtain ⟨y10, e11, hM⟩ := zw_nm_ex hM
        refine zr_nmi e11 ?_
        refine zr_istore (q := 60) (lv' := [(5, .int y10), (4, .int z4), (0, .ref (E.2.1 30)), (1, .int x1), (2, .int x2), (3, .int x3)]) g dX1_gainOverOrders_58 rfl (by decide) rfl ?_
        refine zr_iload_n (q := 61) g 4 dX1_gainOverOrders_60 rfl rfl rfl ?_
        refine zr_iload (q := 63) g 0 dX1_gainOverOrders_61 rfl rfl ?_
        refine zr_aload_n (q := 64) g 2 dX1_gainOverOrders_63 rfl rfl rfl ?_
        refine zr_iload_n (q := 65) g 5 dX1_gainOverOrders_64 rfl rfl rfl ?_
        refine zr_iconst (q := 66) (v := (1 : Int32)) g dX1_gainOverOrders_65 rfl (by decide) ?_
        refine zr_iload_n (q := 67) g 3 dX1_gainOverOrders_66 rfl rfl rfl ?_
        refine zr_ishl (q := 68) g dX1_gainOverOrders_67 rfl ?_
        refine zr_ior (q := 69) g dX1_gainOverOrders_68 rfl ?_
        obtain ⟨z12, q13, hM⟩ := zw_bd hM
        refine zr_callV (q := 72) (As := [.int (x3 ||| ((1 : Int32) <<< (x1 &&& 31)))]) (rest := [.int y10, .int x2]) (st' := [.int z12.1, .int y10, .int x2]) (i := 30) g (R_X1_thrownWith ok hI q13) zv_X1_thrownWith zl_X1_65 (hI 30 (by decide)) zs_30 zc_X1.1 dX1_gainOverOrders_69 rfl rfl ⟨Nat.le_of_ble_eq_true rfl, Nat.le_of_ble_eq_true rfl⟩ ⟨Nat.zero_le _, Nat.zero_le _⟩ (Nat.le_of_ble_eq_true rfl) rfl rfl ?_
        refine zr_aload_n (q := 73) g 2 dX1_gainOverOrders_72 rfl rfl rfl ?_
        refine zr_iload_n (q := 74) g 5 dX1_gainOverOrders_73 rfl rfl rfl ?_
        obtain ⟨z14, q15, hM⟩ := zw_bd hM
        refine zr_callV (q := 77) (As := [.int x3]) (rest := [.int z12.1, .int y10, .int x2]) (st' := [.int z14.1, .int z12.1, .int y10, .int x2]) (i := 30) g (R_X1_thrownWith ok hI q15) zv_X1_thrownWith zl_X1_65 (hI 30 (by decide)) zs_30 zc_X1.1 dX1_gainOverOrders_74 rfl rfl ⟨Nat.le_of_ble_eq_true rfl, Nat.le_of_ble_eq_true rfl⟩ ⟨Nat.zero_le _, Nat.zero_le _⟩ (Nat.le_of_ble_eq_true rfl) rfl rfl ?_
        refine zr_isub (q := 78) g dX1_gainOverOrders_77 rfl ?_
        refine zr_imul (q := 79) g dX1_gainOverOrders_78 rfl ?_
        refine zr_iadd (q := 80) g dX1_gainOverOrders_79 rfl ?_
        obtain ⟨y16, e17, hM⟩ := zw_nm_ex hM
        refine zr_nmi e17 ?_
        refine zr_istore_n (q := 81) (lv' := [(2, .int y16), (5, .int y10), (4, .int z4), (0, .ref (E.2.1 30)), (1, .int x1), (3, .int x3)]) g dX1_gainOverOrders_80 rfl rfl (by decide) rfl ?_
        refine zr_lv (lv' := [(0, .ref (E.2.1 30)), (1, .int x1), (2, .int y16), (3, .int x3)]) [3, 4, 0, 5] rfl ?_
        exact U_X1_gainOverOrders_81 ok hI g hr hlk eL4 _ _ _ _ _ hM
noncomputable def L_X1_gainOverOrders_4 (w : Int32 × Int32 × Int32 × zw_Hp) : Option (Int32 × zw_Hp) :=
  zw_it (fun (k4 : (Int32 × Int32 × Int32 × zw_Hp) → Option (Int32 × zw_Hp)) (w : Int32 × Int32 × Int32 × zw_Hp) => B_X1_gainOverOrders_4 k4 (w.1) (w.2.1) (w.2.2.1) (w.2.2.2)) 600 w
theorem UL_X1_gainOverOrders_4 (ok : zw_Ok E) (hI : ∀ i, i < 48 → i ∈ E.2.2.1) (g : zw_G p E (zw_A E) s m args c RX1 cX1_gainOverOrders 6) (hr : meth.sig.returnType = some .int) (hlk : meth.locks = false) :
    ∀ (w : Int32 × Int32 × Int32 × zw_Hp) (z : Int32 × zw_Hp), L_X1_gainOverOrders_4 w = some z → zw_V p l e s m args below meth c E mt_X1_gainOverOrders 6 (some (.int z.1)) z.2 4 [(0, .ref (E.2.1 30)), (1, .int w.1), (2, .int w.2.1), (3, .int w.2.2.1)] [] w.2.2.2 :=
  fun w z hM => zw_it_ind (P := fun (w : Int32 × Int32 × Int32 × zw_Hp) (z : Int32 × zw_Hp) => zw_V p l e s m args below meth c E mt_X1_gainOverOrders 6 (some (.int z.1)) z.2 4 [(0, .ref (E.2.1 30)), (1, .int w.1), (2, .int w.2.1), (3, .int w.2.2.1)] [] w.2.2.2) (fun k e w z hM => U_X1_gainOverOrders_4 ok hI g hr hlk e _ _ _ _ _ hM) 600 w z hM
noncomputable def M_X1_gainOverOrders (x1 : Int32) (h : zw_Hp) : Option (Int32 × zw_Hp) :=
  L_X1_gainOverOrders_4 (x1, (0 : Int32), (0 : Int32), h)
set_option maxRecDepth 100000 in
set_option maxHeartbeats 4000000 in
theorem R_X1_gainOverOrders (ok : zw_Ok E) (hI : ∀ i, i < 48 → i ∈ E.2.2.1) {x1 : Int32} {h : zw_Hp} {z : Int32 × zw_Hp} (hM : M_X1_gainOverOrders x1 h = some z) : zw_Ct l E mt_X1_gainOverOrders [.ref (E.2.1 30), .int x1] h (some (.int z.1)) z.2 := by
  unfold M_X1_gainOverOrders at hM
  refine zw_ct (lv0 := [(0, .ref (E.2.1 30)), (1, .int x1)]) ok (by decide) rfl (Nat.le_of_ble_eq_true rfl) (fun p e s m args below meth c g hr hlk => ?_)
  replace g : zw_G p E (zw_A E) s m args c RX1 cX1_gainOverOrders 6 := g
  show zw_V p l e s m args below meth c E mt_X1_gainOverOrders 6 (some (.int z.1)) z.2 0 [(0, .ref (E.2.1 30)), (1, .int x1)] [] h
  refine zr_iconst (q := 1) (v := (0 : Int32)) g dX1_gainOverOrders_0 rfl (by decide) ?_
  refine zr_istore_n (q := 2) (lv' := [(2, .int (0 : Int32)), (0, .ref (E.2.1 30)), (1, .int x1)]) g dX1_gainOverOrders_1 rfl rfl (by decide) rfl ?_
  refine zr_iconst (q := 3) (v := (0 : Int32)) g dX1_gainOverOrders_2 rfl (by decide) ?_
  refine zr_istore_n (q := 4) (lv' := [(3, .int (0 : Int32)), (2, .int (0 : Int32)), (0, .ref (E.2.1 30)), (1, .int x1)]) g dX1_gainOverOrders_3 rfl rfl (by decide) rfl ?_
  refine zr_lv (lv' := [(0, .ref (E.2.1 30)), (1, .int x1), (2, .int (0 : Int32)), (3, .int (0 : Int32))]) [2, 3, 1, 0] rfl ?_
  exact UL_X1_gainOverOrders_4 ok hI g hr hlk _ _ hM
noncomputable def B_X8_commonDivisor_7 (h : zw_Hp) (k7 : (Int32 × Int32 × Int32) → Option (Int32)) (x2 : Int32) (x3 : Int32) (x4 : Int32) : Option (Int32) :=
  if (64 : Int32) ≤ x4 then (some x2) else (if x3 = 0 then (some x2) else (if ¬ x3 = 0 then zw_nm (x2 - x2 / x3 * x3) (fun y4 => zw_nm (x4 + (1 : Int32)) (fun y6 => k7 (x3, y4, y6))) else none))
set_option maxRecDepth 100000 in
set_option maxHeartbeats 4000000 in
theorem U_X8_commonDivisor_7 {h : zw_Hp} (ok : zw_Ok E) (hI : ∀ i, i < 48 → i ∈ E.2.2.1) (g : zw_G p E (zw_A E) s m args c RX8 cX8_commonDivisor 6) (hr : meth.sig.returnType = some .int) (hlk : meth.locks = false) {k7 : (Int32 × Int32 × Int32) → Option (Int32)} (eL7 : ∀ (w : Int32 × Int32 × Int32) (z : Int32), k7 w = some z → zw_V p l e s m args below meth c E mt_X8_commonDivisor 6 (some (.int z)) h 7 [(2, .int w.1), (3, .int w.2.1), (4, .int w.2.2)] [] h) :
    ∀ (x2 : Int32) (x3 : Int32) (x4 : Int32) (z : Int32), B_X8_commonDivisor_7 h k7 x2 x3 x4 = some z → zw_V p l e s m args below meth c E mt_X8_commonDivisor 6 (some (.int z)) h 7 [(2, .int x2), (3, .int x3), (4, .int x4)] [] h := by
  intro x2 x3 x4 z hM
  unfold B_X8_commonDivisor_7 at hM
  refine zr_iload (q := 9) g 2 dX8_commonDivisor_7 rfl rfl ?_
  refine zr_bipush (q := 11) (v := (64 : Int32)) g dX8_commonDivisor_9 rfl (by decide) ?_
  refine zr_icmp_ge (q := 14) (tgt := 34) g dX8_commonDivisor_11 rfl rfl (fun c1 => ?_) (fun c1 => ?_)
  · replace hM := zw_ift c1 hM
    refine zr_iload_n (q := 35) g 0 dX8_commonDivisor_34 rfl rfl rfl ?_
    cases hM
    exact zr_iret g hr hlk dX8_commonDivisor_35 rfl rfl
  · replace hM := zw_iff c1 hM
    refine zr_iload_n (q := 15) g 1 dX8_commonDivisor_14 rfl rfl rfl ?_
    refine zr_if_eq (q := 18) (tgt := 34) g dX8_commonDivisor_15 rfl rfl (fun c2 => ?_) (fun c2 => ?_)
    · replace hM := zw_ift c2 hM
      refine zr_iload_n (q := 35) g 0 dX8_commonDivisor_34 rfl rfl rfl ?_
      cases hM
      exact zr_iret g hr hlk dX8_commonDivisor_35 rfl rfl
    · replace hM := zw_iff c2 hM
      refine zr_iload_n (q := 19) g 0 dX8_commonDivisor_18 rfl rfl rfl ?_
      refine zr_iload_n (q := 20) g 1 dX8_commonDivisor_19 rfl rfl rfl ?_
      obtain ⟨c3, hM⟩ := zw_gp hM
      refine zr_irem (q := 21) g dX8_commonDivisor_20 rfl c3 ?_
      obtain ⟨y4, e5, hM⟩ := zw_nm_ex hM
      refine zr_nmi e5 ?_
      refine zr_istore (q := 23) (lv' := [(5, .int y4), (2, .int x2), (3, .int x3), (4, .int x4)]) g dX8_commonDivisor_21 rfl (by decide) rfl ?_
      refine zr_iload_n (q := 24) g 2 dX8_commonDivisor_23 rfl rfl rfl ?_
      refine zr_istore_n (q := 25) (lv' := [(2, .int x3), (5, .int y4), (3, .int x3), (4, .int x4)]) g dX8_commonDivisor_24 rfl rfl (by decide) rfl ?_
      refine zr_iload (q := 27) g 1 dX8_commonDivisor_25 rfl rfl ?_
      refine zr_istore_n (q := 28) (lv' := [(3, .int y4), (2, .int x3), (5, .int y4), (4, .int x4)]) g dX8_commonDivisor_27 rfl rfl (by decide) rfl ?_
      obtain ⟨y6, e7, hM⟩ := zw_nm_ex hM
      refine zr_iinc (q := 31) (v := y6) (lv' := [(4, .int y6), (3, .int y4), (2, .int x3), (5, .int y4)]) g 3 dX8_commonDivisor_28 rfl rfl (by rw [e7]; rfl) (by decide) rfl ?_
      refine zr_goto (tgt := 7) g dX8_commonDivisor_31 rfl ?_
      refine zr_lv (lv' := [(2, .int x3), (3, .int y4), (4, .int y6)]) [2, 1, 0] rfl ?_
      exact eL7 _ _ hM
noncomputable def L_X8_commonDivisor_7 (h : zw_Hp) (w : Int32 × Int32 × Int32) : Option (Int32) :=
  zw_it (fun (k7 : (Int32 × Int32 × Int32) → Option (Int32)) (w : Int32 × Int32 × Int32) => B_X8_commonDivisor_7 h k7 (w.1) (w.2.1) (w.2.2)) 600 w
theorem UL_X8_commonDivisor_7 {h : zw_Hp} (ok : zw_Ok E) (hI : ∀ i, i < 48 → i ∈ E.2.2.1) (g : zw_G p E (zw_A E) s m args c RX8 cX8_commonDivisor 6) (hr : meth.sig.returnType = some .int) (hlk : meth.locks = false) :
    ∀ (w : Int32 × Int32 × Int32) (z : Int32), L_X8_commonDivisor_7 h w = some z → zw_V p l e s m args below meth c E mt_X8_commonDivisor 6 (some (.int z)) h 7 [(2, .int w.1), (3, .int w.2.1), (4, .int w.2.2)] [] h :=
  fun w z hM => zw_it_ind (P := fun (w : Int32 × Int32 × Int32) (z : Int32) => zw_V p l e s m args below meth c E mt_X8_commonDivisor 6 (some (.int z)) h 7 [(2, .int w.1), (3, .int w.2.1), (4, .int w.2.2)] [] h) (fun k e w z hM => U_X8_commonDivisor_7 ok hI g hr hlk e _ _ _ _ hM) 600 w z hM
noncomputable def M_X8_commonDivisor (x0 : Int32) (x1 : Int32) (h : zw_Hp) : Option (Int32) :=
  L_X8_commonDivisor_7 h (x0, x1, (0 : Int32))
set_option maxRecDepth 100000 in
set_option maxHeartbeats 4000000 in
theorem R_X8_commonDivisor (ok : zw_Ok E) (hI : ∀ i, i < 48 → i ∈ E.2.2.1) {x0 : Int32} {x1 : Int32} {h : zw_Hp} {z : Int32} (hM : M_X8_commonDivisor x0 x1 h = some z) : zw_Ct l E mt_X8_commonDivisor [.int x0, .int x1] h (some (.int z)) h := by
  unfold M_X8_commonDivisor at hM
  refine zw_ct (lv0 := [(0, .int x0), (1, .int x1)]) ok (by decide) rfl (Nat.le_of_ble_eq_true rfl) (fun p e s m args below meth c g hr hlk => ?_)
  replace g : zw_G p E (zw_A E) s m args c RX8 cX8_commonDivisor 6 := g
  show zw_V p l e s m args below meth c E mt_X8_commonDivisor 6 (some (.int z)) h 0 [(0, .int x0), (1, .int x1)] [] h
  refine zr_iload_n (q := 1) g 0 dX8_commonDivisor_0 rfl rfl rfl ?_
  refine zr_istore_n (q := 2) (lv' := [(2, .int x0), (0, .int x0), (1, .int x1)]) g dX8_commonDivisor_1 rfl rfl (by decide) rfl ?_
  refine zr_iload_n (q := 3) g 2 dX8_commonDivisor_2 rfl rfl rfl ?_
  refine zr_istore_n (q := 4) (lv' := [(3, .int x1), (2, .int x0), (0, .int x0), (1, .int x1)]) g dX8_commonDivisor_3 rfl rfl (by decide) rfl ?_
  refine zr_iconst (q := 5) (v := (0 : Int32)) g dX8_commonDivisor_4 rfl (by decide) ?_
  refine zr_istore (q := 7) (lv' := [(4, .int (0 : Int32)), (3, .int x1), (2, .int x0), (0, .int x0), (1, .int x1)]) g dX8_commonDivisor_5 rfl (by decide) rfl ?_
  refine zr_lv (lv' := [(2, .int x0), (3, .int x1), (4, .int (0 : Int32))]) [2, 1, 0] rfl ?_
  exact UL_X8_commonDivisor_7 ok hI g hr hlk _ _ hM
noncomputable def M_X8_leastTerm (x0 : Int32) (x1 : Int32) (x2 : Int32) (h : zw_Hp) : Option (Int32) :=
  (M_X8_commonDivisor (if 0 ≤ x0 then x0 else 0 - x0) x1 h).bind (fun z1 => if z1 = 0 then (some (0 : Int32)) else (if x2 = 0 then (if ¬ z1 = 0 then some (x1 / z1) else none) else (if ¬ z1 = 0 then some (x0 / z1) else none)))
set_option maxRecDepth 100000 in
set_option maxHeartbeats 4000000 in
theorem R_X8_leastTerm (ok : zw_Ok E) (hI : ∀ i, i < 48 → i ∈ E.2.2.1) {x0 : Int32} {x1 : Int32} {x2 : Int32} {h : zw_Hp} {z : Int32} (hM : M_X8_leastTerm x0 x1 x2 h = some z) : zw_Ct l E mt_X8_leastTerm [.int x0, .int x1, .int x2] h (some (.int z)) h := by
  unfold M_X8_leastTerm at hM
  refine zw_ct (lv0 := [(0, .int x0), (1, .int x1), (2, .int x2)]) ok (by decide) rfl (Nat.le_of_ble_eq_true rfl) (fun p e s m args below meth c g hr hlk => ?_)
  replace g : zw_G p E (zw_A E) s m args c RX8 cX8_leastTerm 4 := g
  show zw_V p l e s m args below meth c E mt_X8_leastTerm 4 (some (.int z)) h 0 [(0, .int x0), (1, .int x1), (2, .int x2)] [] h
  refine zr_iload_n (q := 1) g 0 dX8_leastTerm_0 rfl rfl rfl ?_
  refine zr_mabs (q := 4) g zl_X8_276 zl_mabs ⟨Nat.le_of_ble_eq_true rfl, Nat.le_of_ble_eq_true rfl⟩ ⟨Nat.zero_le _, Nat.zero_le _⟩ (Nat.le_of_ble_eq_true rfl) dX8_leastTerm_1 rfl ?_
  refine zr_iload_n (q := 5) g 1 dX8_leastTerm_4 rfl rfl rfl ?_
  obtain ⟨z1, q2, hM⟩ := zw_bd hM
  refine zr_callS (q := 8) (As := [.int (if 0 ≤ x0 then x0 else 0 - x0), .int x1]) (rest := []) (st' := [.int z1]) g (R_X8_commonDivisor ok hI q2) zv_X8_commonDivisor zl_X8_281 dX8_leastTerm_5 rfl rfl ⟨Nat.le_of_ble_eq_true rfl, Nat.le_of_ble_eq_true rfl⟩ ⟨Nat.zero_le _, Nat.zero_le _⟩ (Nat.le_of_ble_eq_true rfl) rfl rfl ?_
  refine zr_istore_n (q := 9) (lv' := [(3, .int z1), (0, .int x0), (1, .int x1), (2, .int x2)]) g dX8_leastTerm_8 rfl rfl (by decide) rfl ?_
  refine zr_iload_n (q := 10) g 0 dX8_leastTerm_9 rfl rfl rfl ?_
  refine zr_if_ne (q := 13) (tgt := 15) g dX8_leastTerm_10 rfl rfl (fun c3 => ?_) (fun c3 => ?_)
  · replace hM := zw_iff c3 hM
    refine zr_iload_n (q := 16) g 3 dX8_leastTerm_15 rfl rfl rfl ?_
    refine zr_if_eq (q := 19) (tgt := 25) g dX8_leastTerm_16 rfl rfl (fun c4 => ?_) (fun c4 => ?_)
    · replace hM := zw_ift c4 hM
      refine zr_iload_n (q := 26) g 2 dX8_leastTerm_25 rfl rfl rfl ?_
      refine zr_iload_n (q := 27) g 0 dX8_leastTerm_26 rfl rfl rfl ?_
      obtain ⟨c5, hM⟩ := zw_gp hM
      refine zr_idiv (q := 28) g dX8_leastTerm_27 rfl c5 ?_
      cases hM
      exact zr_iret g hr hlk dX8_leastTerm_28 rfl rfl
    · replace hM := zw_iff c4 hM
      refine zr_iload_n (q := 20) g 1 dX8_leastTerm_19 rfl rfl rfl ?_
      refine zr_iload_n (q := 21) g 0 dX8_leastTerm_20 rfl rfl rfl ?_
      obtain ⟨c6, hM⟩ := zw_gp hM
      refine zr_idiv (q := 22) g dX8_leastTerm_21 rfl c6 ?_
      refine zr_goto (tgt := 28) g dX8_leastTerm_22 rfl ?_
      cases hM
      exact zr_iret g hr hlk dX8_leastTerm_28 rfl rfl
  · replace hM := zw_ift c3 hM
    refine zr_iconst (q := 14) (v := (0 : Int32)) g dX8_leastTerm_13 rfl (by decide) ?_
    cases hM
    exact zr_iret g hr hlk dX8_leastTerm_14 rfl rfl
noncomputable def M_X8_share (x1 : Int32) (x2 : Int32) (h : zw_Hp) : Option (Int32 × zw_Hp) :=
  (M_X2_hasBucket 6 x1 h).bind (fun z1 => if z1 = 0 then (some ((-1 : Int32), h)) else ((M_X1_gainOverOrders x1 h).bind (fun z4 => (M_X8_factorial (z4.2.1 6 3) z4.2).bind (fun z6 => (M_X8_leastTerm z4.1 z6 x2 z4.2).bind (fun z8 => some (z8, z4.2))))))
set_option maxRecDepth 100000 in
set_option maxHeartbeats 4000000 in
theorem R_X8_share (ok : zw_Ok E) (hI : ∀ i, i < 48 → i ∈ E.2.2.1) {x1 : Int32} {x2 : Int32} {h : zw_Hp} {z : Int32 × zw_Hp} (hM : M_X8_share x1 x2 h = some z) : zw_Ct l E mt_X8_share [.ref (E.2.1 0), .int x1, .int x2] h (some (.int z.1)) z.2 := by
  unfold M_X8_share at hM
  refine zw_ct (lv0 := [(0, .ref (E.2.1 0)), (1, .int x1), (2, .int x2)]) ok (by decide) rfl (Nat.le_of_ble_eq_true rfl) (fun p e s m args below meth c g hr hlk => ?_)
  replace g : zw_G p E (zw_A E) s m args c RX8 cX8_share 3 := g
  show zw_V p l e s m args below meth c E mt_X8_share 3 (some (.int z.1)) z.2 0 [(0, .ref (E.2.1 0)), (1, .int x1), (2, .int x2)] [] h
  refine zr_aload_n (q := 1) g 0 dX8_share_0 rfl rfl rfl ?_
  refine zr_getr (q := 4) (k0 := 2) (j := 6) g (hI 0 (by decide)) zs_0 rfl zf_X8_23 dX8_share_1 rfl ?_
  refine zr_iload_n (q := 5) g 1 dX8_share_4 rfl rfl rfl ?_
  obtain ⟨z1, q2, hM⟩ := zw_bd hM
  refine zr_callV (q := 8) (As := [.int x1]) (rest := []) (st' := [.int z1]) (i := 6) g (R_X2_hasBucket (Or.inr rfl) ok hI q2) zv_X2_hasBucket zl_X8_151 (hI 6 (by decide)) zs_6 zc_X2.1 dX8_share_5 rfl rfl ⟨Nat.le_of_ble_eq_true rfl, Nat.le_of_ble_eq_true rfl⟩ ⟨Nat.zero_le _, Nat.zero_le _⟩ (Nat.le_of_ble_eq_true rfl) rfl rfl ?_
  refine zr_if_ne (q := 11) (tgt := 13) g dX8_share_8 rfl rfl (fun c3 => ?_) (fun c3 => ?_)
  · replace hM := zw_iff c3 hM
    refine zr_aload_n (q := 14) g 0 dX8_share_13 rfl rfl rfl ?_
    refine zr_getr (q := 17) (k0 := 9) (j := 30) g (hI 0 (by decide)) zs_0 rfl zf_X8_74 dX8_share_14 rfl ?_
    refine zr_iload_n (q := 18) g 1 dX8_share_17 rfl rfl rfl ?_
    obtain ⟨z4, q5, hM⟩ := zw_bd hM
    refine zr_callV (q := 21) (As := [.int x1]) (rest := []) (st' := [.int z4.1]) (i := 30) g (R_X1_gainOverOrders ok hI q5) zv_X1_gainOverOrders zl_X8_227 (hI 30 (by decide)) zs_30 zc_X1.1 dX8_share_18 rfl rfl ⟨Nat.le_of_ble_eq_true rfl, Nat.le_of_ble_eq_true rfl⟩ ⟨Nat.zero_le _, Nat.zero_le _⟩ (Nat.le_of_ble_eq_true rfl) rfl rfl ?_
    refine zr_aload_n (q := 22) g 0 dX8_share_21 rfl rfl rfl ?_
    refine zr_getr (q := 25) (k0 := 2) (j := 6) g (hI 0 (by decide)) zs_0 rfl zf_X8_23 dX8_share_22 rfl ?_
    refine zr_geti (q := 28) (k0 := 3) g (hI 6 (by decide)) zs_6 rfl zf_X8_102 dX8_share_25 rfl ?_
    obtain ⟨z6, q7, hM⟩ := zw_bd hM
    refine zr_callS (q := 31) (As := [.int (z4.2.1 6 3)]) (rest := [.int z4.1]) (st' := [.int z6, .int z4.1]) g (R_X8_factorial ok hI q7) zv_X8_factorial zl_X8_230 dX8_share_28 rfl rfl ⟨Nat.le_of_ble_eq_true rfl, Nat.le_of_ble_eq_true rfl⟩ ⟨Nat.zero_le _, Nat.zero_le _⟩ (Nat.le_of_ble_eq_true rfl) rfl rfl ?_
    refine zr_iload_n (q := 32) g 2 dX8_share_31 rfl rfl rfl ?_
    obtain ⟨z8, q9, hM⟩ := zw_bd hM
    refine zr_callS (q := 35) (As := [.int z4.1, .int z6, .int x2]) (rest := []) (st' := [.int z8]) g (R_X8_leastTerm ok hI q9) zv_X8_leastTerm zl_X8_233 dX8_share_32 rfl rfl ⟨Nat.le_of_ble_eq_true rfl, Nat.le_of_ble_eq_true rfl⟩ ⟨Nat.zero_le _, Nat.zero_le _⟩ (Nat.le_of_ble_eq_true rfl) rfl rfl ?_
    cases hM
    exact zr_iret g hr hlk dX8_share_35 rfl rfl
  · replace hM := zw_ift c3 hM
    refine zr_iconst (q := 12) (v := (-1 : Int32)) g dX8_share_11 rfl (by decide) ?_
    cases hM
    exact zr_iret g hr hlk dX8_share_12 rfl rfl
noncomputable def M_X8_see (x1 : Int32) (x2 : Int32) (x3 : Int32) (h : zw_Hp) : Option (Int32 × zw_Hp) :=
  if x1 < 0 then (some ((-2 : Int32), h)) else (if (9 : Int32) < x1 then (some ((-2 : Int32), h)) else (if x2 < 0 then (some ((-2 : Int32), h)) else (if (99 : Int32) < x2 then (some ((-2 : Int32), h)) else ((M_X8_isZeroOrOne x3 h).bind (fun z5 => if z5 = 0 then (some ((-2 : Int32), h)) else ((M_X6_add x1 x2 x3 h).bind (fun z8 => if z8.1 = 0 then (some ((-4 : Int32), z8.2)) else (some ((z8.2.1 24 3), z8.2)))))))))
set_option maxRecDepth 100000 in
set_option maxHeartbeats 4000000 in
theorem R_X8_see (ok : zw_Ok E) (hI : ∀ i, i < 48 → i ∈ E.2.2.1) {x1 : Int32} {x2 : Int32} {x3 : Int32} {h : zw_Hp} {z : Int32 × zw_Hp} (hM : M_X8_see x1 x2 x3 h = some z) : zw_Ct l E mt_X8_see [.ref (E.2.1 0), .int x1, .int x2, .int x3] h (some (.int z.1)) z.2 := by
  unfold M_X8_see at hM
  refine zw_ct (lv0 := [(0, .ref (E.2.1 0)), (1, .int x1), (2, .int x2), (3, .int x3)]) ok (by decide) rfl (Nat.le_of_ble_eq_true rfl) (fun p e s m args below meth c g hr hlk => ?_)
  replace g : zw_G p E (zw_A E) s m args c RX8 cX8_see 4 := g
  show zw_V p l e s m args below meth c E mt_X8_see 4 (some (.int z.1)) z.2 0 [(0, .ref (E.2.1 0)), (1, .int x1), (2, .int x2), (3, .int x3)] [] h
  refine zr_iload_n (q := 1) g 1 dX8_see_0 rfl rfl rfl ?_
  refine zr_if_lt (q := 4) (tgt := 27) g dX8_see_1 rfl rfl (fun c1 => ?_) (fun c1 => ?_)
  · replace hM := zw_ift c1 hM
    refine zr_bipush (q := 29) (v := (-2 : Int32)) g dX8_see_27 rfl (by decide) ?_
    cases hM
    exact zr_iret g hr hlk dX8_see_29 rfl rfl
  · replace hM := zw_iff c1 hM
    refine zr_iload_n (q := 5) g 1 dX8_see_4 rfl rfl rfl ?_
    refine zr_bipush (q := 7) (v := (9 : Int32)) g dX8_see_5 rfl (by decide) ?_
    refine zr_icmp_gt (q := 10) (tgt := 27) g dX8_see_7 rfl rfl (fun c2 => ?_) (fun c2 => ?_)
    · replace hM := zw_ift c2 hM
      refine zr_bipush (q := 29) (v := (-2 : Int32)) g dX8_see_27 rfl (by decide) ?_
      cases hM
      exact zr_iret g hr hlk dX8_see_29 rfl rfl
    · replace hM := zw_iff c2 hM
      refine zr_iload_n (q := 11) g 2 dX8_see_10 rfl rfl rfl ?_
      refine zr_if_lt (q := 14) (tgt := 27) g dX8_see_11 rfl rfl (fun c3 => ?_) (fun c3 => ?_)
      · replace hM := zw_ift c3 hM
        refine zr_bipush (q := 29) (v := (-2 : Int32)) g dX8_see_27 rfl (by decide) ?_
        cases hM
        exact zr_iret g hr hlk dX8_see_29 rfl rfl
      · replace hM := zw_iff c3 hM
        refine zr_iload_n (q := 15) g 2 dX8_see_14 rfl rfl rfl ?_
        refine zr_bipush (q := 17) (v := (99 : Int32)) g dX8_see_15 rfl (by decide) ?_
        refine zr_icmp_gt (q := 20) (tgt := 27) g dX8_see_17 rfl rfl (fun c4 => ?_) (fun c4 => ?_)
        · replace hM := zw_ift c4 hM
          refine zr_bipush (q := 29) (v := (-2 : Int32)) g dX8_see_27 rfl (by decide) ?_
          cases hM
          exact zr_iret g hr hlk dX8_see_29 rfl rfl
        · replace hM := zw_iff c4 hM
          refine zr_iload_n (q := 21) g 3 dX8_see_20 rfl rfl rfl ?_
          obtain ⟨z5, q6, hM⟩ := zw_bd hM
          refine zr_callS (q := 24) (As := [.int x3]) (rest := []) (st' := [.int z5]) g (R_X8_isZeroOrOne ok hI q6) zv_X8_isZeroOrOne zl_X8_197 dX8_see_21 rfl rfl ⟨Nat.le_of_ble_eq_true rfl, Nat.le_of_ble_eq_true rfl⟩ ⟨Nat.zero_le _, Nat.zero_le _⟩ (Nat.le_of_ble_eq_true rfl) rfl rfl ?_
          refine zr_if_ne (q := 27) (tgt := 30) g dX8_see_24 rfl rfl (fun c7 => ?_) (fun c7 => ?_)
          · replace hM := zw_iff c7 hM
            refine zr_aload_n (q := 31) g 0 dX8_see_30 rfl rfl rfl ?_
            refine zr_getr (q := 34) (k0 := 7) (j := 24) g (hI 0 (by decide)) zs_0 rfl zf_X8_58 dX8_see_31 rfl ?_
            refine zr_iload_n (q := 35) g 1 dX8_see_34 rfl rfl rfl ?_
            refine zr_iload_n (q := 36) g 2 dX8_see_35 rfl rfl rfl ?_
            refine zr_iload_n (q := 37) g 3 dX8_see_36 rfl rfl rfl ?_
            obtain ⟨z8, q9, hM⟩ := zw_bd hM
            refine zr_callV (q := 40) (As := [.int x1, .int x2, .int x3]) (rest := []) (st' := [.int z8.1]) (i := 24) g (R_X6_add ok hI q9) zv_X6_add zl_X8_237 (hI 24 (by decide)) zs_24 zc_X6.1 dX8_see_37 rfl rfl ⟨Nat.le_of_ble_eq_true rfl, Nat.le_of_ble_eq_true rfl⟩ ⟨Nat.zero_le _, Nat.zero_le _⟩ (Nat.le_of_ble_eq_true rfl) rfl rfl ?_
            refine zr_if_eq (q := 43) (tgt := 53) g dX8_see_40 rfl rfl (fun c10 => ?_) (fun c10 => ?_)
            · replace hM := zw_ift c10 hM
              refine zr_bipush (q := 55) (v := (-4 : Int32)) g dX8_see_53 rfl (by decide) ?_
              cases hM
              exact zr_iret g hr hlk dX8_see_55 rfl rfl
            · replace hM := zw_iff c10 hM
              refine zr_aload_n (q := 44) g 0 dX8_see_43 rfl rfl rfl ?_
              refine zr_getr (q := 47) (k0 := 7) (j := 24) g (hI 0 (by decide)) zs_0 rfl zf_X8_58 dX8_see_44 rfl ?_
              refine zr_geti (q := 50) (k0 := 3) g (hI 24 (by decide)) zs_24 rfl zf_X8_134 dX8_see_47 rfl ?_
              refine zr_goto (tgt := 55) g dX8_see_50 rfl ?_
              cases hM
              exact zr_iret g hr hlk dX8_see_55 rfl rfl
          · replace hM := zw_ift c7 hM
            refine zr_bipush (q := 29) (v := (-2 : Int32)) g dX8_see_27 rfl (by decide) ?_
            cases hM
            exact zr_iret g hr hlk dX8_see_29 rfl rfl
noncomputable def M_X8_unsee (h : zw_Hp) : Option (Int32 × zw_Hp) :=
  zw_nm (h.1 24 3) (fun y1 => zw_nm (zw_up h 24 3 (0 : Int32)) (fun h3 => some (y1, h3)))
set_option maxRecDepth 100000 in
set_option maxHeartbeats 4000000 in
theorem R_X8_unsee (ok : zw_Ok E) (hI : ∀ i, i < 48 → i ∈ E.2.2.1) {h : zw_Hp} {z : Int32 × zw_Hp} (hM : M_X8_unsee h = some z) : zw_Ct l E mt_X8_unsee [.ref (E.2.1 0)] h (some (.int z.1)) z.2 := by
  unfold M_X8_unsee at hM
  refine zw_ct (lv0 := [(0, .ref (E.2.1 0))]) ok (by decide) rfl (Nat.le_of_ble_eq_true rfl) (fun p e s m args below meth c g hr hlk => ?_)
  replace g : zw_G p E (zw_A E) s m args c RX8 cX8_unsee 2 := g
  show zw_V p l e s m args below meth c E mt_X8_unsee 2 (some (.int z.1)) z.2 0 [(0, .ref (E.2.1 0))] [] h
  refine zr_aload_n (q := 1) g 0 dX8_unsee_0 rfl rfl rfl ?_
  refine zr_getr (q := 4) (k0 := 7) (j := 24) g (hI 0 (by decide)) zs_0 rfl zf_X8_58 dX8_unsee_1 rfl ?_
  refine zr_geti (q := 7) (k0 := 3) g (hI 24 (by decide)) zs_24 rfl zf_X8_134 dX8_unsee_4 rfl ?_
  obtain ⟨y1, e2, hM⟩ := zw_nm_ex hM
  refine zr_nmi e2 ?_
  refine zr_istore_n (q := 8) (lv' := [(1, .int y1), (0, .ref (E.2.1 0))]) g dX8_unsee_7 rfl rfl (by decide) rfl ?_
  refine zr_aload_n (q := 9) g 1 dX8_unsee_8 rfl rfl rfl ?_
  refine zr_getr (q := 12) (k0 := 7) (j := 24) g (hI 0 (by decide)) zs_0 rfl zf_X8_58 dX8_unsee_9 rfl ?_
  refine zr_iconst (q := 13) (v := (0 : Int32)) g dX8_unsee_12 rfl (by decide) ?_
  obtain ⟨h3, e4, hM⟩ := zw_nm_ex hM
  refine zr_puti (q := 16) (k0 := 3) (h' := h3) g (hI 24 (by decide)) zs_24 rfl zp_X8_134 dX8_unsee_13 rfl e4 ?_
  refine zr_iload_n (q := 17) g 0 dX8_unsee_16 rfl rfl rfl ?_
  cases hM
  exact zr_iret g hr hlk dX8_unsee_17 rfl rfl
noncomputable def M_X8_fires (x1 : Int32) (h : zw_Hp) : Option (Int32) :=
  (M_X8_isZeroOrOne x1 h).bind (fun z1 => if z1 = 0 then (some (-2 : Int32)) else (if x1 = 0 then ((M_X6_countFires h).bind (fun z7 => some z7)) else ((M_X6_firstFire h).bind (fun z5 => some z5))))
set_option maxRecDepth 100000 in
set_option maxHeartbeats 4000000 in
theorem R_X8_fires (ok : zw_Ok E) (hI : ∀ i, i < 48 → i ∈ E.2.2.1) {x1 : Int32} {h : zw_Hp} {z : Int32} (hM : M_X8_fires x1 h = some z) : zw_Ct l E mt_X8_fires [.ref (E.2.1 0), .int x1] h (some (.int z)) h := by
  unfold M_X8_fires at hM
  refine zw_ct (lv0 := [(0, .ref (E.2.1 0)), (1, .int x1)]) ok (by decide) rfl (Nat.le_of_ble_eq_true rfl) (fun p e s m args below meth c g hr hlk => ?_)
  replace g : zw_G p E (zw_A E) s m args c RX8 cX8_fires 2 := g
  show zw_V p l e s m args below meth c E mt_X8_fires 2 (some (.int z)) h 0 [(0, .ref (E.2.1 0)), (1, .int x1)] [] h
  refine zr_iload_n (q := 1) g 1 dX8_fires_0 rfl rfl rfl ?_
  obtain ⟨z1, q2, hM⟩ := zw_bd hM
  refine zr_callS (q := 4) (As := [.int x1]) (rest := []) (st' := [.int z1]) g (R_X8_isZeroOrOne ok hI q2) zv_X8_isZeroOrOne zl_X8_197 dX8_fires_1 rfl rfl ⟨Nat.le_of_ble_eq_true rfl, Nat.le_of_ble_eq_true rfl⟩ ⟨Nat.zero_le _, Nat.zero_le _⟩ (Nat.le_of_ble_eq_true rfl) rfl rfl ?_
  refine zr_if_ne (q := 7) (tgt := 10) g dX8_fires_4 rfl rfl (fun c3 => ?_) (fun c3 => ?_)
  · replace hM := zw_iff c3 hM
    refine zr_iload_n (q := 11) g 1 dX8_fires_10 rfl rfl rfl ?_
    refine zr_if_ne (q := 14) (tgt := 24) g dX8_fires_11 rfl rfl (fun c4 => ?_) (fun c4 => ?_)
    · replace hM := zw_iff c4 hM
      refine zr_aload_n (q := 25) g 0 dX8_fires_24 rfl rfl rfl ?_
      refine zr_getr (q := 28) (k0 := 7) (j := 24) g (hI 0 (by decide)) zs_0 rfl zf_X8_58 dX8_fires_25 rfl ?_
      obtain ⟨z5, q6, hM⟩ := zw_bd hM
      refine zr_callV (q := 31) (As := []) (rest := []) (st' := [.int z5]) (i := 24) g (R_X6_firstFire ok hI q6) zv_X6_firstFire zl_X8_244 (hI 24 (by decide)) zs_24 zc_X6.1 dX8_fires_28 rfl rfl ⟨Nat.le_of_ble_eq_true rfl, Nat.le_of_ble_eq_true rfl⟩ ⟨Nat.zero_le _, Nat.zero_le _⟩ (Nat.le_of_ble_eq_true rfl) rfl rfl ?_
      cases hM
      exact zr_iret g hr hlk dX8_fires_31 rfl rfl
    · replace hM := zw_ift c4 hM
      refine zr_aload_n (q := 15) g 0 dX8_fires_14 rfl rfl rfl ?_
      refine zr_getr (q := 18) (k0 := 7) (j := 24) g (hI 0 (by decide)) zs_0 rfl zf_X8_58 dX8_fires_15 rfl ?_
      obtain ⟨z7, q8, hM⟩ := zw_bd hM
      refine zr_callV (q := 21) (As := []) (rest := []) (st' := [.int z7]) (i := 24) g (R_X6_countFires ok hI q8) zv_X6_countFires zl_X8_241 (hI 24 (by decide)) zs_24 zc_X6.1 dX8_fires_18 rfl rfl ⟨Nat.le_of_ble_eq_true rfl, Nat.le_of_ble_eq_true rfl⟩ ⟨Nat.zero_le _, Nat.zero_le _⟩ (Nat.le_of_ble_eq_true rfl) rfl rfl ?_
      refine zr_goto (tgt := 31) g dX8_fires_21 rfl ?_
      cases hM
      exact zr_iret g hr hlk dX8_fires_31 rfl rfl
  · replace hM := zw_ift c3 hM
    refine zr_bipush (q := 9) (v := (-2 : Int32)) g dX8_fires_7 rfl (by decide) ?_
    cases hM
    exact zr_iret g hr hlk dX8_fires_9 rfl rfl
noncomputable def B_X1_thrownWhen_36 (s0 : Int32) (s1 : Int32) (h : zw_Hp) : Option (Int32 × zw_Hp) :=
  zw_nm (zw_up h 14 9 (s1 ||| s0)) (fun h5 => (M_X3_passBeats 14 (8 : Int32) h5).bind (fun z7 => some (z7.1, z7.2)))
set_option maxRecDepth 100000 in
set_option maxHeartbeats 4000000 in
theorem U_X1_thrownWhen_36 (ok : zw_Ok E) (hI : ∀ i, i < 48 → i ∈ E.2.2.1) (g : zw_G p E (zw_A E) s m args c RX1 cX1_thrownWhen 4) (hr : meth.sig.returnType = some .int) (hlk : meth.locks = false) :
    ∀ (s0 : Int32) (s1 : Int32) (h : zw_Hp) (z : Int32 × zw_Hp), B_X1_thrownWhen_36 s0 s1 h = some z → zw_V p l e s m args below meth c E mt_X1_thrownWhen 4 (some (.int z.1)) z.2 36 [(0, .ref (E.2.1 30))] [.int s0, .int s1, .ref (E.2.1 14)] h := by
  intro s0 s1 h z hM
  unfold B_X1_thrownWhen_36 at hM
  refine zr_ior (q := 37) g dX1_thrownWhen_36 rfl ?_
  obtain ⟨h5, e6, hM⟩ := zw_nm_ex hM
  refine zr_puti (q := 40) (k0 := 9) (h' := h5) g (hI 14 (by decide)) zs_14 rfl zp_X1_76 dX1_thrownWhen_37 rfl e6 ?_
  refine zr_aload_n (q := 41) g 0 dX1_thrownWhen_40 rfl rfl rfl ?_
  refine zr_getr (q := 44) (k0 := 2) (j := 14) g (hI 30 (by decide)) zs_30 rfl zf_X1_19 dX1_thrownWhen_41 rfl ?_
  refine zr_bipush (q := 46) (v := (8 : Int32)) g dX1_thrownWhen_44 rfl (by decide) ?_
  obtain ⟨z7, q8, hM⟩ := zw_bd hM
  refine zr_callV (q := 49) (As := [.int (8 : Int32)]) (rest := []) (st' := [.int z7.1]) (i := 14) g (R_X3_passBeats (Or.inr rfl) ok hI q8) zv_X3_passBeats zl_X1_31 (hI 14 (by decide)) zs_14 zc_X3.1 dX1_thrownWhen_46 rfl rfl ⟨Nat.le_of_ble_eq_true rfl, Nat.le_of_ble_eq_true rfl⟩ ⟨Nat.zero_le _, Nat.zero_le _⟩ (Nat.le_of_ble_eq_true rfl) rfl rfl ?_
  cases hM
  exact zr_iret g hr hlk dX1_thrownWhen_49 rfl rfl
noncomputable def B_X1_thrownWhen_23 (x2 : Int32) (x3 : Int32) (s0 : Int32) (h : zw_Hp) : Option (Int32 × zw_Hp) :=
  if (x3 &&& (1 : Int32)) = 0 then (B_X1_thrownWhen_36 ((1 : Int32) <<< (x2 &&& 31)) s0 h) else (B_X1_thrownWhen_36 (0 : Int32) s0 h)
set_option maxRecDepth 100000 in
set_option maxHeartbeats 4000000 in
theorem U_X1_thrownWhen_23 (ok : zw_Ok E) (hI : ∀ i, i < 48 → i ∈ E.2.2.1) (g : zw_G p E (zw_A E) s m args c RX1 cX1_thrownWhen 4) (hr : meth.sig.returnType = some .int) (hlk : meth.locks = false) :
    ∀ (x2 : Int32) (x3 : Int32) (s0 : Int32) (h : zw_Hp) (z : Int32 × zw_Hp), B_X1_thrownWhen_23 x2 x3 s0 h = some z → zw_V p l e s m args below meth c E mt_X1_thrownWhen 4 (some (.int z.1)) z.2 23 [(0, .ref (E.2.1 30)), (2, .int x2), (3, .int x3)] [.int s0, .ref (E.2.1 14)] h := by
  intro x2 x3 s0 h z hM
  unfold B_X1_thrownWhen_23 at hM
  refine zr_iload_n (q := 24) g 2 dX1_thrownWhen_23 rfl rfl rfl ?_
  refine zr_iconst (q := 25) (v := (1 : Int32)) g dX1_thrownWhen_24 rfl (by decide) ?_
  refine zr_iand (q := 26) g dX1_thrownWhen_25 rfl ?_
  refine zr_if_ne (q := 29) (tgt := 35) g dX1_thrownWhen_26 rfl rfl (fun c4 => ?_) (fun c4 => ?_)
  · replace hM := zw_iff c4 hM
    refine zr_iconst (q := 36) (v := (0 : Int32)) g dX1_thrownWhen_35 rfl (by decide) ?_
    refine zr_lv (lv' := [(0, .ref (E.2.1 30))]) [0] rfl ?_
    exact U_X1_thrownWhen_36 ok hI g hr hlk _ _ _ _ hM
  · replace hM := zw_ift c4 hM
    refine zr_iconst (q := 30) (v := (1 : Int32)) g dX1_thrownWhen_29 rfl (by decide) ?_
    refine zr_iload_n (q := 31) g 1 dX1_thrownWhen_30 rfl rfl rfl ?_
    refine zr_ishl (q := 32) g dX1_thrownWhen_31 rfl ?_
    refine zr_goto (tgt := 36) g dX1_thrownWhen_32 rfl ?_
    refine zr_lv (lv' := [(0, .ref (E.2.1 30))]) [0] rfl ?_
    exact U_X1_thrownWhen_36 ok hI g hr hlk _ _ _ _ hM
noncomputable def M_X1_thrownWhen (x1 : Int32) (x2 : Int32) (x3 : Int32) (h : zw_Hp) : Option (Int32 × zw_Hp) :=
  (M_X1_begin h).bind (fun z1 => if ((x3 >>> ((1 : Int32) &&& 31)) &&& (1 : Int32)) = 0 then (B_X1_thrownWhen_23 x2 x3 ((1 : Int32) <<< (x1 &&& 31)) z1) else (B_X1_thrownWhen_23 x2 x3 (0 : Int32) z1))
set_option maxRecDepth 100000 in
set_option maxHeartbeats 4000000 in
theorem R_X1_thrownWhen (ok : zw_Ok E) (hI : ∀ i, i < 48 → i ∈ E.2.2.1) {x1 : Int32} {x2 : Int32} {x3 : Int32} {h : zw_Hp} {z : Int32 × zw_Hp} (hM : M_X1_thrownWhen x1 x2 x3 h = some z) : zw_Ct l E mt_X1_thrownWhen [.ref (E.2.1 30), .int x1, .int x2, .int x3] h (some (.int z.1)) z.2 := by
  unfold M_X1_thrownWhen at hM
  refine zw_ct (lv0 := [(0, .ref (E.2.1 30)), (1, .int x1), (2, .int x2), (3, .int x3)]) ok (by decide) rfl (Nat.le_of_ble_eq_true rfl) (fun p e s m args below meth c g hr hlk => ?_)
  replace g : zw_G p E (zw_A E) s m args c RX1 cX1_thrownWhen 4 := g
  show zw_V p l e s m args below meth c E mt_X1_thrownWhen 4 (some (.int z.1)) z.2 0 [(0, .ref (E.2.1 30)), (1, .int x1), (2, .int x2), (3, .int x3)] [] h
  refine zr_aload_n (q := 1) g 0 dX1_thrownWhen_0 rfl rfl rfl ?_
  obtain ⟨z1, q2, hM⟩ := zw_bd hM
  refine zr_callV (q := 4) (As := []) (rest := []) (st' := []) (i := 30) g (R_X1_begin ok hI q2) zv_X1_begin zl_X1_28 (hI 30 (by decide)) zs_30 zc_X1.1 dX1_thrownWhen_1 rfl rfl ⟨Nat.le_of_ble_eq_true rfl, Nat.le_of_ble_eq_true rfl⟩ ⟨Nat.zero_le _, Nat.zero_le _⟩ (Nat.le_of_ble_eq_true rfl) rfl rfl ?_
  refine zr_aload_n (q := 5) g 0 dX1_thrownWhen_4 rfl rfl rfl ?_
  refine zr_getr (q := 8) (k0 := 2) (j := 14) g (hI 30 (by decide)) zs_30 rfl zf_X1_19 dX1_thrownWhen_5 rfl ?_
  refine zr_iload_n (q := 9) g 3 dX1_thrownWhen_8 rfl rfl rfl ?_
  refine zr_iconst (q := 10) (v := (1 : Int32)) g dX1_thrownWhen_9 rfl (by decide) ?_
  refine zr_ishr (q := 11) g dX1_thrownWhen_10 rfl ?_
  refine zr_iconst (q := 12) (v := (1 : Int32)) g dX1_thrownWhen_11 rfl (by decide) ?_
  refine zr_iand (q := 13) g dX1_thrownWhen_12 rfl ?_
  refine zr_if_ne (q := 16) (tgt := 22) g dX1_thrownWhen_13 rfl rfl (fun c3 => ?_) (fun c3 => ?_)
  · replace hM := zw_iff c3 hM
    refine zr_iconst (q := 23) (v := (0 : Int32)) g dX1_thrownWhen_22 rfl (by decide) ?_
    refine zr_lv (lv' := [(0, .ref (E.2.1 30)), (2, .int x2), (3, .int x3)]) [0, 2, 3] rfl ?_
    exact U_X1_thrownWhen_23 ok hI g hr hlk _ _ _ _ _ hM
  · replace hM := zw_ift c3 hM
    refine zr_iconst (q := 17) (v := (1 : Int32)) g dX1_thrownWhen_16 rfl (by decide) ?_
    refine zr_iload_n (q := 18) g 1 dX1_thrownWhen_17 rfl rfl rfl ?_
    refine zr_ishl (q := 19) g dX1_thrownWhen_18 rfl ?_
    refine zr_goto (tgt := 23) g dX1_thrownWhen_19 rfl ?_
    refine zr_lv (lv' := [(0, .ref (E.2.1 30)), (2, .int x2), (3, .int x3)]) [0, 2, 3] rfl ?_
    exact U_X1_thrownWhen_23 ok hI g hr hlk _ _ _ _ _ hM
noncomputable def B_X1_settledPairs_121 (x4 : Int32) (x5 : Int32) (x6 : Int32) (s0 : Int32) (s1 : Int32) (h : zw_Hp) : Option (Int32 × zw_Hp) :=
  zw_nm (s1 ||| s0) (fun y27 => if (x6 - (6 : Int32)) < x4 then (zw_nm (y27 ||| (0 : Int32)) (fun y30 => some (y30, h))) else (if (x6 - (6 : Int32)) < x5 then (zw_nm (y27 ||| (0 : Int32)) (fun y33 => some (y33, h))) else (zw_nm (y27 ||| (8 : Int32)) (fun y35 => some (y35, h)))))
set_option maxRecDepth 100000 in
set_option maxHeartbeats 4000000 in
theorem U_X1_settledPairs_121 (ok : zw_Ok E) (hI : ∀ i, i < 48 → i ∈ E.2.2.1) (g : zw_G p E (zw_A E) s m args c RX1 cX1_settledPairs 8) (hr : meth.sig.returnType = some .int) (hlk : meth.locks = false) :
    ∀ (x4 : Int32) (x5 : Int32) (x6 : Int32) (s0 : Int32) (s1 : Int32) (h : zw_Hp) (z : Int32 × zw_Hp), B_X1_settledPairs_121 x4 x5 x6 s0 s1 h = some z → zw_V p l e s m args below meth c E mt_X1_settledPairs 8 (some (.int z.1)) z.2 121 [(4, .int x4), (5, .int x5), (6, .int x6)] [.int s0, .int s1] h := by
  intro x4 x5 x6 s0 s1 h z hM
  unfold B_X1_settledPairs_121 at hM
  refine zr_ior (q := 122) g dX1_settledPairs_121 rfl ?_
  obtain ⟨y27, e28, hM⟩ := zw_nm_ex hM
  refine zr_nmi e28 ?_
  refine zr_istore (q := 124) (lv' := [(7, .int y27), (4, .int x4), (5, .int x5), (6, .int x6)]) g dX1_settledPairs_122 rfl (by decide) rfl ?_
  refine zr_iload (q := 126) g 0 dX1_settledPairs_124 rfl rfl ?_
  refine zr_iload (q := 128) g 3 dX1_settledPairs_126 rfl rfl ?_
  refine zr_bipush (q := 130) (v := (6 : Int32)) g dX1_settledPairs_128 rfl (by decide) ?_
  refine zr_isub (q := 131) g dX1_settledPairs_130 rfl ?_
  refine zr_iload (q := 133) g 1 dX1_settledPairs_131 rfl rfl ?_
  refine zr_icmp_lt (q := 136) (tgt := 151) g dX1_settledPairs_133 rfl rfl (fun c29 => ?_) (fun c29 => ?_)
  · replace hM := zw_ift c29 hM
    refine zr_iconst (q := 152) (v := (0 : Int32)) g dX1_settledPairs_151 rfl (by decide) ?_
    refine zr_ior (q := 153) g dX1_settledPairs_152 rfl ?_
    obtain ⟨y30, e31, hM⟩ := zw_nm_ex hM
    refine zr_nmi e31 ?_
    refine zr_istore (q := 155) (lv' := [(7, .int y30), (4, .int x4), (5, .int x5), (6, .int x6)]) g dX1_settledPairs_153 rfl (by decide) rfl ?_
    refine zr_iload (q := 157) g 0 dX1_settledPairs_155 rfl rfl ?_
    cases hM
    exact zr_iret g hr hlk dX1_settledPairs_157 rfl rfl
  · replace hM := zw_iff c29 hM
    refine zr_iload (q := 138) g 3 dX1_settledPairs_136 rfl rfl ?_
    refine zr_bipush (q := 140) (v := (6 : Int32)) g dX1_settledPairs_138 rfl (by decide) ?_
    refine zr_isub (q := 141) g dX1_settledPairs_140 rfl ?_
    refine zr_iload (q := 143) g 2 dX1_settledPairs_141 rfl rfl ?_
    refine zr_icmp_lt (q := 146) (tgt := 151) g dX1_settledPairs_143 rfl rfl (fun c32 => ?_) (fun c32 => ?_)
    · replace hM := zw_ift c32 hM
      refine zr_iconst (q := 152) (v := (0 : Int32)) g dX1_settledPairs_151 rfl (by decide) ?_
      refine zr_ior (q := 153) g dX1_settledPairs_152 rfl ?_
      obtain ⟨y33, e34, hM⟩ := zw_nm_ex hM
      refine zr_nmi e34 ?_
      refine zr_istore (q := 155) (lv' := [(7, .int y33), (4, .int x4), (5, .int x5), (6, .int x6)]) g dX1_settledPairs_153 rfl (by decide) rfl ?_
      refine zr_iload (q := 157) g 0 dX1_settledPairs_155 rfl rfl ?_
      cases hM
      exact zr_iret g hr hlk dX1_settledPairs_157 rfl rfl
    · replace hM := zw_iff c32 hM
      refine zr_bipush (q := 148) (v := (8 : Int32)) g dX1_settledPairs_146 rfl (by decide) ?_
      refine zr_goto (tgt := 152) g dX1_settledPairs_148 rfl ?_
      refine zr_ior (q := 153) g dX1_settledPairs_152 rfl ?_
      obtain ⟨y35, e36, hM⟩ := zw_nm_ex hM
      refine zr_nmi e36 ?_
      refine zr_istore (q := 155) (lv' := [(7, .int y35), (4, .int x4), (5, .int x5), (6, .int x6)]) g dX1_settledPairs_153 rfl (by decide) rfl ?_
      refine zr_iload (q := 157) g 0 dX1_settledPairs_155 rfl rfl ?_
      cases hM
      exact zr_iret g hr hlk dX1_settledPairs_157 rfl rfl
noncomputable def B_X1_settledPairs_120 (x4 : Int32) (x5 : Int32) (x6 : Int32) (s0 : Int32) (h : zw_Hp) : Option (Int32 × zw_Hp) :=
  B_X1_settledPairs_121 x4 x5 x6 (0 : Int32) s0 h
set_option maxRecDepth 100000 in
set_option maxHeartbeats 4000000 in
theorem U_X1_settledPairs_120 (ok : zw_Ok E) (hI : ∀ i, i < 48 → i ∈ E.2.2.1) (g : zw_G p E (zw_A E) s m args c RX1 cX1_settledPairs 8) (hr : meth.sig.returnType = some .int) (hlk : meth.locks = false) :
    ∀ (x4 : Int32) (x5 : Int32) (x6 : Int32) (s0 : Int32) (h : zw_Hp) (z : Int32 × zw_Hp), B_X1_settledPairs_120 x4 x5 x6 s0 h = some z → zw_V p l e s m args below meth c E mt_X1_settledPairs 8 (some (.int z.1)) z.2 120 [(4, .int x4), (5, .int x5), (6, .int x6)] [.int s0] h := by
  intro x4 x5 x6 s0 h z hM
  unfold B_X1_settledPairs_120 at hM
  refine zr_iconst (q := 121) (v := (0 : Int32)) g dX1_settledPairs_120 rfl (by decide) ?_
  exact U_X1_settledPairs_121 ok hI g hr hlk _ _ _ _ _ _ _ hM
noncomputable def B_X1_settledPairs_92 (x3 : Int32) (x4 : Int32) (x5 : Int32) (x6 : Int32) (s0 : Int32) (s1 : Int32) (h : zw_Hp) : Option (Int32 × zw_Hp) :=
  zw_nm (s1 ||| s0) (fun y23 => if (x5 - (6 : Int32)) < x3 then (B_X1_settledPairs_120 x4 x5 x6 y23 h) else (if x5 < (x6 - (6 : Int32)) then (B_X1_settledPairs_120 x4 x5 x6 y23 h) else (B_X1_settledPairs_121 x4 x5 x6 (4 : Int32) y23 h)))
set_option maxRecDepth 100000 in
set_option maxHeartbeats 4000000 in
theorem U_X1_settledPairs_92 (ok : zw_Ok E) (hI : ∀ i, i < 48 → i ∈ E.2.2.1) (g : zw_G p E (zw_A E) s m args c RX1 cX1_settledPairs 8) (hr : meth.sig.returnType = some .int) (hlk : meth.locks = false) :
    ∀ (x3 : Int32) (x4 : Int32) (x5 : Int32) (x6 : Int32) (s0 : Int32) (s1 : Int32) (h : zw_Hp) (z : Int32 × zw_Hp), B_X1_settledPairs_92 x3 x4 x5 x6 s0 s1 h = some z → zw_V p l e s m args below meth c E mt_X1_settledPairs 8 (some (.int z.1)) z.2 92 [(3, .int x3), (4, .int x4), (5, .int x5), (6, .int x6)] [.int s0, .int s1] h := by
  intro x3 x4 x5 x6 s0 s1 h z hM
  unfold B_X1_settledPairs_92 at hM
  refine zr_ior (q := 93) g dX1_settledPairs_92 rfl ?_
  obtain ⟨y23, e24, hM⟩ := zw_nm_ex hM
  refine zr_nmi e24 ?_
  refine zr_istore (q := 95) (lv' := [(7, .int y23), (3, .int x3), (4, .int x4), (5, .int x5), (6, .int x6)]) g dX1_settledPairs_93 rfl (by decide) rfl ?_
  refine zr_iload (q := 97) g 0 dX1_settledPairs_95 rfl rfl ?_
  refine zr_iload (q := 99) g 3 dX1_settledPairs_97 rfl rfl ?_
  refine zr_bipush (q := 101) (v := (6 : Int32)) g dX1_settledPairs_99 rfl (by decide) ?_
  refine zr_isub (q := 102) g dX1_settledPairs_101 rfl ?_
  refine zr_iload_n (q := 103) g 1 dX1_settledPairs_102 rfl rfl rfl ?_
  refine zr_icmp_lt (q := 106) (tgt := 120) g dX1_settledPairs_103 rfl rfl (fun c25 => ?_) (fun c25 => ?_)
  · replace hM := zw_ift c25 hM
    refine zr_lv (lv' := [(4, .int x4), (5, .int x5), (6, .int x6)]) [2, 3, 4] rfl ?_
    exact U_X1_settledPairs_120 ok hI g hr hlk _ _ _ _ _ _ hM
  · replace hM := zw_iff c25 hM
    refine zr_iload (q := 108) g 3 dX1_settledPairs_106 rfl rfl ?_
    refine zr_iload (q := 110) g 4 dX1_settledPairs_108 rfl rfl ?_
    refine zr_bipush (q := 112) (v := (6 : Int32)) g dX1_settledPairs_110 rfl (by decide) ?_
    refine zr_isub (q := 113) g dX1_settledPairs_112 rfl ?_
    refine zr_icmp_lt (q := 116) (tgt := 120) g dX1_settledPairs_113 rfl rfl (fun c26 => ?_) (fun c26 => ?_)
    · replace hM := zw_ift c26 hM
      refine zr_lv (lv' := [(4, .int x4), (5, .int x5), (6, .int x6)]) [2, 3, 4] rfl ?_
      exact U_X1_settledPairs_120 ok hI g hr hlk _ _ _ _ _ _ hM
    · replace hM := zw_iff c26 hM
      refine zr_iconst (q := 117) (v := (4 : Int32)) g dX1_settledPairs_116 rfl (by decide) ?_
      refine zr_goto (tgt := 121) g dX1_settledPairs_117 rfl ?_
      refine zr_lv (lv' := [(4, .int x4), (5, .int x5), (6, .int x6)]) [2, 3, 4] rfl ?_
      exact U_X1_settledPairs_121 ok hI g hr hlk _ _ _ _ _ _ _ hM
noncomputable def B_X1_settledPairs_91 (x3 : Int32) (x4 : Int32) (x5 : Int32) (x6 : Int32) (s0 : Int32) (h : zw_Hp) : Option (Int32 × zw_Hp) :=
  B_X1_settledPairs_92 x3 x4 x5 x6 (0 : Int32) s0 h
set_option maxRecDepth 100000 in
set_option maxHeartbeats 4000000 in
theorem U_X1_settledPairs_91 (ok : zw_Ok E) (hI : ∀ i, i < 48 → i ∈ E.2.2.1) (g : zw_G p E (zw_A E) s m args c RX1 cX1_settledPairs 8) (hr : meth.sig.returnType = some .int) (hlk : meth.locks = false) :
    ∀ (x3 : Int32) (x4 : Int32) (x5 : Int32) (x6 : Int32) (s0 : Int32) (h : zw_Hp) (z : Int32 × zw_Hp), B_X1_settledPairs_91 x3 x4 x5 x6 s0 h = some z → zw_V p l e s m args below meth c E mt_X1_settledPairs 8 (some (.int z.1)) z.2 91 [(3, .int x3), (4, .int x4), (5, .int x5), (6, .int x6)] [.int s0] h := by
  intro x3 x4 x5 x6 s0 h z hM
  unfold B_X1_settledPairs_91 at hM
  refine zr_iconst (q := 92) (v := (0 : Int32)) g dX1_settledPairs_91 rfl (by decide) ?_
  exact U_X1_settledPairs_92 ok hI g hr hlk _ _ _ _ _ _ _ _ hM
noncomputable def B_X1_settledPairs_63 (x3 : Int32) (x4 : Int32) (x5 : Int32) (x6 : Int32) (s0 : Int32) (s1 : Int32) (h : zw_Hp) : Option (Int32 × zw_Hp) :=
  zw_nm (s1 ||| s0) (fun y19 => if x4 < (x6 - (6 : Int32)) then (B_X1_settledPairs_91 x3 x4 x5 x6 y19 h) else (if (x4 - (6 : Int32)) < x3 then (B_X1_settledPairs_91 x3 x4 x5 x6 y19 h) else (B_X1_settledPairs_92 x3 x4 x5 x6 (2 : Int32) y19 h)))
set_option maxRecDepth 100000 in
set_option maxHeartbeats 4000000 in
theorem U_X1_settledPairs_63 (ok : zw_Ok E) (hI : ∀ i, i < 48 → i ∈ E.2.2.1) (g : zw_G p E (zw_A E) s m args c RX1 cX1_settledPairs 8) (hr : meth.sig.returnType = some .int) (hlk : meth.locks = false) :
    ∀ (x3 : Int32) (x4 : Int32) (x5 : Int32) (x6 : Int32) (s0 : Int32) (s1 : Int32) (h : zw_Hp) (z : Int32 × zw_Hp), B_X1_settledPairs_63 x3 x4 x5 x6 s0 s1 h = some z → zw_V p l e s m args below meth c E mt_X1_settledPairs 8 (some (.int z.1)) z.2 63 [(3, .int x3), (4, .int x4), (5, .int x5), (6, .int x6)] [.int s0, .int s1] h := by
  intro x3 x4 x5 x6 s0 s1 h z hM
  unfold B_X1_settledPairs_63 at hM
  refine zr_ior (q := 64) g dX1_settledPairs_63 rfl ?_
  obtain ⟨y19, e20, hM⟩ := zw_nm_ex hM
  refine zr_nmi e20 ?_
  refine zr_istore (q := 66) (lv' := [(7, .int y19), (3, .int x3), (4, .int x4), (5, .int x5), (6, .int x6)]) g dX1_settledPairs_64 rfl (by decide) rfl ?_
  refine zr_iload (q := 68) g 0 dX1_settledPairs_66 rfl rfl ?_
  refine zr_iload (q := 70) g 2 dX1_settledPairs_68 rfl rfl ?_
  refine zr_iload (q := 72) g 4 dX1_settledPairs_70 rfl rfl ?_
  refine zr_bipush (q := 74) (v := (6 : Int32)) g dX1_settledPairs_72 rfl (by decide) ?_
  refine zr_isub (q := 75) g dX1_settledPairs_74 rfl ?_
  refine zr_icmp_lt (q := 78) (tgt := 91) g dX1_settledPairs_75 rfl rfl (fun c21 => ?_) (fun c21 => ?_)
  · replace hM := zw_ift c21 hM
    refine zr_lv (lv' := [(3, .int x3), (4, .int x4), (5, .int x5), (6, .int x6)]) [1, 2, 3, 4] rfl ?_
    exact U_X1_settledPairs_91 ok hI g hr hlk _ _ _ _ _ _ _ hM
  · replace hM := zw_iff c21 hM
    refine zr_iload (q := 80) g 2 dX1_settledPairs_78 rfl rfl ?_
    refine zr_bipush (q := 82) (v := (6 : Int32)) g dX1_settledPairs_80 rfl (by decide) ?_
    refine zr_isub (q := 83) g dX1_settledPairs_82 rfl ?_
    refine zr_iload_n (q := 84) g 1 dX1_settledPairs_83 rfl rfl rfl ?_
    refine zr_icmp_lt (q := 87) (tgt := 91) g dX1_settledPairs_84 rfl rfl (fun c22 => ?_) (fun c22 => ?_)
    · replace hM := zw_ift c22 hM
      refine zr_lv (lv' := [(3, .int x3), (4, .int x4), (5, .int x5), (6, .int x6)]) [1, 2, 3, 4] rfl ?_
      exact U_X1_settledPairs_91 ok hI g hr hlk _ _ _ _ _ _ _ hM
    · replace hM := zw_iff c22 hM
      refine zr_iconst (q := 88) (v := (2 : Int32)) g dX1_settledPairs_87 rfl (by decide) ?_
      refine zr_goto (tgt := 92) g dX1_settledPairs_88 rfl ?_
      refine zr_lv (lv' := [(3, .int x3), (4, .int x4), (5, .int x5), (6, .int x6)]) [1, 2, 3, 4] rfl ?_
      exact U_X1_settledPairs_92 ok hI g hr hlk _ _ _ _ _ _ _ _ hM
noncomputable def B_X1_settledPairs_62 (x3 : Int32) (x4 : Int32) (x5 : Int32) (x6 : Int32) (s0 : Int32) (h : zw_Hp) : Option (Int32 × zw_Hp) :=
  B_X1_settledPairs_63 x3 x4 x5 x6 (0 : Int32) s0 h
set_option maxRecDepth 100000 in
set_option maxHeartbeats 4000000 in
theorem U_X1_settledPairs_62 (ok : zw_Ok E) (hI : ∀ i, i < 48 → i ∈ E.2.2.1) (g : zw_G p E (zw_A E) s m args c RX1 cX1_settledPairs 8) (hr : meth.sig.returnType = some .int) (hlk : meth.locks = false) :
    ∀ (x3 : Int32) (x4 : Int32) (x5 : Int32) (x6 : Int32) (s0 : Int32) (h : zw_Hp) (z : Int32 × zw_Hp), B_X1_settledPairs_62 x3 x4 x5 x6 s0 h = some z → zw_V p l e s m args below meth c E mt_X1_settledPairs 8 (some (.int z.1)) z.2 62 [(3, .int x3), (4, .int x4), (5, .int x5), (6, .int x6)] [.int s0] h := by
  intro x3 x4 x5 x6 s0 h z hM
  unfold B_X1_settledPairs_62 at hM
  refine zr_iconst (q := 63) (v := (0 : Int32)) g dX1_settledPairs_62 rfl (by decide) ?_
  exact U_X1_settledPairs_63 ok hI g hr hlk _ _ _ _ _ _ _ _ hM
noncomputable def M_X1_settledPairs (x1 : Int32) (x2 : Int32) (h : zw_Hp) : Option (Int32 × zw_Hp) :=
  (M_X1_thrownWhen x1 x2 (0 : Int32) h).bind (fun z1 => zw_nm z1.1 (fun y3 => (M_X1_thrownWhen x1 x2 (1 : Int32) z1.2).bind (fun z5 => zw_nm z5.1 (fun y7 => (M_X1_thrownWhen x1 x2 (2 : Int32) z5.2).bind (fun z9 => zw_nm z9.1 (fun y11 => (M_X1_thrownWhen x1 x2 (3 : Int32) z9.2).bind (fun z13 => zw_nm z13.1 (fun y15 => if y3 < (y11 - (6 : Int32)) then (B_X1_settledPairs_62 y3 y7 y11 y15 (0 : Int32) z13.2) else (if y3 < (y7 - (6 : Int32)) then (B_X1_settledPairs_62 y3 y7 y11 y15 (0 : Int32) z13.2) else (B_X1_settledPairs_63 y3 y7 y11 y15 (1 : Int32) (0 : Int32) z13.2))))))))))
set_option maxRecDepth 100000 in
set_option maxHeartbeats 4000000 in
theorem R_X1_settledPairs (ok : zw_Ok E) (hI : ∀ i, i < 48 → i ∈ E.2.2.1) {x1 : Int32} {x2 : Int32} {h : zw_Hp} {z : Int32 × zw_Hp} (hM : M_X1_settledPairs x1 x2 h = some z) : zw_Ct l E mt_X1_settledPairs [.ref (E.2.1 30), .int x1, .int x2] h (some (.int z.1)) z.2 := by
  unfold M_X1_settledPairs at hM
  refine zw_ct (lv0 := [(0, .ref (E.2.1 30)), (1, .int x1), (2, .int x2)]) ok (by decide) rfl (Nat.le_of_ble_eq_true rfl) (fun p e s m args below meth c g hr hlk => ?_)
  replace g : zw_G p E (zw_A E) s m args c RX1 cX1_settledPairs 8 := g
  show zw_V p l e s m args below meth c E mt_X1_settledPairs 8 (some (.int z.1)) z.2 0 [(0, .ref (E.2.1 30)), (1, .int x1), (2, .int x2)] [] h
  refine zr_aload_n (q := 1) g 0 dX1_settledPairs_0 rfl rfl rfl ?_
  refine zr_iload_n (q := 2) g 1 dX1_settledPairs_1 rfl rfl rfl ?_
  refine zr_iload_n (q := 3) g 2 dX1_settledPairs_2 rfl rfl rfl ?_
  refine zr_iconst (q := 4) (v := (0 : Int32)) g dX1_settledPairs_3 rfl (by decide) ?_
  obtain ⟨z1, q2, hM⟩ := zw_bd hM
  refine zr_callV (q := 7) (As := [.int x1, .int x2, .int (0 : Int32)]) (rest := []) (st' := [.int z1.1]) (i := 30) g (R_X1_thrownWhen ok hI q2) zv_X1_thrownWhen zl_X1_72 (hI 30 (by decide)) zs_30 zc_X1.1 dX1_settledPairs_4 rfl rfl ⟨Nat.le_of_ble_eq_true rfl, Nat.le_of_ble_eq_true rfl⟩ ⟨Nat.zero_le _, Nat.zero_le _⟩ (Nat.le_of_ble_eq_true rfl) rfl rfl ?_
  obtain ⟨y3, e4, hM⟩ := zw_nm_ex hM
  refine zr_nmi e4 ?_
  refine zr_istore_n (q := 8) (lv' := [(3, .int y3), (0, .ref (E.2.1 30)), (1, .int x1), (2, .int x2)]) g dX1_settledPairs_7 rfl rfl (by decide) rfl ?_
  refine zr_aload_n (q := 9) g 1 dX1_settledPairs_8 rfl rfl rfl ?_
  refine zr_iload_n (q := 10) g 2 dX1_settledPairs_9 rfl rfl rfl ?_
  refine zr_iload_n (q := 11) g 3 dX1_settledPairs_10 rfl rfl rfl ?_
  refine zr_iconst (q := 12) (v := (1 : Int32)) g dX1_settledPairs_11 rfl (by decide) ?_
  obtain ⟨z5, q6, hM⟩ := zw_bd hM
  refine zr_callV (q := 15) (As := [.int x1, .int x2, .int (1 : Int32)]) (rest := []) (st' := [.int z5.1]) (i := 30) g (R_X1_thrownWhen ok hI q6) zv_X1_thrownWhen zl_X1_72 (hI 30 (by decide)) zs_30 zc_X1.1 dX1_settledPairs_12 rfl rfl ⟨Nat.le_of_ble_eq_true rfl, Nat.le_of_ble_eq_true rfl⟩ ⟨Nat.zero_le _, Nat.zero_le _⟩ (Nat.le_of_ble_eq_true rfl) rfl rfl ?_
  obtain ⟨y7, e8, hM⟩ := zw_nm_ex hM
  refine zr_nmi e8 ?_
  refine zr_istore (q := 17) (lv' := [(4, .int y7), (3, .int y3), (0, .ref (E.2.1 30)), (1, .int x1), (2, .int x2)]) g dX1_settledPairs_15 rfl (by decide) rfl ?_
  refine zr_aload_n (q := 18) g 2 dX1_settledPairs_17 rfl rfl rfl ?_
  refine zr_iload_n (q := 19) g 3 dX1_settledPairs_18 rfl rfl rfl ?_
  refine zr_iload_n (q := 20) g 4 dX1_settledPairs_19 rfl rfl rfl ?_
  refine zr_iconst (q := 21) (v := (2 : Int32)) g dX1_settledPairs_20 rfl (by decide) ?_
  obtain ⟨z9, q10, hM⟩ := zw_bd hM
  refine zr_callV (q := 24) (As := [.int x1, .int x2, .int (2 : Int32)]) (rest := []) (st' := [.int z9.1]) (i := 30) g (R_X1_thrownWhen ok hI q10) zv_X1_thrownWhen zl_X1_72 (hI 30 (by decide)) zs_30 zc_X1.1 dX1_settledPairs_21 rfl rfl ⟨Nat.le_of_ble_eq_true rfl, Nat.le_of_ble_eq_true rfl⟩ ⟨Nat.zero_le _, Nat.zero_le _⟩ (Nat.le_of_ble_eq_true rfl) rfl rfl ?_
  obtain ⟨y11, e12, hM⟩ := zw_nm_ex hM
  refine zr_nmi e12 ?_
  refine zr_istore (q := 26) (lv' := [(5, .int y11), (4, .int y7), (3, .int y3), (0, .ref (E.2.1 30)), (1, .int x1), (2, .int x2)]) g dX1_settledPairs_24 rfl (by decide) rfl ?_
  refine zr_aload_n (q := 27) g 3 dX1_settledPairs_26 rfl rfl rfl ?_
  refine zr_iload_n (q := 28) g 4 dX1_settledPairs_27 rfl rfl rfl ?_
  refine zr_iload_n (q := 29) g 5 dX1_settledPairs_28 rfl rfl rfl ?_
  refine zr_iconst (q := 30) (v := (3 : Int32)) g dX1_settledPairs_29 rfl (by decide) ?_
  obtain ⟨z13, q14, hM⟩ := zw_bd hM
  refine zr_callV (q := 33) (As := [.int x1, .int x2, .int (3 : Int32)]) (rest := []) (st' := [.int z13.1]) (i := 30) g (R_X1_thrownWhen ok hI q14) zv_X1_thrownWhen zl_X1_72 (hI 30 (by decide)) zs_30 zc_X1.1 dX1_settledPairs_30 rfl rfl ⟨Nat.le_of_ble_eq_true rfl, Nat.le_of_ble_eq_true rfl⟩ ⟨Nat.zero_le _, Nat.zero_le _⟩ (Nat.le_of_ble_eq_true rfl) rfl rfl ?_
  obtain ⟨y15, e16, hM⟩ := zw_nm_ex hM
  refine zr_nmi e16 ?_
  refine zr_istore (q := 35) (lv' := [(6, .int y15), (5, .int y11), (4, .int y7), (3, .int y3), (0, .ref (E.2.1 30)), (1, .int x1), (2, .int x2)]) g dX1_settledPairs_33 rfl (by decide) rfl ?_
  refine zr_iconst (q := 36) (v := (0 : Int32)) g dX1_settledPairs_35 rfl (by decide) ?_
  refine zr_istore (q := 38) (lv' := [(7, .int (0 : Int32)), (6, .int y15), (5, .int y11), (4, .int y7), (3, .int y3), (0, .ref (E.2.1 30)), (1, .int x1), (2, .int x2)]) g dX1_settledPairs_36 rfl (by decide) rfl ?_
  refine zr_iload (q := 40) g 0 dX1_settledPairs_38 rfl rfl ?_
  refine zr_iload_n (q := 41) g 4 dX1_settledPairs_40 rfl rfl rfl ?_
  refine zr_iload (q := 43) g 2 dX1_settledPairs_41 rfl rfl ?_
  refine zr_bipush (q := 45) (v := (6 : Int32)) g dX1_settledPairs_43 rfl (by decide) ?_
  refine zr_isub (q := 46) g dX1_settledPairs_45 rfl ?_
  refine zr_icmp_lt (q := 49) (tgt := 62) g dX1_settledPairs_46 rfl rfl (fun c17 => ?_) (fun c17 => ?_)
  · replace hM := zw_ift c17 hM
    refine zr_lv (lv' := [(3, .int y3), (4, .int y7), (5, .int y11), (6, .int y15)]) [4, 3, 2, 1] rfl ?_
    exact U_X1_settledPairs_62 ok hI g hr hlk _ _ _ _ _ _ _ hM
  · replace hM := zw_iff c17 hM
    refine zr_iload_n (q := 50) g 4 dX1_settledPairs_49 rfl rfl rfl ?_
    refine zr_iload (q := 52) g 3 dX1_settledPairs_50 rfl rfl ?_
    refine zr_bipush (q := 54) (v := (6 : Int32)) g dX1_settledPairs_52 rfl (by decide) ?_
    refine zr_isub (q := 55) g dX1_settledPairs_54 rfl ?_
    refine zr_icmp_lt (q := 58) (tgt := 62) g dX1_settledPairs_55 rfl rfl (fun c18 => ?_) (fun c18 => ?_)
    · replace hM := zw_ift c18 hM
      refine zr_lv (lv' := [(3, .int y3), (4, .int y7), (5, .int y11), (6, .int y15)]) [4, 3, 2, 1] rfl ?_
      exact U_X1_settledPairs_62 ok hI g hr hlk _ _ _ _ _ _ _ hM
    · replace hM := zw_iff c18 hM
      refine zr_iconst (q := 59) (v := (1 : Int32)) g dX1_settledPairs_58 rfl (by decide) ?_
      refine zr_goto (tgt := 63) g dX1_settledPairs_59 rfl ?_
      refine zr_lv (lv' := [(3, .int y3), (4, .int y7), (5, .int y11), (6, .int y15)]) [4, 3, 2, 1] rfl ?_
      exact U_X1_settledPairs_63 ok hI g hr hlk _ _ _ _ _ _ _ _ hM
noncomputable def B_X8_firstPair_2 (h : zw_Hp) (k2 : (Int32 × Int32) → Option (Int32)) (x0 : Int32) (x1 : Int32) : Option (Int32) :=
  if (4 : Int32) ≤ x1 then (some (-9 : Int32)) else (if ((x0 >>> (x1 &&& 31)) &&& (1 : Int32)) = (1 : Int32) then (some (((10 : Int32) * (x1 >>> ((1 : Int32) &&& 31))) + (x1 &&& (1 : Int32)))) else (zw_nm (x1 + (1 : Int32)) (fun y3 => k2 (x0, y3))))
set_option maxRecDepth 100000 in
set_option maxHeartbeats 4000000 in
theorem U_X8_firstPair_2 {h : zw_Hp} (ok : zw_Ok E) (hI : ∀ i, i < 48 → i ∈ E.2.2.1) (g : zw_G p E (zw_A E) s m args c RX8 cX8_firstPair 2) (hr : meth.sig.returnType = some .int) (hlk : meth.locks = false) {k2 : (Int32 × Int32) → Option (Int32)} (eL2 : ∀ (w : Int32 × Int32) (z : Int32), k2 w = some z → zw_V p l e s m args below meth c E mt_X8_firstPair 2 (some (.int z)) h 2 [(0, .int w.1), (1, .int w.2)] [] h) :
    ∀ (x0 : Int32) (x1 : Int32) (z : Int32), B_X8_firstPair_2 h k2 x0 x1 = some z → zw_V p l e s m args below meth c E mt_X8_firstPair 2 (some (.int z)) h 2 [(0, .int x0), (1, .int x1)] [] h := by
  intro x0 x1 z hM
  unfold B_X8_firstPair_2 at hM
  refine zr_iload_n (q := 3) g 1 dX8_firstPair_2 rfl rfl rfl ?_
  refine zr_iconst (q := 4) (v := (4 : Int32)) g dX8_firstPair_3 rfl (by decide) ?_
  refine zr_icmp_ge (q := 7) (tgt := 33) g dX8_firstPair_4 rfl rfl (fun c1 => ?_) (fun c1 => ?_)
  · replace hM := zw_ift c1 hM
    refine zr_bipush (q := 35) (v := (-9 : Int32)) g dX8_firstPair_33 rfl (by decide) ?_
    cases hM
    exact zr_iret g hr hlk dX8_firstPair_35 rfl rfl
  · replace hM := zw_iff c1 hM
    refine zr_iload_n (q := 8) g 0 dX8_firstPair_7 rfl rfl rfl ?_
    refine zr_iload_n (q := 9) g 1 dX8_firstPair_8 rfl rfl rfl ?_
    refine zr_ishr (q := 10) g dX8_firstPair_9 rfl ?_
    refine zr_iconst (q := 11) (v := (1 : Int32)) g dX8_firstPair_10 rfl (by decide) ?_
    refine zr_iand (q := 12) g dX8_firstPair_11 rfl ?_
    refine zr_iconst (q := 13) (v := (1 : Int32)) g dX8_firstPair_12 rfl (by decide) ?_
    refine zr_icmp_ne (q := 16) (tgt := 27) g dX8_firstPair_13 rfl rfl (fun c2 => ?_) (fun c2 => ?_)
    · replace hM := zw_iff c2 hM
      obtain ⟨y3, e4, hM⟩ := zw_nm_ex hM
      refine zr_iinc (q := 30) (v := y3) (lv' := [(1, .int y3), (0, .int x0)]) g 1 dX8_firstPair_27 rfl rfl (by rw [e4]; rfl) (by decide) rfl ?_
      refine zr_goto (tgt := 2) g dX8_firstPair_30 rfl ?_
      refine zr_lv (lv' := [(0, .int x0), (1, .int y3)]) [1, 0] rfl ?_
      exact eL2 _ _ hM
    · replace hM := zw_ift c2 hM
      refine zr_bipush (q := 18) (v := (10 : Int32)) g dX8_firstPair_16 rfl (by decide) ?_
      refine zr_iload_n (q := 19) g 1 dX8_firstPair_18 rfl rfl rfl ?_
      refine zr_iconst (q := 20) (v := (1 : Int32)) g dX8_firstPair_19 rfl (by decide) ?_
      refine zr_ishr (q := 21) g dX8_firstPair_20 rfl ?_
      refine zr_imul (q := 22) g dX8_firstPair_21 rfl ?_
      refine zr_iload_n (q := 23) g 1 dX8_firstPair_22 rfl rfl rfl ?_
      refine zr_iconst (q := 24) (v := (1 : Int32)) g dX8_firstPair_23 rfl (by decide) ?_
      refine zr_iand (q := 25) g dX8_firstPair_24 rfl ?_
      refine zr_iadd (q := 26) g dX8_firstPair_25 rfl ?_
      cases hM
      exact zr_iret g hr hlk dX8_firstPair_26 rfl rfl
noncomputable def L_X8_firstPair_2 (h : zw_Hp) (w : Int32 × Int32) : Option (Int32) :=
  zw_it (fun (k2 : (Int32 × Int32) → Option (Int32)) (w : Int32 × Int32) => B_X8_firstPair_2 h k2 (w.1) (w.2)) 600 w
theorem UL_X8_firstPair_2 {h : zw_Hp} (ok : zw_Ok E) (hI : ∀ i, i < 48 → i ∈ E.2.2.1) (g : zw_G p E (zw_A E) s m args c RX8 cX8_firstPair 2) (hr : meth.sig.returnType = some .int) (hlk : meth.locks = false) :
    ∀ (w : Int32 × Int32) (z : Int32), L_X8_firstPair_2 h w = some z → zw_V p l e s m args below meth c E mt_X8_firstPair 2 (some (.int z)) h 2 [(0, .int w.1), (1, .int w.2)] [] h :=
  fun w z hM => zw_it_ind (P := fun (w : Int32 × Int32) (z : Int32) => zw_V p l e s m args below meth c E mt_X8_firstPair 2 (some (.int z)) h 2 [(0, .int w.1), (1, .int w.2)] [] h) (fun k e w z hM => U_X8_firstPair_2 ok hI g hr hlk e _ _ _ hM) 600 w z hM
noncomputable def M_X8_firstPair (x0 : Int32) (h : zw_Hp) : Option (Int32) :=
  L_X8_firstPair_2 h (x0, (0 : Int32))
set_option maxRecDepth 100000 in
set_option maxHeartbeats 4000000 in
theorem R_X8_firstPair (ok : zw_Ok E) (hI : ∀ i, i < 48 → i ∈ E.2.2.1) {x0 : Int32} {h : zw_Hp} {z : Int32} (hM : M_X8_firstPair x0 h = some z) : zw_Ct l E mt_X8_firstPair [.int x0] h (some (.int z)) h := by
  unfold M_X8_firstPair at hM
  refine zw_ct (lv0 := [(0, .int x0)]) ok (by decide) rfl (Nat.le_of_ble_eq_true rfl) (fun p e s m args below meth c g hr hlk => ?_)
  replace g : zw_G p E (zw_A E) s m args c RX8 cX8_firstPair 2 := g
  show zw_V p l e s m args below meth c E mt_X8_firstPair 2 (some (.int z)) h 0 [(0, .int x0)] [] h
  refine zr_iconst (q := 1) (v := (0 : Int32)) g dX8_firstPair_0 rfl (by decide) ?_
  refine zr_istore_n (q := 2) (lv' := [(1, .int (0 : Int32)), (0, .int x0)]) g dX8_firstPair_1 rfl rfl (by decide) rfl ?_
  refine zr_lv (lv' := [(0, .int x0), (1, .int (0 : Int32))]) [1, 0] rfl ?_
  exact UL_X8_firstPair_2 ok hI g hr hlk _ _ hM
noncomputable def M_X8_rests (x1 : Int32) (x2 : Int32) (x3 : Int32) (h : zw_Hp) : Option (Int32 × zw_Hp) :=
  (M_X2_hasPerson 6 x1 h).bind (fun z1 => if z1 = 0 then (some ((-1 : Int32), h)) else ((M_X2_hasPerson 6 x2 h).bind (fun z4 => if z4 = 0 then (some ((-1 : Int32), h)) else (if x1 = x2 then (some ((-2 : Int32), h)) else ((M_X8_isZeroOrOne x3 h).bind (fun z8 => if z8 = 0 then (some ((-2 : Int32), h)) else ((M_X1_settledPairs x1 x2 h).bind (fun z11 => zw_nm z11.1 (fun y13 => if x3 = 0 then ((M_J6_bitCount_0f7a4 y13 z11.2).bind (fun z18 => some (z18, z11.2))) else ((M_X8_firstPair y13 z11.2).bind (fun z16 => some (z16, z11.2))))))))))))
set_option maxRecDepth 100000 in
set_option maxHeartbeats 4000000 in
theorem R_X8_rests (ok : zw_Ok E) (hI : ∀ i, i < 48 → i ∈ E.2.2.1) {x1 : Int32} {x2 : Int32} {x3 : Int32} {h : zw_Hp} {z : Int32 × zw_Hp} (hM : M_X8_rests x1 x2 x3 h = some z) : zw_Ct l E mt_X8_rests [.ref (E.2.1 0), .int x1, .int x2, .int x3] h (some (.int z.1)) z.2 := by
  unfold M_X8_rests at hM
  refine zw_ct (lv0 := [(0, .ref (E.2.1 0)), (1, .int x1), (2, .int x2), (3, .int x3)]) ok (by decide) rfl (Nat.le_of_ble_eq_true rfl) (fun p e s m args below meth c g hr hlk => ?_)
  replace g : zw_G p E (zw_A E) s m args c RX8 cX8_rests 5 := g
  show zw_V p l e s m args below meth c E mt_X8_rests 5 (some (.int z.1)) z.2 0 [(0, .ref (E.2.1 0)), (1, .int x1), (2, .int x2), (3, .int x3)] [] h
  refine zr_aload_n (q := 1) g 0 dX8_rests_0 rfl rfl rfl ?_
  refine zr_getr (q := 4) (k0 := 2) (j := 6) g (hI 0 (by decide)) zs_0 rfl zf_X8_23 dX8_rests_1 rfl ?_
  refine zr_iload_n (q := 5) g 1 dX8_rests_4 rfl rfl rfl ?_
  obtain ⟨z1, q2, hM⟩ := zw_bd hM
  refine zr_callV (q := 8) (As := [.int x1]) (rest := []) (st' := [.int z1]) (i := 6) g (R_X2_hasPerson (Or.inr rfl) ok hI q2) zv_X2_hasPerson zl_X8_135 (hI 6 (by decide)) zs_6 zc_X2.1 dX8_rests_5 rfl rfl ⟨Nat.le_of_ble_eq_true rfl, Nat.le_of_ble_eq_true rfl⟩ ⟨Nat.zero_le _, Nat.zero_le _⟩ (Nat.le_of_ble_eq_true rfl) rfl rfl ?_
  refine zr_if_eq (q := 11) (tgt := 22) g dX8_rests_8 rfl rfl (fun c3 => ?_) (fun c3 => ?_)
  · replace hM := zw_ift c3 hM
    refine zr_iconst (q := 23) (v := (-1 : Int32)) g dX8_rests_22 rfl (by decide) ?_
    cases hM
    exact zr_iret g hr hlk dX8_rests_23 rfl rfl
  · replace hM := zw_iff c3 hM
    refine zr_aload_n (q := 12) g 0 dX8_rests_11 rfl rfl rfl ?_
    refine zr_getr (q := 15) (k0 := 2) (j := 6) g (hI 0 (by decide)) zs_0 rfl zf_X8_23 dX8_rests_12 rfl ?_
    refine zr_iload_n (q := 16) g 2 dX8_rests_15 rfl rfl rfl ?_
    obtain ⟨z4, q5, hM⟩ := zw_bd hM
    refine zr_callV (q := 19) (As := [.int x2]) (rest := []) (st' := [.int z4]) (i := 6) g (R_X2_hasPerson (Or.inr rfl) ok hI q5) zv_X2_hasPerson zl_X8_135 (hI 6 (by decide)) zs_6 zc_X2.1 dX8_rests_16 rfl rfl ⟨Nat.le_of_ble_eq_true rfl, Nat.le_of_ble_eq_true rfl⟩ ⟨Nat.zero_le _, Nat.zero_le _⟩ (Nat.le_of_ble_eq_true rfl) rfl rfl ?_
    refine zr_if_ne (q := 22) (tgt := 24) g dX8_rests_19 rfl rfl (fun c6 => ?_) (fun c6 => ?_)
    · replace hM := zw_iff c6 hM
      refine zr_iload_n (q := 25) g 1 dX8_rests_24 rfl rfl rfl ?_
      refine zr_iload_n (q := 26) g 2 dX8_rests_25 rfl rfl rfl ?_
      refine zr_icmp_eq (q := 29) (tgt := 36) g dX8_rests_26 rfl rfl (fun c7 => ?_) (fun c7 => ?_)
      · replace hM := zw_ift c7 hM
        refine zr_bipush (q := 38) (v := (-2 : Int32)) g dX8_rests_36 rfl (by decide) ?_
        cases hM
        exact zr_iret g hr hlk dX8_rests_38 rfl rfl
      · replace hM := zw_iff c7 hM
        refine zr_iload_n (q := 30) g 3 dX8_rests_29 rfl rfl rfl ?_
        obtain ⟨z8, q9, hM⟩ := zw_bd hM
        refine zr_callS (q := 33) (As := [.int x3]) (rest := []) (st' := [.int z8]) g (R_X8_isZeroOrOne ok hI q9) zv_X8_isZeroOrOne zl_X8_197 dX8_rests_30 rfl rfl ⟨Nat.le_of_ble_eq_true rfl, Nat.le_of_ble_eq_true rfl⟩ ⟨Nat.zero_le _, Nat.zero_le _⟩ (Nat.le_of_ble_eq_true rfl) rfl rfl ?_
        refine zr_if_ne (q := 36) (tgt := 39) g dX8_rests_33 rfl rfl (fun c10 => ?_) (fun c10 => ?_)
        · replace hM := zw_iff c10 hM
          refine zr_aload_n (q := 40) g 0 dX8_rests_39 rfl rfl rfl ?_
          refine zr_getr (q := 43) (k0 := 9) (j := 30) g (hI 0 (by decide)) zs_0 rfl zf_X8_74 dX8_rests_40 rfl ?_
          refine zr_iload_n (q := 44) g 1 dX8_rests_43 rfl rfl rfl ?_
          refine zr_iload_n (q := 45) g 2 dX8_rests_44 rfl rfl rfl ?_
          obtain ⟨z11, q12, hM⟩ := zw_bd hM
          refine zr_callV (q := 48) (As := [.int x1, .int x2]) (rest := []) (st' := [.int z11.1]) (i := 30) g (R_X1_settledPairs ok hI q12) zv_X1_settledPairs zl_X8_247 (hI 30 (by decide)) zs_30 zc_X1.1 dX8_rests_45 rfl rfl ⟨Nat.le_of_ble_eq_true rfl, Nat.le_of_ble_eq_true rfl⟩ ⟨Nat.zero_le _, Nat.zero_le _⟩ (Nat.le_of_ble_eq_true rfl) rfl rfl ?_
          obtain ⟨y13, e14, hM⟩ := zw_nm_ex hM
          refine zr_nmi e14 ?_
          refine zr_istore (q := 50) (lv' := [(4, .int y13), (0, .ref (E.2.1 0)), (1, .int x1), (2, .int x2), (3, .int x3)]) g dX8_rests_48 rfl (by decide) rfl ?_
          refine zr_iload_n (q := 51) g 4 dX8_rests_50 rfl rfl rfl ?_
          refine zr_if_ne (q := 54) (tgt := 60) g dX8_rests_51 rfl rfl (fun c15 => ?_) (fun c15 => ?_)
          · replace hM := zw_iff c15 hM
            refine zr_iload (q := 62) g 0 dX8_rests_60 rfl rfl ?_
            obtain ⟨z16, q17, hM⟩ := zw_bd hM
            refine zr_callS (q := 65) (As := [.int y13]) (rest := []) (st' := [.int z16]) g (R_X8_firstPair ok hI q17) zv_X8_firstPair zl_X8_251 dX8_rests_62 rfl rfl ⟨Nat.le_of_ble_eq_true rfl, Nat.le_of_ble_eq_true rfl⟩ ⟨Nat.zero_le _, Nat.zero_le _⟩ (Nat.le_of_ble_eq_true rfl) rfl rfl ?_
            cases hM
            exact zr_iret g hr hlk dX8_rests_65 rfl rfl
          · replace hM := zw_ift c15 hM
            refine zr_iload (q := 56) g 0 dX8_rests_54 rfl rfl ?_
            obtain ⟨z18, q19, hM⟩ := zw_bd hM
            refine zr_callS (q := 59) (As := [.int y13]) (rest := []) (st' := [.int z18]) g (R_J6_bitCount_0f7a4 ok hI q19) zv_J6_bitCount_0f7a4 zl_X8_183 dX8_rests_56 rfl rfl ⟨Nat.le_of_ble_eq_true rfl, Nat.le_of_ble_eq_true rfl⟩ ⟨Nat.zero_le _, Nat.zero_le _⟩ (Nat.le_of_ble_eq_true rfl) rfl rfl ?_
            cases hM
            exact zr_iret g hr hlk dX8_rests_59 rfl rfl
        · replace hM := zw_ift c10 hM
          refine zr_bipush (q := 38) (v := (-2 : Int32)) g dX8_rests_36 rfl (by decide) ?_
          cases hM
          exact zr_iret g hr hlk dX8_rests_38 rfl rfl
    · replace hM := zw_ift c6 hM
      refine zr_iconst (q := 23) (v := (-1 : Int32)) g dX8_rests_22 rfl (by decide) ?_
      cases hM
      exact zr_iret g hr hlk dX8_rests_23 rfl rfl
end
