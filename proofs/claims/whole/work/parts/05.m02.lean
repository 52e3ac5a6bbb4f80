section
variable {p : Program} {l : Launch} {e : Env} {s : State} {m : MethodId} {args : Array Value} {below : List Frame} {meth : Method} {c : Code} {E : zw_En}
noncomputable def M_X6_add (x1 : Int32) (x2 : Int32) (x3 : Int32) (h : zw_Hp) : Option (Int32 × zw_Hp) :=
  if (h.1 24 3) < 0 then (some ((0 : Int32), h)) else (if (h.1 24 3) < (6 : Int32) then (if zw_ok (h.1 24 3) 6 = true then zw_nm (zw_up h 25 ((h.1 24 3)).toNatClampNeg x1) (fun h4 => if zw_ok (h4.1 24 3) 6 = true then zw_nm (zw_up h4 26 ((h4.1 24 3)).toNatClampNeg x2) (fun h7 => if zw_ok (h7.1 24 3) 6 = true then zw_nm (zw_up h7 27 ((h7.1 24 3)).toNatClampNeg x3) (fun h10 => zw_nm (zw_up h10 24 3 ((h10.1 24 3) + (1 : Int32))) (fun h12 => some ((1 : Int32), h12))) else none) else none) else none) else (some ((0 : Int32), h)))
set_option maxRecDepth 100000 in
set_option maxHeartbeats 4000000 in
theorem R_X6_add (ok : zw_Ok E) (hI : ∀ i, i < 48 → i ∈ E.2.2.1) {x1 : Int32} {x2 : Int32} {x3 : Int32} {h : zw_Hp} {z : Int32 × zw_Hp} (hM : M_X6_add x1 x2 x3 h = some z) : zw_Ct l E mt_X6_add [.ref (E.2.1 24), .int x1, .int x2, .int x3] h (some (.int z.1)) z.2 := by
  unfold M_X6_add at hM
  refine zw_ct (lv0 := [(0, .ref (E.2.1 24)), (1, .int x1), (2, .int x2), (3, .int x3)]) ok (by decide) rfl (Nat.le_of_ble_eq_true rfl) (fun p e s m args below meth c g hr hlk => ?_)
  replace g : zw_G p E (zw_A E) s m args c RX6 cX6_add 4 := g
  show zw_V p l e s m args below meth c E mt_X6_add 4 (some (.int z.1)) z.2 0 [(0, .ref (E.2.1 24)), (1, .int x1), (2, .int x2), (3, .int x3)] [] h
  refine zr_aload_n (q := 1) g 0 dX6_add_0 rfl rfl rfl ?_
  refine zr_geti (q := 4) (k0 := 3) g (hI 24 (by decide)) zs_24 rfl zf_X6_21 dX6_add_1 rfl ?_
  refine zr_if_lt (q := 7) (tgt := 16) g dX6_add_4 rfl rfl (fun c1 => ?_) (fun c1 => ?_)
  · replace hM := zw_ift c1 hM
    refine zr_iconst (q := 17) (v := (0 : Int32)) g dX6_add_16 rfl (by decide) ?_
    cases hM
    exact zr_zret g hr hlk (by decide) dX6_add_17 rfl rfl
  · replace hM := zw_iff c1 hM
    refine zr_aload_n (q := 8) g 0 dX6_add_7 rfl rfl rfl ?_
    refine zr_geti (q := 11) (k0 := 3) g (hI 24 (by decide)) zs_24 rfl zf_X6_21 dX6_add_8 rfl ?_
    refine zr_bipush (q := 13) (v := (6 : Int32)) g dX6_add_11 rfl (by decide) ?_
    refine zr_icmp_lt (q := 16) (tgt := 18) g dX6_add_13 rfl rfl (fun c2 => ?_) (fun c2 => ?_)
    · replace hM := zw_ift c2 hM
      refine zr_aload_n (q := 19) g 0 dX6_add_18 rfl rfl rfl ?_
      refine zr_getr (q := 22) (k0 := 0) (j := 25) g (hI 24 (by decide)) zs_24 rfl zf_X6_9 dX6_add_19 rfl ?_
      refine zr_aload_n (q := 23) g 0 dX6_add_22 rfl rfl rfl ?_
      refine zr_geti (q := 26) (k0 := 3) g (hI 24 (by decide)) zs_24 rfl zf_X6_21 dX6_add_23 rfl ?_
      refine zr_iload_n (q := 27) g 1 dX6_add_26 rfl rfl rfl ?_
      obtain ⟨c3, hM⟩ := zw_gd hM
      obtain ⟨h4, e5, hM⟩ := zw_nm_ex hM
      refine zr_iast (q := 28) (h' := h4) g (hI 25 (by decide)) zs_25 c3 dX6_add_27 rfl e5 ?_
      refine zr_aload_n (q := 29) g 0 dX6_add_28 rfl rfl rfl ?_
      refine zr_getr (q := 32) (k0 := 1) (j := 26) g (hI 24 (by decide)) zs_24 rfl zf_X6_15 dX6_add_29 rfl ?_
      refine zr_aload_n (q := 33) g 0 dX6_add_32 rfl rfl rfl ?_
      refine zr_geti (q := 36) (k0 := 3) g (hI 24 (by decide)) zs_24 rfl zf_X6_21 dX6_add_33 rfl ?_
      refine zr_iload_n (q := 37) g 2 dX6_add_36 rfl rfl rfl ?_
      obtain ⟨c6, hM⟩ := zw_gd hM
      obtain ⟨h7, e8, hM⟩ := zw_nm_ex hM
      refine zr_iast (q := 38) (h' := h7) g (hI 26 (by decide)) zs_26 c6 dX6_add_37 rfl e8 ?_
      refine zr_aload_n (q := 39) g 0 dX6_add_38 rfl rfl rfl ?_
      refine zr_getr (q := 42) (k0 := 2) (j := 27) g (hI 24 (by decide)) zs_24 rfl zf_X6_18 dX6_add_39 rfl ?_
      refine zr_aload_n (q := 43) g 0 dX6_add_42 rfl rfl rfl ?_
      refine zr_geti (q := 46) (k0 := 3) g (hI 24 (by decide)) zs_24 rfl zf_X6_21 dX6_add_43 rfl ?_
      refine zr_iload_n (q := 47) g 3 dX6_add_46 rfl rfl rfl ?_
      obtain ⟨c9, hM⟩ := zw_gd hM
      obtain ⟨h10, e11, hM⟩ := zw_nm_ex hM
      refine zr_iast (q := 48) (h' := h10) g (hI 27 (by decide)) zs_27 c9 dX6_add_47 rfl e11 ?_
      refine zr_aload_n (q := 49) g 0 dX6_add_48 rfl rfl rfl ?_
      refine zr_dup (q := 50) g dX6_add_49 rfl rfl ?_
      refine zr_geti (q := 53) (k0 := 3) g (hI 24 (by decide)) zs_24 rfl zf_X6_21 dX6_add_50 rfl ?_
      refine zr_iconst (q := 54) (v := (1 : Int32)) g dX6_add_53 rfl (by decide) ?_
      refine zr_iadd (q := 55) g dX6_add_54 rfl ?_
      obtain ⟨h12, e13, hM⟩ := zw_nm_ex hM
      refine zr_puti (q := 58) (k0 := 3) (h' := h12) g (hI 24 (by decide)) zs_24 rfl zp_X6_21 dX6_add_55 rfl e13 ?_
      refine zr_iconst (q := 59) (v := (1 : Int32)) g dX6_add_58 rfl (by decide) ?_
      cases hM
      exact zr_zret g hr hlk (by decide) dX6_add_59 rfl rfl
    · replace hM := zw_iff c2 hM
      refine zr_iconst (q := 17) (v := (0 : Int32)) g dX6_add_16 rfl (by decide) ?_
      cases hM
      exact zr_zret g hr hlk (by decide) dX6_add_17 rfl rfl
noncomputable def B_X6_fits_72 (h : zw_Hp) (k2 : (Int32 × Int32 × Int32) → Option (Int32)) (x1 : Int32) (x2 : Int32) (x3 : Int32) (s0 : Int32) (s1 : Int32) : Option (Int32) :=
  if s1 = s0 then (zw_nm (x3 + (1 : Int32)) (fun y10 => k2 (x1, x2, y10))) else (some (0 : Int32))
set_option maxRecDepth 100000 in
set_option maxHeartbeats 4000000 in
theorem U_X6_fits_72 {h : zw_Hp} (ok : zw_Ok E) (hI : ∀ i, i < 48 → i ∈ E.2.2.1) (g : zw_G p E (zw_A E) s m args c RX6 cX6_fits 5) (hr : meth.sig.returnType = some .boolean) (hlk : meth.locks = false) {k2 : (Int32 × Int32 × Int32) → Option (Int32)} (eL2 : ∀ (w : Int32 × Int32 × Int32) (z : Int32), k2 w = some z → zw_V p l e s m args below meth c E mt_X6_fits 5 (some (.int z)) h 2 [(0, .ref (E.2.1 24)), (1, .int w.1), (2, .int w.2.1), (3, .int w.2.2)] [] h) :
    ∀ (x1 : Int32) (x2 : Int32) (x3 : Int32) (s0 : Int32) (s1 : Int32) (z : Int32), B_X6_fits_72 h k2 x1 x2 x3 s0 s1 = some z → zw_V p l e s m args below meth c E mt_X6_fits 5 (some (.int z)) h 72 [(0, .ref (E.2.1 24)), (1, .int x1), (2, .int x2), (3, .int x3)] [.int s0, .int s1] h := by
  intro x1 x2 x3 s0 s1 z hM
  unfold B_X6_fits_72 at hM
  refine zr_icmp_eq (q := 75) (tgt := 77) g dX6_fits_72 rfl rfl (fun c9 => ?_) (fun c9 => ?_)
  · replace hM := zw_ift c9 hM
    obtain ⟨y10, e11, hM⟩ := zw_nm_ex hM
    refine zr_iinc (q := 80) (v := y10) (lv' := [(3, .int y10), (0, .ref (E.2.1 24)), (1, .int x1), (2, .int x2)]) g 3 dX6_fits_77 rfl rfl (by rw [e11]; rfl) (by decide) rfl ?_
    refine zr_goto (tgt := 2) g dX6_fits_80 rfl ?_
    refine zr_lv (lv' := [(0, .ref (E.2.1 24)), (1, .int x1), (2, .int x2), (3, .int y10)]) [1, 2, 3, 0] rfl ?_
    exact eL2 _ _ hM
  · replace hM := zw_iff c9 hM
    refine zr_iconst (q := 76) (v := (0 : Int32)) g dX6_fits_75 rfl (by decide) ?_
    cases hM
    exact zr_zret g hr hlk (by decide) dX6_fits_76 rfl rfl
noncomputable def B_X6_fits_57 (h : zw_Hp) (k2 : (Int32 × Int32 × Int32) → Option (Int32)) (x1 : Int32) (x2 : Int32) (x3 : Int32) (s0 : Int32) : Option (Int32) :=
  if zw_ok x3 6 = true then (if (h.1 27 (x3).toNatClampNeg) = (1 : Int32) then (B_X6_fits_72 h k2 x1 x2 x3 (1 : Int32) s0) else (B_X6_fits_72 h k2 x1 x2 x3 (0 : Int32) s0)) else none
set_option maxRecDepth 100000 in
set_option maxHeartbeats 4000000 in
theorem U_X6_fits_57 {h : zw_Hp} (ok : zw_Ok E) (hI : ∀ i, i < 48 → i ∈ E.2.2.1) (g : zw_G p E (zw_A E) s m args c RX6 cX6_fits 5) (hr : meth.sig.returnType = some .boolean) (hlk : meth.locks = false) {k2 : (Int32 × Int32 × Int32) → Option (Int32)} (eL2 : ∀ (w : Int32 × Int32 × Int32) (z : Int32), k2 w = some z → zw_V p l e s m args below meth c E mt_X6_fits 5 (some (.int z)) h 2 [(0, .ref (E.2.1 24)), (1, .int w.1), (2, .int w.2.1), (3, .int w.2.2)] [] h) :
    ∀ (x1 : Int32) (x2 : Int32) (x3 : Int32) (s0 : Int32) (z : Int32), B_X6_fits_57 h k2 x1 x2 x3 s0 = some z → zw_V p l e s m args below meth c E mt_X6_fits 5 (some (.int z)) h 57 [(0, .ref (E.2.1 24)), (1, .int x1), (2, .int x2), (3, .int x3)] [.int s0] h := by
  intro x1 x2 x3 s0 z hM
  unfold B_X6_fits_57 at hM
  refine zr_aload_n (q := 58) g 0 dX6_fits_57 rfl rfl rfl ?_
  refine zr_getr (q := 61) (k0 := 2) (j := 27) g (hI 24 (by decide)) zs_24 rfl zf_X6_18 dX6_fits_58 rfl ?_
  refine zr_iload_n (q := 62) g 3 dX6_fits_61 rfl rfl rfl ?_
  obtain ⟨c7, hM⟩ := zw_gd hM
  refine zr_iald (q := 63) g (hI 27 (by decide)) zs_27 c7 dX6_fits_62 rfl ?_
  refine zr_iconst (q := 64) (v := (1 : Int32)) g dX6_fits_63 rfl (by decide) ?_
  refine zr_icmp_ne (q := 67) (tgt := 71) g dX6_fits_64 rfl rfl (fun c8 => ?_) (fun c8 => ?_)
  · replace hM := zw_iff c8 hM
    refine zr_iconst (q := 72) (v := (0 : Int32)) g dX6_fits_71 rfl (by decide) ?_
    exact U_X6_fits_72 ok hI g hr hlk eL2 _ _ _ _ _ _ hM
  · replace hM := zw_ift c8 hM
    refine zr_iconst (q := 68) (v := (1 : Int32)) g dX6_fits_67 rfl (by decide) ?_
    refine zr_goto (tgt := 72) g dX6_fits_68 rfl ?_
    exact U_X6_fits_72 ok hI g hr hlk eL2 _ _ _ _ _ _ hM
noncomputable def B_X6_fits_39 (h : zw_Hp) (k2 : (Int32 × Int32 × Int32) → Option (Int32)) (x1 : Int32) (x2 : Int32) (x3 : Int32) (s0 : Int32) : Option (Int32) :=
  if zw_ok x3 6 = true then (if s0 < (h.1 26 (x3).toNatClampNeg) then (B_X6_fits_57 h k2 x1 x2 x3 (0 : Int32)) else (B_X6_fits_57 h k2 x1 x2 x3 (1 : Int32))) else none
set_option maxRecDepth 100000 in
set_option maxHeartbeats 4000000 in
theorem U_X6_fits_39 {h : zw_Hp} (ok : zw_Ok E) (hI : ∀ i, i < 48 → i ∈ E.2.2.1) (g : zw_G p E (zw_A E) s m args c RX6 cX6_fits 5) (hr : meth.sig.returnType = some .boolean) (hlk : meth.locks = false) {k2 : (Int32 × Int32 × Int32) → Option (Int32)} (eL2 : ∀ (w : Int32 × Int32 × Int32) (z : Int32), k2 w = some z → zw_V p l e s m args below meth c E mt_X6_fits 5 (some (.int z)) h 2 [(0, .ref (E.2.1 24)), (1, .int w.1), (2, .int w.2.1), (3, .int w.2.2)] [] h) :
    ∀ (x1 : Int32) (x2 : Int32) (x3 : Int32) (s0 : Int32) (z : Int32), B_X6_fits_39 h k2 x1 x2 x3 s0 = some z → zw_V p l e s m args below meth c E mt_X6_fits 5 (some (.int z)) h 39 [(0, .ref (E.2.1 24)), (1, .int x1), (2, .int x2), (3, .int x3)] [.int s0] h := by
  intro x1 x2 x3 s0 z hM
  unfold B_X6_fits_39 at hM
  refine zr_istore (q := 41) (lv' := [(4, .int s0), (0, .ref (E.2.1 24)), (1, .int x1), (2, .int x2), (3, .int x3)]) g dX6_fits_39 rfl (by decide) rfl ?_
  refine zr_iload (q := 43) g 0 dX6_fits_41 rfl rfl ?_
  refine zr_aload_n (q := 44) g 1 dX6_fits_43 rfl rfl rfl ?_
  refine zr_getr (q := 47) (k0 := 1) (j := 26) g (hI 24 (by decide)) zs_24 rfl zf_X6_15 dX6_fits_44 rfl ?_
  refine zr_iload_n (q := 48) g 4 dX6_fits_47 rfl rfl rfl ?_
  obtain ⟨c5, hM⟩ := zw_gd hM
  refine zr_iald (q := 49) g (hI 26 (by decide)) zs_26 c5 dX6_fits_48 rfl ?_
  refine zr_icmp_lt (q := 52) (tgt := 56) g dX6_fits_49 rfl rfl (fun c6 => ?_) (fun c6 => ?_)
  · replace hM := zw_ift c6 hM
    refine zr_iconst (q := 57) (v := (0 : Int32)) g dX6_fits_56 rfl (by decide) ?_
    refine zr_lv (lv' := [(0, .ref (E.2.1 24)), (1, .int x1), (2, .int x2), (3, .int x3)]) [1, 2, 3, 4] rfl ?_
    exact U_X6_fits_57 ok hI g hr hlk eL2 _ _ _ _ _ hM
  · replace hM := zw_iff c6 hM
    refine zr_iconst (q := 53) (v := (1 : Int32)) g dX6_fits_52 rfl (by decide) ?_
    refine zr_goto (tgt := 57) g dX6_fits_53 rfl ?_
    refine zr_lv (lv' := [(0, .ref (E.2.1 24)), (1, .int x1), (2, .int x2), (3, .int x3)]) [1, 2, 3, 4] rfl ?_
    exact U_X6_fits_57 ok hI g hr hlk eL2 _ _ _ _ _ hM
noncomputable def B_X6_fits_2 (h : zw_Hp) (k2 : (Int32 × Int32 × Int32) → Option (Int32)) (x1 : Int32) (x2 : Int32) (x3 : Int32) : Option (Int32) :=
  if (h.1 24 3) ≤ x3 then (some (1 : Int32)) else (if (6 : Int32) ≤ x3 then (some (1 : Int32)) else (if x1 = 0 then (B_X6_fits_39 h k2 x1 x2 x3 (0 : Int32)) else (if zw_ok x3 6 = true then (B_X6_fits_39 h k2 x1 x2 x3 (if (x1 + (x2 * (h.1 25 (x3).toNatClampNeg))) < (99 : Int32) then (x1 + (x2 * (h.1 25 (x3).toNatClampNeg))) else (99 : Int32))) else none)))
set_option maxRecDepth 100000 in
set_option maxHeartbeats 4000000 in
theorem U_X6_fits_2 {h : zw_Hp} (ok : zw_Ok E) (hI : ∀ i, i < 48 → i ∈ E.2.2.1) (g : zw_G p E (zw_A E) s m args c RX6 cX6_fits 5) (hr : meth.sig.returnType = some .boolean) (hlk : meth.locks = false) {k2 : (Int32 × Int32 × Int32) → Option (Int32)} (eL2 : ∀ (w : Int32 × Int32 × Int32) (z : Int32), k2 w = some z → zw_V p l e s m args below meth c E mt_X6_fits 5 (some (.int z)) h 2 [(0, .ref (E.2.1 24)), (1, .int w.1), (2, .int w.2.1), (3, .int w.2.2)] [] h) :
    ∀ (x1 : Int32) (x2 : Int32) (x3 : Int32) (z : Int32), B_X6_fits_2 h k2 x1 x2 x3 = some z → zw_V p l e s m args below meth c E mt_X6_fits 5 (some (.int z)) h 2 [(0, .ref (E.2.1 24)), (1, .int x1), (2, .int x2), (3, .int x3)] [] h := by
  intro x1 x2 x3 z hM
  unfold B_X6_fits_2 at hM
  refine zr_iload_n (q := 3) g 3 dX6_fits_2 rfl rfl rfl ?_
  refine zr_aload_n (q := 4) g 0 dX6_fits_3 rfl rfl rfl ?_
  refine zr_geti (q := 7) (k0 := 3) g (hI 24 (by decide)) zs_24 rfl zf_X6_21 dX6_fits_4 rfl ?_
  refine zr_icmp_ge (q := 10) (tgt := 83) g dX6_fits_7 rfl rfl (fun c1 => ?_) (fun c1 => ?_)
  · replace hM := zw_ift c1 hM
    refine zr_iconst (q := 84) (v := (1 : Int32)) g dX6_fits_83 rfl (by decide) ?_
    cases hM
    exact zr_zret g hr hlk (by decide) dX6_fits_84 rfl rfl
  · replace hM := zw_iff c1 hM
    refine zr_iload_n (q := 11) g 3 dX6_fits_10 rfl rfl rfl ?_
    refine zr_bipush (q := 13) (v := (6 : Int32)) g dX6_fits_11 rfl (by decide) ?_
    refine zr_icmp_ge (q := 16) (tgt := 83) g dX6_fits_13 rfl rfl (fun c2 => ?_) (fun c2 => ?_)
    · replace hM := zw_ift c2 hM
      refine zr_iconst (q := 84) (v := (1 : Int32)) g dX6_fits_83 rfl (by decide) ?_
      cases hM
      exact zr_zret g hr hlk (by decide) dX6_fits_84 rfl rfl
    · replace hM := zw_iff c2 hM
      refine zr_iload_n (q := 17) g 1 dX6_fits_16 rfl rfl rfl ?_
      refine zr_if_ne (q := 20) (tgt := 24) g dX6_fits_17 rfl rfl (fun c3 => ?_) (fun c3 => ?_)
      · replace hM := zw_iff c3 hM
        refine zr_bipush (q := 26) (v := (99 : Int32)) g dX6_fits_24 rfl (by decide) ?_
        refine zr_iload_n (q := 27) g 1 dX6_fits_26 rfl rfl rfl ?_
        refine zr_iload_n (q := 28) g 2 dX6_fits_27 rfl rfl rfl ?_
        refine zr_aload_n (q := 29) g 0 dX6_fits_28 rfl rfl rfl ?_
        refine zr_getr (q := 32) (k0 := 0) (j := 25) g (hI 24 (by decide)) zs_24 rfl zf_X6_9 dX6_fits_29 rfl ?_
        refine zr_iload_n (q := 33) g 3 dX6_fits_32 rfl rfl rfl ?_
        obtain ⟨c4, hM⟩ := zw_gd hM
        refine zr_iald (q := 34) g (hI 25 (by decide)) zs_25 c4 dX6_fits_33 rfl ?_
        refine zr_imul (q := 35) g dX6_fits_34 rfl ?_
        refine zr_iadd (q := 36) g dX6_fits_35 rfl ?_
        refine zr_mmin (q := 39) g zl_X6_29 zl_mmin ⟨Nat.le_of_ble_eq_true rfl, Nat.le_of_ble_eq_true rfl⟩ ⟨Nat.zero_le _, Nat.zero_le _⟩ (Nat.le_of_ble_eq_true rfl) dX6_fits_36 rfl ?_
        exact U_X6_fits_39 ok hI g hr hlk eL2 _ _ _ _ _ hM
      · replace hM := zw_ift c3 hM
        refine zr_iconst (q := 21) (v := (0 : Int32)) g dX6_fits_20 rfl (by decide) ?_
        refine zr_goto (tgt := 39) g dX6_fits_21 rfl ?_
        exact U_X6_fits_39 ok hI g hr hlk eL2 _ _ _ _ _ hM
noncomputable def L_X6_fits_2 (h : zw_Hp) (w : Int32 × Int32 × Int32) : Option (Int32) :=
  zw_it (fun (k2 : (Int32 × Int32 × Int32) → Option (Int32)) (w : Int32 × Int32 × Int32) => B_X6_fits_2 h k2 (w.1) (w.2.1) (w.2.2)) 600 w
theorem UL_X6_fits_2 {h : zw_Hp} (ok : zw_Ok E) (hI : ∀ i, i < 48 → i ∈ E.2.2.1) (g : zw_G p E (zw_A E) s m args c RX6 cX6_fits 5) (hr : meth.sig.returnType = some .boolean) (hlk : meth.locks = false) :
    ∀ (w : Int32 × Int32 × Int32) (z : Int32), L_X6_fits_2 h w = some z → zw_V p l e s m args below meth c E mt_X6_fits 5 (some (.int z)) h 2 [(0, .ref (E.2.1 24)), (1, .int w.1), (2, .int w.2.1), (3, .int w.2.2)] [] h :=
  fun w z hM => zw_it_ind (P := fun (w : Int32 × Int32 × Int32) (z : Int32) => zw_V p l e s m args below meth c E mt_X6_fits 5 (some (.int z)) h 2 [(0, .ref (E.2.1 24)), (1, .int w.1), (2, .int w.2.1), (3, .int w.2.2)] [] h) (fun k e w z hM => U_X6_fits_2 ok hI g hr hlk e _ _ _ _ hM) 600 w z hM
noncomputable def M_X6_fits (x1 : Int32) (x2 : Int32) (h : zw_Hp) : Option (Int32) :=
  L_X6_fits_2 h (x1, x2, (0 : Int32))
set_option maxRecDepth 100000 in
set_option maxHeartbeats 4000000 in
theorem R_X6_fits (ok : zw_Ok E) (hI : ∀ i, i < 48 → i ∈ E.2.2.1) {x1 : Int32} {x2 : Int32} {h : zw_Hp} {z : Int32} (hM : M_X6_fits x1 x2 h = some z) : zw_Ct l E mt_X6_fits [.ref (E.2.1 24), .int x1, .int x2] h (some (.int z)) h := by
  unfold M_X6_fits at hM
  refine zw_ct (lv0 := [(0, .ref (E.2.1 24)), (1, .int x1), (2, .int x2)]) ok (by decide) rfl (Nat.le_of_ble_eq_true rfl) (fun p e s m args below meth c g hr hlk => ?_)
  replace g : zw_G p E (zw_A E) s m args c RX6 cX6_fits 5 := g
  show zw_V p l e s m args below meth c E mt_X6_fits 5 (some (.int z)) h 0 [(0, .ref (E.2.1 24)), (1, .int x1), (2, .int x2)] [] h
  refine zr_iconst (q := 1) (v := (0 : Int32)) g dX6_fits_0 rfl (by decide) ?_
  refine zr_istore_n (q := 2) (lv' := [(3, .int (0 : Int32)), (0, .ref (E.2.1 24)), (1, .int x1), (2, .int x2)]) g dX6_fits_1 rfl rfl (by decide) rfl ?_
  refine zr_lv (lv' := [(0, .ref (E.2.1 24)), (1, .int x1), (2, .int x2), (3, .int (0 : Int32))]) [1, 2, 3, 0] rfl ?_
  exact UL_X6_fits_2 ok hI g hr hlk _ _ hM
noncomputable def B_X6_countFires_31 (h : zw_Hp) (k4 : (Int32 × Int32) → Option (Int32)) (x2 : Int32) (s0 : Int32) (s1 : Int32) : Option (Int32) :=
  zw_nm (s1 + s0) (fun y5 => zw_nm (x2 + (1 : Int32)) (fun y7 => k4 (y5, y7)))
set_option maxRecDepth 100000 in
set_option maxHeartbeats 4000000 in
theorem U_X6_countFires_31 {h : zw_Hp} (ok : zw_Ok E) (hI : ∀ i, i < 48 → i ∈ E.2.2.1) (g : zw_G p E (zw_A E) s m args c RX6 cX6_countFires 3) (hr : meth.sig.returnType = some .int) (hlk : meth.locks = false) {k4 : (Int32 × Int32) → Option (Int32)} (eL4 : ∀ (w : Int32 × Int32) (z : Int32), k4 w = some z → zw_V p l e s m args below meth c E mt_X6_countFires 3 (some (.int z)) h 4 [(0, .ref (E.2.1 24)), (1, .int w.1), (2, .int w.2)] [] h) :
    ∀ (x2 : Int32) (s0 : Int32) (s1 : Int32) (z : Int32), B_X6_countFires_31 h k4 x2 s0 s1 = some z → zw_V p l e s m args below meth c E mt_X6_countFires 3 (some (.int z)) h 31 [(0, .ref (E.2.1 24)), (2, .int x2)] [.int s0, .int s1] h := by
  intro x2 s0 s1 z hM
  unfold B_X6_countFires_31 at hM
  refine zr_iadd (q := 32) g dX6_countFires_31 rfl ?_
  obtain ⟨y5, e6, hM⟩ := zw_nm_ex hM
  refine zr_nmi e6 ?_
  refine zr_istore_n (q := 33) (lv' := [(1, .int y5), (0, .ref (E.2.1 24)), (2, .int x2)]) g dX6_countFires_32 rfl rfl (by decide) rfl ?_
  obtain ⟨y7, e8, hM⟩ := zw_nm_ex hM
  refine zr_iinc (q := 36) (v := y7) (lv' := [(2, .int y7), (1, .int y5), (0, .ref (E.2.1 24))]) g 2 dX6_countFires_33 rfl rfl (by rw [e8]; rfl) (by decide) rfl ?_
  refine zr_goto (tgt := 4) g dX6_countFires_36 rfl ?_
  refine zr_lv (lv' := [(0, .ref (E.2.1 24)), (1, .int y5), (2, .int y7)]) [2, 1, 0] rfl ?_
  exact eL4 _ _ hM
noncomputable def B_X6_countFires_4 (h : zw_Hp) (k4 : (Int32 × Int32) → Option (Int32)) (x1 : Int32) (x2 : Int32) : Option (Int32) :=
  if (100 : Int32) ≤ x2 then (some x1) else ((M_X6_fits (x2 / (10 : Int32)) (x2 - x2 / (10 : Int32) * (10 : Int32)) h).bind (fun z2 => if z2 = 0 then (B_X6_countFires_31 h k4 x2 (0 : Int32) x1) else (B_X6_countFires_31 h k4 x2 (1 : Int32) x1)))
set_option maxRecDepth 100000 in
set_option maxHeartbeats 4000000 in
theorem U_X6_countFires_4 {h : zw_Hp} (ok : zw_Ok E) (hI : ∀ i, i < 48 → i ∈ E.2.2.1) (g : zw_G p E (zw_A E) s m args c RX6 cX6_countFires 3) (hr : meth.sig.returnType = some .int) (hlk : meth.locks = false) {k4 : (Int32 × Int32) → Option (Int32)} (eL4 : ∀ (w : Int32 × Int32) (z : Int32), k4 w = some z → zw_V p l e s m args below meth c E mt_X6_countFires 3 (some (.int z)) h 4 [(0, .ref (E.2.1 24)), (1, .int w.1), (2, .int w.2)] [] h) :
    ∀ (x1 : Int32) (x2 : Int32) (z : Int32), B_X6_countFires_4 h k4 x1 x2 = some z → zw_V p l e s m args below meth c E mt_X6_countFires 3 (some (.int z)) h 4 [(0, .ref (E.2.1 24)), (1, .int x1), (2, .int x2)] [] h := by
  intro x1 x2 z hM
  unfold B_X6_countFires_4 at hM
  refine zr_iload_n (q := 5) g 2 dX6_countFires_4 rfl rfl rfl ?_
  refine zr_bipush (q := 7) (v := (100 : Int32)) g dX6_countFires_5 rfl (by decide) ?_
  refine zr_icmp_ge (q := 10) (tgt := 39) g dX6_countFires_7 rfl rfl (fun c1 => ?_) (fun c1 => ?_)
  · replace hM := zw_ift c1 hM
    refine zr_iload_n (q := 40) g 1 dX6_countFires_39 rfl rfl rfl ?_
    cases hM
    exact zr_iret g hr hlk dX6_countFires_40 rfl rfl
  · replace hM := zw_iff c1 hM
    refine zr_iload_n (q := 11) g 1 dX6_countFires_10 rfl rfl rfl ?_
    refine zr_aload_n (q := 12) g 0 dX6_countFires_11 rfl rfl rfl ?_
    refine zr_iload_n (q := 13) g 2 dX6_countFires_12 rfl rfl rfl ?_
    refine zr_bipush (q := 15) (v := (10 : Int32)) g dX6_countFires_13 rfl (by decide) ?_
    refine zr_idiv (q := 16) g dX6_countFires_15 rfl (by decide) ?_
    refine zr_iload_n (q := 17) g 2 dX6_countFires_16 rfl rfl rfl ?_
    refine zr_bipush (q := 19) (v := (10 : Int32)) g dX6_countFires_17 rfl (by decide) ?_
    refine zr_irem (q := 20) g dX6_countFires_19 rfl (by decide) ?_
    obtain ⟨z2, q3, hM⟩ := zw_bd hM
    refine zr_callV (q := 23) (As := [.int (x2 / (10 : Int32)), .int (x2 - x2 / (10 : Int32) * (10 : Int32))]) (rest := [.int x1]) (st' := [.int z2, .int x1]) (i := 24) g (R_X6_fits ok hI q3) zv_X6_fits zl_X6_25 (hI 24 (by decide)) zs_24 zc_X6.1 dX6_countFires_20 rfl rfl ⟨Nat.le_of_ble_eq_true rfl, Nat.le_of_ble_eq_true rfl⟩ ⟨Nat.zero_le _, Nat.zero_le _⟩ (Nat.le_of_ble_eq_true rfl) rfl rfl ?_
    refine zr_if_eq (q := 26) (tgt := 30) g dX6_countFires_23 rfl rfl (fun c4 => ?_) (fun c4 => ?_)
    · replace hM := zw_ift c4 hM
      refine zr_iconst (q := 31) (v := (0 : Int32)) g dX6_countFires_30 rfl (by decide) ?_
      refine zr_lv (lv' := [(0, .ref (E.2.1 24)), (2, .int x2)]) [0, 2] rfl ?_
      exact U_X6_countFires_31 ok hI g hr hlk eL4 _ _ _ _ hM
    · replace hM := zw_iff c4 hM
      refine zr_iconst (q := 27) (v := (1 : Int32)) g dX6_countFires_26 rfl (by decide) ?_
      refine zr_goto (tgt := 31) g dX6_countFires_27 rfl ?_
      refine zr_lv (lv' := [(0, .ref (E.2.1 24)), (2, .int x2)]) [0, 2] rfl ?_
      exact U_X6_countFires_31 ok hI g hr hlk eL4 _ _ _ _ hM
noncomputable def L_X6_countFires_4 (h : zw_Hp) (w : Int32 × Int32) : Option (Int32) :=
  zw_it (fun (k4 : (Int32 × Int32) → Option (Int32)) (w : Int32 × Int32) => B_X6_countFires_4 h k4 (w.1) (w.2)) 600 w
theorem UL_X6_countFires_4 {h : zw_Hp} (ok : zw_Ok E) (hI : ∀ i, i < 48 → i ∈ E.2.2.1) (g : zw_G p E (zw_A E) s m args c RX6 cX6_countFires 3) (hr : meth.sig.returnType = some .int) (hlk : meth.locks = false) :
    ∀ (w : Int32 × Int32) (z : Int32), L_X6_countFires_4 h w = some z → zw_V p l e s m args below meth c E mt_X6_countFires 3 (some (.int z)) h 4 [(0, .ref (E.2.1 24)), (1, .int w.1), (2, .int w.2)] [] h :=
  fun w z hM => zw_it_ind (P := fun (w : Int32 × Int32) (z : Int32) => zw_V p l e s m args below meth c E mt_X6_countFires 3 (some (.int z)) h 4 [(0, .ref (E.2.1 24)), (1, .int w.1), (2, .int w.2)] [] h) (fun k e w z hM => U_X6_countFires_4 ok hI g hr hlk e _ _ _ hM) 600 w z hM
noncomputable def M_X6_countFires (h : zw_Hp) : Option (Int32) :=
  L_X6_countFires_4 h ((0 : Int32), (0 : Int32))
set_option maxRecDepth 100000 in
set_option maxHeartbeats 4000000 in
theorem R_X6_countFires (ok : zw_Ok E) (hI : ∀ i, i < 48 → i ∈ E.2.2.1) {h : zw_Hp} {z : Int32} (hM : M_X6_countFires h = some z) : zw_Ct l E mt_X6_countFires [.ref (E.2.1 24)] h (some (.int z)) h := by
  unfold M_X6_countFires at hM
  refine zw_ct (lv0 := [(0, .ref (E.2.1 24))]) ok (by decide) rfl (Nat.le_of_ble_eq_true rfl) (fun p e s m args below meth c g hr hlk => ?_)
  replace g : zw_G p E (zw_A E) s m args c RX6 cX6_countFires 3 := g
  show zw_V p l e s m args below meth c E mt_X6_countFires 3 (some (.int z)) h 0 [(0, .ref (E.2.1 24))] [] h
  refine zr_iconst (q := 1) (v := (0 : Int32)) g dX6_countFires_0 rfl (by decide) ?_
  refine zr_istore_n (q := 2) (lv' := [(1, .int (0 : Int32)), (0, .ref (E.2.1 24))]) g dX6_countFires_1 rfl rfl (by decide) rfl ?_
  refine zr_iconst (q := 3) (v := (0 : Int32)) g dX6_countFires_2 rfl (by decide) ?_
  refine zr_istore_n (q := 4) (lv' := [(2, .int (0 : Int32)), (1, .int (0 : Int32)), (0, .ref (E.2.1 24))]) g dX6_countFires_3 rfl rfl (by decide) rfl ?_
  refine zr_lv (lv' := [(0, .ref (E.2.1 24)), (1, .int (0 : Int32)), (2, .int (0 : Int32))]) [2, 1, 0] rfl ?_
  exact UL_X6_countFires_4 ok hI g hr hlk _ _ hM
noncomputable def B_X6_firstFire_2 (h : zw_Hp) (k2 : Int32 → Option (Int32)) (x1 : Int32) : Option (Int32) :=
  if (100 : Int32) ≤ x1 then (some (-9 : Int32)) else ((M_X6_fits (x1 / (10 : Int32)) (x1 - x1 / (10 : Int32) * (10 : Int32)) h).bind (fun z2 => if z2 = 0 then (zw_nm (x1 + (1 : Int32)) (fun y5 => k2 y5)) else (some x1)))
set_option maxRecDepth 100000 in
set_option maxHeartbeats 4000000 in
theorem U_X6_firstFire_2 {h : zw_Hp} (ok : zw_Ok E) (hI : ∀ i, i < 48 → i ∈ E.2.2.1) (g : zw_G p E (zw_A E) s m args c RX6 cX6_firstFire 2) (hr : meth.sig.returnType = some .int) (hlk : meth.locks = false) {k2 : Int32 → Option (Int32)} (eL2 : ∀ (w : Int32) (z : Int32), k2 w = some z → zw_V p l e s m args below meth c E mt_X6_firstFire 2 (some (.int z)) h 2 [(0, .ref (E.2.1 24)), (1, .int w)] [] h) :
    ∀ (x1 : Int32) (z : Int32), B_X6_firstFire_2 h k2 x1 = some z → zw_V p l e s m args below meth c E mt_X6_firstFire 2 (some (.int z)) h 2 [(0, .ref (E.2.1 24)), (1, .int x1)] [] h := by
  intro x1 z hM
  unfold B_X6_firstFire_2 at hM
  refine zr_iload_n (q := 3) g 1 dX6_firstFire_2 rfl rfl rfl ?_
  refine zr_bipush (q := 5) (v := (100 : Int32)) g dX6_firstFire_3 rfl (by decide) ?_
  refine zr_icmp_ge (q := 8) (tgt := 31) g dX6_firstFire_5 rfl rfl (fun c1 => ?_) (fun c1 => ?_)
  · replace hM := zw_ift c1 hM
    refine zr_bipush (q := 33) (v := (-9 : Int32)) g dX6_firstFire_31 rfl (by decide) ?_
    cases hM
    exact zr_iret g hr hlk dX6_firstFire_33 rfl rfl
  · replace hM := zw_iff c1 hM
    refine zr_aload_n (q := 9) g 0 dX6_firstFire_8 rfl rfl rfl ?_
    refine zr_iload_n (q := 10) g 1 dX6_firstFire_9 rfl rfl rfl ?_
    refine zr_bipush (q := 12) (v := (10 : Int32)) g dX6_firstFire_10 rfl (by decide) ?_
    refine zr_idiv (q := 13) g dX6_firstFire_12 rfl (by decide) ?_
    refine zr_iload_n (q := 14) g 1 dX6_firstFire_13 rfl rfl rfl ?_
    refine zr_bipush (q := 16) (v := (10 : Int32)) g dX6_firstFire_14 rfl (by decide) ?_
    refine zr_irem (q := 17) g dX6_firstFire_16 rfl (by decide) ?_
    obtain ⟨z2, q3, hM⟩ := zw_bd hM
    refine zr_callV (q := 20) (As := [.int (x1 / (10 : Int32)), .int (x1 - x1 / (10 : Int32) * (10 : Int32))]) (rest := []) (st' := [.int z2]) (i := 24) g (R_X6_fits ok hI q3) zv_X6_fits zl_X6_25 (hI 24 (by decide)) zs_24 zc_X6.1 dX6_firstFire_17 rfl rfl ⟨Nat.le_of_ble_eq_true rfl, Nat.le_of_ble_eq_true rfl⟩ ⟨Nat.zero_le _, Nat.zero_le _⟩ (Nat.le_of_ble_eq_true rfl) rfl rfl ?_
    refine zr_if_eq (q := 23) (tgt := 25) g dX6_firstFire_20 rfl rfl (fun c4 => ?_) (fun c4 => ?_)
    · replace hM := zw_ift c4 hM
      obtain ⟨y5, e6, hM⟩ := zw_nm_ex hM
      refine zr_iinc (q := 28) (v := y5) (lv' := [(1, .int y5), (0, .ref (E.2.1 24))]) g 1 dX6_firstFire_25 rfl rfl (by rw [e6]; rfl) (by decide) rfl ?_
      refine zr_goto (tgt := 2) g dX6_firstFire_28 rfl ?_
      refine zr_lv (lv' := [(0, .ref (E.2.1 24)), (1, .int y5)]) [1, 0] rfl ?_
      exact eL2 _ _ hM
    · replace hM := zw_iff c4 hM
      refine zr_iload_n (q := 24) g 1 dX6_firstFire_23 rfl rfl rfl ?_
      cases hM
      exact zr_iret g hr hlk dX6_firstFire_24 rfl rfl
noncomputable def L_X6_firstFire_2 (h : zw_Hp) (w : Int32) : Option (Int32) :=
  zw_it (fun (k2 : Int32 → Option (Int32)) (w : Int32) => B_X6_firstFire_2 h k2 (w)) 600 w
theorem UL_X6_firstFire_2 {h : zw_Hp} (ok : zw_Ok E) (hI : ∀ i, i < 48 → i ∈ E.2.2.1) (g : zw_G p E (zw_A E) s m args c RX6 cX6_firstFire 2) (hr : meth.sig.returnType = some .int) (hlk : meth.locks = false) :
    ∀ (w : Int32) (z : Int32), L_X6_firstFire_2 h w = some z → zw_V p l e s m args below meth c E mt_X6_firstFire 2 (some (.int z)) h 2 [(0, .ref (E.2.1 24)), (1, .int w)] [] h :=
  fun w z hM => zw_it_ind (P := fun (w : Int32) (z : Int32) => zw_V p l e s m args below meth c E mt_X6_firstFire 2 (some (.int z)) h 2 [(0, .ref (E.2.1 24)), (1, .int w)] [] h) (fun k e w z hM => U_X6_firstFire_2 ok hI g hr hlk e _ _ hM) 600 w z hM
noncomputable def M_X6_firstFire (h : zw_Hp) : Option (Int32) :=
  L_X6_firstFire_2 h (0 : Int32)
set_option maxRecDepth 100000 in
set_option maxHeartbeats 4000000 in
theorem R_X6_firstFire (ok : zw_Ok E) (hI : ∀ i, i < 48 → i ∈ E.2.2.1) {h : zw_Hp} {z : Int32} (hM : M_X6_firstFire h = some z) : zw_Ct l E mt_X6_firstFire [.ref (E.2.1 24)] h (some (.int z)) h := by
  unfold M_X6_firstFire at hM
  refine zw_ct (lv0 := [(0, .ref (E.2.1 24))]) ok (by decide) rfl (Nat.le_of_ble_eq_true rfl) (fun p e s m args below meth c g hr hlk => ?_)
  replace g : zw_G p E (zw_A E) s m args c RX6 cX6_firstFire 2 := g
  show zw_V p l e s m args below meth c E mt_X6_firstFire 2 (some (.int z)) h 0 [(0, .ref (E.2.1 24))] [] h
  refine zr_iconst (q := 1) (v := (0 : Int32)) g dX6_firstFire_0 rfl (by decide) ?_
  refine zr_istore_n (q := 2) (lv' := [(1, .int (0 : Int32)), (0, .ref (E.2.1 24))]) g dX6_firstFire_1 rfl rfl (by decide) rfl ?_
  refine zr_lv (lv' := [(0, .ref (E.2.1 24)), (1, .int (0 : Int32))]) [1, 0] rfl ?_
  exact UL_X6_firstFire_2 ok hI g hr hlk _ _ hM
noncomputable def M_X8_write (x1 : Int32) (h : zw_Hp) : Option (Int32 × zw_Hp) :=
  if x1 < 0 then (some ((-2 : Int32), h)) else (if x1 ≤ (255 : Int32) then ((M_X7_append x1 h).bind (fun z3 => if z3.1 = 0 then (some ((-4 : Int32), z3.2)) else (some ((z3.2.1 1 1), z3.2)))) else (some ((-2 : Int32), h)))
set_option maxRecDepth 100000 in
set_option maxHeartbeats 4000000 in
theorem R_X8_write (ok : zw_Ok E) (hI : ∀ i, i < 48 → i ∈ E.2.2.1) {x1 : Int32} {h : zw_Hp} {z : Int32 × zw_Hp} (hM : M_X8_write x1 h = some z) : zw_Ct l E mt_X8_write [.ref (E.2.1 0), .int x1] h (some (.int z.1)) z.2 := by
  unfold M_X8_write at hM
  refine zw_ct (lv0 := [(0, .ref (E.2.1 0)), (1, .int x1)]) ok (by decide) rfl (Nat.le_of_ble_eq_true rfl) (fun p e s m args below meth c g hr hlk => ?_)
  replace g : zw_G p E (zw_A E) s m args c RX8 cX8_write 2 := g
  show zw_V p l e s m args below meth c E mt_X8_write 2 (some (.int z.1)) z.2 0 [(0, .ref (E.2.1 0)), (1, .int x1)] [] h
  refine zr_iload_n (q := 1) g 1 dX8_write_0 rfl rfl rfl ?_
  refine zr_if_lt (q := 4) (tgt := 11) g dX8_write_1 rfl rfl (fun c1 => ?_) (fun c1 => ?_)
  · replace hM := zw_ift c1 hM
    refine zr_bipush (q := 13) (v := (-2 : Int32)) g dX8_write_11 rfl (by decide) ?_
    cases hM
    exact zr_iret g hr hlk dX8_write_13 rfl rfl
  · replace hM := zw_iff c1 hM
    refine zr_iload_n (q := 5) g 1 dX8_write_4 rfl rfl rfl ?_
    refine zr_sipush (q := 8) (v := (255 : Int32)) g dX8_write_5 rfl (by decide) ?_
    refine zr_icmp_le (q := 11) (tgt := 14) g dX8_write_8 rfl rfl (fun c2 => ?_) (fun c2 => ?_)
    · replace hM := zw_ift c2 hM
      refine zr_aload_n (q := 15) g 0 dX8_write_14 rfl rfl rfl ?_
      refine zr_getr (q := 18) (k0 := 0) (j := 1) g (hI 0 (by decide)) zs_0 rfl zf_X8_10 dX8_write_15 rfl ?_
      refine zr_iload_n (q := 19) g 1 dX8_write_18 rfl rfl rfl ?_
      obtain ⟨z3, q4, hM⟩ := zw_bd hM
      refine zr_callV (q := 22) (As := [.int x1]) (rest := []) (st' := [.int z3.1]) (i := 1) g (R_X7_append ok hI q4) zv_X7_append zl_X8_82 (hI 1 (by decide)) zs_1 zc_X7.1 dX8_write_19 rfl rfl ⟨Nat.le_of_ble_eq_true rfl, Nat.le_of_ble_eq_true rfl⟩ ⟨Nat.zero_le _, Nat.zero_le _⟩ (Nat.le_of_ble_eq_true rfl) rfl rfl ?_
      refine zr_if_eq (q := 25) (tgt := 35) g dX8_write_22 rfl rfl (fun c5 => ?_) (fun c5 => ?_)
      · replace hM := zw_ift c5 hM
        refine zr_bipush (q := 37) (v := (-4 : Int32)) g dX8_write_35 rfl (by decide) ?_
        cases hM
        exact zr_iret g hr hlk dX8_write_37 rfl rfl
      · replace hM := zw_iff c5 hM
        refine zr_aload_n (q := 26) g 0 dX8_write_25 rfl rfl rfl ?_
        refine zr_getr (q := 29) (k0 := 0) (j := 1) g (hI 0 (by decide)) zs_0 rfl zf_X8_10 dX8_write_26 rfl ?_
        refine zr_geti (q := 32) (k0 := 1) g (hI 1 (by decide)) zs_1 rfl zf_X8_86 dX8_write_29 rfl ?_
        refine zr_goto (tgt := 37) g dX8_write_32 rfl ?_
        cases hM
        exact zr_iret g hr hlk dX8_write_37 rfl rfl
    · replace hM := zw_iff c2 hM
      refine zr_bipush (q := 13) (v := (-2 : Int32)) g dX8_write_11 rfl (by decide) ?_
      cases hM
      exact zr_iret g hr hlk dX8_write_13 rfl rfl
noncomputable def M_X8_wipe (h : zw_Hp) : Option (Int32 × zw_Hp) :=
  zw_nm (h.1 1 1) (fun y1 => zw_nm (zw_up h 1 1 (0 : Int32)) (fun h3 => some (y1, h3)))
set_option maxRecDepth 100000 in
set_option maxHeartbeats 4000000 in
theorem R_X8_wipe (ok : zw_Ok E) (hI : ∀ i, i < 48 → i ∈ E.2.2.1) {h : zw_Hp} {z : Int32 × zw_Hp} (hM : M_X8_wipe h = some z) : zw_Ct l E mt_X8_wipe [.ref (E.2.1 0)] h (some (.int z.1)) z.2 := by
  unfold M_X8_wipe at hM
  refine zw_ct (lv0 := [(0, .ref (E.2.1 0))]) ok (by decide) rfl (Nat.le_of_ble_eq_true rfl) (fun p e s m args below meth c g hr hlk => ?_)
  replace g : zw_G p E (zw_A E) s m args c RX8 cX8_wipe 2 := g
  show zw_V p l e s m args below meth c E mt_X8_wipe 2 (some (.int z.1)) z.2 0 [(0, .ref (E.2.1 0))] [] h
  refine zr_aload_n (q := 1) g 0 dX8_wipe_0 rfl rfl rfl ?_
  refine zr_getr (q := 4) (k0 := 0) (j := 1) g (hI 0 (by decide)) zs_0 rfl zf_X8_10 dX8_wipe_1 rfl ?_
  refine zr_geti (q := 7) (k0 := 1) g (hI 1 (by decide)) zs_1 rfl zf_X8_86 dX8_wipe_4 rfl ?_
  obtain ⟨y1, e2, hM⟩ := zw_nm_ex hM
  refine zr_nmi e2 ?_
  refine zr_istore_n (q := 8) (lv' := [(1, .int y1), (0, .ref (E.2.1 0))]) g dX8_wipe_7 rfl rfl (by decide) rfl ?_
  refine zr_aload_n (q := 9) g 1 dX8_wipe_8 rfl rfl rfl ?_
  refine zr_getr (q := 12) (k0 := 0) (j := 1) g (hI 0 (by decide)) zs_0 rfl zf_X8_10 dX8_wipe_9 rfl ?_
  refine zr_iconst (q := 13) (v := (0 : Int32)) g dX8_wipe_12 rfl (by decide) ?_
  obtain ⟨h3, e4, hM⟩ := zw_nm_ex hM
  refine zr_puti (q := 16) (k0 := 1) (h' := h3) g (hI 1 (by decide)) zs_1 rfl zp_X8_86 dX8_wipe_13 rfl e4 ?_
  refine zr_iload_n (q := 17) g 0 dX8_wipe_16 rfl rfl rfl ?_
  cases hM
  exact zr_iret g hr hlk dX8_wipe_17 rfl rfl
noncomputable def M_X8_fault (h : zw_Hp) : Option (Int32 × zw_Hp) :=
  (M_X2_readFrom 3 h).bind (fun z1 => some (z1.1, z1.2))
set_option maxRecDepth 100000 in
set_option maxHeartbeats 4000000 in
theorem R_X8_fault (ok : zw_Ok E) (hI : ∀ i, i < 48 → i ∈ E.2.2.1) {h : zw_Hp} {z : Int32 × zw_Hp} (hM : M_X8_fault h = some z) : zw_Ct l E mt_X8_fault [.ref (E.2.1 0)] h (some (.int z.1)) z.2 := by
  unfold M_X8_fault at hM
  refine zw_ct (lv0 := [(0, .ref (E.2.1 0))]) ok (by decide) rfl (Nat.le_of_ble_eq_true rfl) (fun p e s m args below meth c g hr hlk => ?_)
  replace g : zw_G p E (zw_A E) s m args c RX8 cX8_fault 1 := g
  show zw_V p l e s m args below meth c E mt_X8_fault 1 (some (.int z.1)) z.2 0 [(0, .ref (E.2.1 0))] [] h
  refine zr_aload_n (q := 1) g 0 dX8_fault_0 rfl rfl rfl ?_
  refine zr_getr (q := 4) (k0 := 1) (j := 3) g (hI 0 (by decide)) zs_0 rfl zf_X8_19 dX8_fault_1 rfl ?_
  refine zr_aload_n (q := 5) g 0 dX8_fault_4 rfl rfl rfl ?_
  refine zr_getr (q := 8) (k0 := 0) (j := 1) g (hI 0 (by decide)) zs_0 rfl zf_X8_10 dX8_fault_5 rfl ?_
  obtain ⟨z1, q2, hM⟩ := zw_bd hM
  refine zr_callV (q := 11) (As := [.ref (E.2.1 1)]) (rest := []) (st' := [.int z1.1]) (i := 3) g (R_X2_readFrom (Or.inl rfl) ok hI q2) zv_X2_readFrom zl_X8_89 (hI 3 (by decide)) zs_3 zc_X2.1 dX8_fault_8 rfl rfl ⟨Nat.le_of_ble_eq_true rfl, Nat.le_of_ble_eq_true rfl⟩ ⟨Nat.zero_le _, Nat.zero_le _⟩ (Nat.le_of_ble_eq_true rfl) rfl rfl ?_
  cases hM
  exact zr_iret g hr hlk dX8_fault_11 rfl rfl
noncomputable def M_X8_night (h : zw_Hp) : Option (Int32 × zw_Hp) :=
  (M_X2_readFrom 3 h).bind (fun z1 => if z1.1 = (-9 : Int32) then ((M_X2_readFrom 6 z1.2).bind (fun z4 => (M_X3_setUp 9 z4.2).bind (fun z6 => (M_X0_clear z6).bind (fun z8 => zw_nm (zw_up z8 0 6 (0 : Int32)) (fun h10 => some ((((10 : Int32) * (h10.1 6 2)) + (h10.1 6 3)), h10)))))) else (some ((-3 : Int32), z1.2)))
set_option maxRecDepth 100000 in
set_option maxHeartbeats 4000000 in
theorem R_X8_night (ok : zw_Ok E) (hI : ∀ i, i < 48 → i ∈ E.2.2.1) {h : zw_Hp} {z : Int32 × zw_Hp} (hM : M_X8_night h = some z) : zw_Ct l E mt_X8_night [.ref (E.2.1 0)] h (some (.int z.1)) z.2 := by
  unfold M_X8_night at hM
  refine zw_ct (lv0 := [(0, .ref (E.2.1 0))]) ok (by decide) rfl (Nat.le_of_ble_eq_true rfl) (fun p e s m args below meth c g hr hlk => ?_)
  replace g : zw_G p E (zw_A E) s m args c RX8 cX8_night 1 := g
  show zw_V p l e s m args below meth c E mt_X8_night 1 (some (.int z.1)) z.2 0 [(0, .ref (E.2.1 0))] [] h
  refine zr_aload_n (q := 1) g 0 dX8_night_0 rfl rfl rfl ?_
  refine zr_getr (q := 4) (k0 := 1) (j := 3) g (hI 0 (by decide)) zs_0 rfl zf_X8_19 dX8_night_1 rfl ?_
  refine zr_aload_n (q := 5) g 0 dX8_night_4 rfl rfl rfl ?_
  refine zr_getr (q := 8) (k0 := 0) (j := 1) g (hI 0 (by decide)) zs_0 rfl zf_X8_10 dX8_night_5 rfl ?_
  obtain ⟨z1, q2, hM⟩ := zw_bd hM
  refine zr_callV (q := 11) (As := [.ref (E.2.1 1)]) (rest := []) (st' := [.int z1.1]) (i := 3) g (R_X2_readFrom (Or.inl rfl) ok hI q2) zv_X2_readFrom zl_X8_89 (hI 3 (by decide)) zs_3 zc_X2.1 dX8_night_8 rfl rfl ⟨Nat.le_of_ble_eq_true rfl, Nat.le_of_ble_eq_true rfl⟩ ⟨Nat.zero_le _, Nat.zero_le _⟩ (Nat.le_of_ble_eq_true rfl) rfl rfl ?_
  refine zr_bipush (q := 13) (v := (-9 : Int32)) g dX8_night_11 rfl (by decide) ?_
  refine zr_icmp_eq (q := 16) (tgt := 19) g dX8_night_13 rfl rfl (fun c3 => ?_) (fun c3 => ?_)
  · replace hM := zw_ift c3 hM
    refine zr_aload_n (q := 20) g 0 dX8_night_19 rfl rfl rfl ?_
    refine zr_getr (q := 23) (k0 := 2) (j := 6) g (hI 0 (by decide)) zs_0 rfl zf_X8_23 dX8_night_20 rfl ?_
    refine zr_aload_n (q := 24) g 0 dX8_night_23 rfl rfl rfl ?_
    refine zr_getr (q := 27) (k0 := 0) (j := 1) g (hI 0 (by decide)) zs_0 rfl zf_X8_10 dX8_night_24 rfl ?_
    obtain ⟨z4, q5, hM⟩ := zw_bd hM
    refine zr_callV (q := 30) (As := [.ref (E.2.1 1)]) (rest := []) (st' := [.int z4.1]) (i := 6) g (R_X2_readFrom (Or.inr rfl) ok hI q5) zv_X2_readFrom zl_X8_89 (hI 6 (by decide)) zs_6 zc_X2.1 dX8_night_27 rfl rfl ⟨Nat.le_of_ble_eq_true rfl, Nat.le_of_ble_eq_true rfl⟩ ⟨Nat.zero_le _, Nat.zero_le _⟩ (Nat.le_of_ble_eq_true rfl) rfl rfl ?_
    refine zr_pop (q := 31) g dX8_night_30 rfl rfl ?_
    refine zr_aload_n (q := 32) g 0 dX8_night_31 rfl rfl rfl ?_
    refine zr_getr (q := 35) (k0 := 3) (j := 9) g (hI 0 (by decide)) zs_0 rfl zf_X8_31 dX8_night_32 rfl ?_
    obtain ⟨z6, q7, hM⟩ := zw_bd hM
    refine zr_callV (q := 38) (As := []) (rest := []) (st' := []) (i := 9) g (R_X3_setUp (Or.inl rfl) ok (fun i hi => hI i (by omega)) q7) zv_X3_setUp zl_X8_93 (hI 9 (by decide)) zs_9 zc_X3.1 dX8_night_35 rfl rfl ⟨Nat.le_of_ble_eq_true rfl, Nat.le_of_ble_eq_true rfl⟩ ⟨Nat.zero_le _, Nat.zero_le _⟩ (Nat.le_of_ble_eq_true rfl) rfl rfl ?_
    refine zr_aload_n (q := 39) g 0 dX8_night_38 rfl rfl rfl ?_
    refine zr_getr (q := 42) (k0 := 4) (j := 19) g (hI 0 (by decide)) zs_0 rfl zf_X8_38 dX8_night_39 rfl ?_
    obtain ⟨z8, q9, hM⟩ := zw_bd hM
    refine zr_callV (q := 45) (As := []) (rest := []) (st' := []) (i := 19) g (R_X0_clear ok hI q9) zv_X0_clear zl_X8_96 (hI 19 (by decide)) zs_19 zc_X0.1 dX8_night_42 rfl rfl ⟨Nat.le_of_ble_eq_true rfl, Nat.le_of_ble_eq_true rfl⟩ ⟨Nat.zero_le _, Nat.zero_le _⟩ (Nat.le_of_ble_eq_true rfl) rfl rfl ?_
    refine zr_aload_n (q := 46) g 0 dX8_night_45 rfl rfl rfl ?_
    refine zr_iconst (q := 47) (v := (0 : Int32)) g dX8_night_46 rfl (by decide) ?_
    obtain ⟨h10, e11, hM⟩ := zw_nm_ex hM
    refine zr_puti (q := 50) (k0 := 6) (h' := h10) g (hI 0 (by decide)) zs_0 rfl zp_X8_51 dX8_night_47 rfl e11 ?_
    refine zr_bipush (q := 52) (v := (10 : Int32)) g dX8_night_50 rfl (by decide) ?_
    refine zr_aload_n (q := 53) g 0 dX8_night_52 rfl rfl rfl ?_
    refine zr_getr (q := 56) (k0 := 2) (j := 6) g (hI 0 (by decide)) zs_0 rfl zf_X8_23 dX8_night_53 rfl ?_
    refine zr_geti (q := 59) (k0 := 2) g (hI 6 (by decide)) zs_6 rfl zf_X8_99 dX8_night_56 rfl ?_
    refine zr_imul (q := 60) g dX8_night_59 rfl ?_
    refine zr_aload_n (q := 61) g 0 dX8_night_60 rfl rfl rfl ?_
    refine zr_getr (q := 64) (k0 := 2) (j := 6) g (hI 0 (by decide)) zs_0 rfl zf_X8_23 dX8_night_61 rfl ?_
    refine zr_geti (q := 67) (k0 := 3) g (hI 6 (by decide)) zs_6 rfl zf_X8_102 dX8_night_64 rfl ?_
    refine zr_iadd (q := 68) g dX8_night_67 rfl ?_
    cases hM
    exact zr_iret g hr hlk dX8_night_68 rfl rfl
  · replace hM := zw_iff c3 hM
    refine zr_bipush (q := 18) (v := (-3 : Int32)) g dX8_night_16 rfl (by decide) ?_
    cases hM
    exact zr_iret g hr hlk dX8_night_18 rfl rfl
noncomputable def M_X8_about (x1 : Int32) (h : zw_Hp) : Option (Int32) :=
  if x1 = (0 : Int32) then (some (h.1 6 2)) else (if x1 = (1 : Int32) then (some (h.1 6 3)) else (if x1 = (2 : Int32) then (some (h.1 9 6)) else (if x1 = (3 : Int32) then (some (h.1 6 6)) else (if x1 = (4 : Int32) then (some (h.1 6 7)) else (if x1 = (5 : Int32) then (some (h.1 9 8)) else (if x1 = (6 : Int32) then (some (h.1 9 7)) else (if x1 = (7 : Int32) then ((M_X3_holdingStands 9 h).bind (fun z9 => some z9)) else (if x1 = (8 : Int32) then ((M_X3_bucketsAt 9 (8 : Int32) h).bind (fun z12 => some z12)) else (if x1 = (9 : Int32) then ((M_X3_bucketsAt 9 (9 : Int32) h).bind (fun z15 => some z15)) else (if x1 = (10 : Int32) then (some (h.1 9 5)) else (if x1 = (11 : Int32) then (some (h.1 19 2)) else (if x1 = (12 : Int32) then (some (h.1 24 3)) else (if x1 = (13 : Int32) then (some (h.1 1 1)) else (some (-2 : Int32)))))))))))))))
set_option maxRecDepth 100000 in
set_option maxHeartbeats 4000000 in
theorem R_X8_about (ok : zw_Ok E) (hI : ∀ i, i < 48 → i ∈ E.2.2.1) {x1 : Int32} {h : zw_Hp} {z : Int32} (hM : M_X8_about x1 h = some z) : zw_Ct l E mt_X8_about [.ref (E.2.1 0), .int x1] h (some (.int z)) h := by
  unfold M_X8_about at hM
  refine zw_ct (lv0 := [(0, .ref (E.2.1 0)), (1, .int x1)]) ok (by decide) rfl (Nat.le_of_ble_eq_true rfl) (fun p e s m args below meth c g hr hlk => ?_)
  replace g : zw_G p E (zw_A E) s m args c RX8 cX8_about 2 := g
  show zw_V p l e s m args below meth c E mt_X8_about 2 (some (.int z)) h 0 [(0, .ref (E.2.1 0)), (1, .int x1)] [] h
  refine zr_iload_n (q := 1) g 1 dX8_about_0 rfl rfl rfl ?_
  by_cases c1 : x1 = (0 : Int32)
  · replace hM := zw_ift c1 hM
    refine zr_tabIn (tgt := 72) (off := 71) g dX8_about_1 c1 (by decide) rfl ?_
    refine zr_aload_n (q := 73) g 0 dX8_about_72 rfl rfl rfl ?_
    refine zr_getr (q := 76) (k0 := 2) (j := 6) g (hI 0 (by decide)) zs_0 rfl zf_X8_23 dX8_about_73 rfl ?_
    refine zr_geti (q := 79) (k0 := 2) g (hI 6 (by decide)) zs_6 rfl zf_X8_99 dX8_about_76 rfl ?_
    cases hM
    exact zr_iret g hr hlk dX8_about_79 rfl rfl
  · replace hM := zw_iff c1 hM
    by_cases c2 : x1 = (1 : Int32)
    · replace hM := zw_ift c2 hM
      refine zr_tabIn (tgt := 80) (off := 79) g dX8_about_1 c2 (by decide) rfl ?_
      refine zr_aload_n (q := 81) g 0 dX8_about_80 rfl rfl rfl ?_
      refine zr_getr (q := 84) (k0 := 2) (j := 6) g (hI 0 (by decide)) zs_0 rfl zf_X8_23 dX8_about_81 rfl ?_
      refine zr_geti (q := 87) (k0 := 3) g (hI 6 (by decide)) zs_6 rfl zf_X8_102 dX8_about_84 rfl ?_
      cases hM
      exact zr_iret g hr hlk dX8_about_87 rfl rfl
    · replace hM := zw_iff c2 hM
      by_cases c3 : x1 = (2 : Int32)
      · replace hM := zw_ift c3 hM
        refine zr_tabIn (tgt := 88) (off := 87) g dX8_about_1 c3 (by decide) rfl ?_
        refine zr_aload_n (q := 89) g 0 dX8_about_88 rfl rfl rfl ?_
        refine zr_getr (q := 92) (k0 := 3) (j := 9) g (hI 0 (by decide)) zs_0 rfl zf_X8_31 dX8_about_89 rfl ?_
        refine zr_geti (q := 95) (k0 := 6) g (hI 9 (by decide)) zs_9 rfl zf_X8_105 dX8_about_92 rfl ?_
        cases hM
        exact zr_iret g hr hlk dX8_about_95 rfl rfl
      · replace hM := zw_iff c3 hM
        by_cases c4 : x1 = (3 : Int32)
        · replace hM := zw_ift c4 hM
          refine zr_tabIn (tgt := 96) (off := 95) g dX8_about_1 c4 (by decide) rfl ?_
          refine zr_aload_n (q := 97) g 0 dX8_about_96 rfl rfl rfl ?_
          refine zr_getr (q := 100) (k0 := 2) (j := 6) g (hI 0 (by decide)) zs_0 rfl zf_X8_23 dX8_about_97 rfl ?_
          refine zr_geti (q := 103) (k0 := 6) g (hI 6 (by decide)) zs_6 rfl zf_X8_108 dX8_about_100 rfl ?_
          cases hM
          exact zr_iret g hr hlk dX8_about_103 rfl rfl
        · replace hM := zw_iff c4 hM
          by_cases c5 : x1 = (4 : Int32)
          · replace hM := zw_ift c5 hM
            refine zr_tabIn (tgt := 104) (off := 103) g dX8_about_1 c5 (by decide) rfl ?_
            refine zr_aload_n (q := 105) g 0 dX8_about_104 rfl rfl rfl ?_
            refine zr_getr (q := 108) (k0 := 2) (j := 6) g (hI 0 (by decide)) zs_0 rfl zf_X8_23 dX8_about_105 rfl ?_
            refine zr_geti (q := 111) (k0 := 7) g (hI 6 (by decide)) zs_6 rfl zf_X8_111 dX8_about_108 rfl ?_
            cases hM
            exact zr_iret g hr hlk dX8_about_111 rfl rfl
          · replace hM := zw_iff c5 hM
            by_cases c6 : x1 = (5 : Int32)
            · replace hM := zw_ift c6 hM
              refine zr_tabIn (tgt := 112) (off := 111) g dX8_about_1 c6 (by decide) rfl ?_
              refine zr_aload_n (q := 113) g 0 dX8_about_112 rfl rfl rfl ?_
              refine zr_getr (q := 116) (k0 := 3) (j := 9) g (hI 0 (by decide)) zs_0 rfl zf_X8_31 dX8_about_113 rfl ?_
              refine zr_geti (q := 119) (k0 := 8) g (hI 9 (by decide)) zs_9 rfl zf_X8_114 dX8_about_116 rfl ?_
              cases hM
              exact zr_iret g hr hlk dX8_about_119 rfl rfl
            · replace hM := zw_iff c6 hM
              by_cases c7 : x1 = (6 : Int32)
              · replace hM := zw_ift c7 hM
                refine zr_tabIn (tgt := 120) (off := 119) g dX8_about_1 c7 (by decide) rfl ?_
                refine zr_aload_n (q := 121) g 0 dX8_about_120 rfl rfl rfl ?_
                refine zr_getr (q := 124) (k0 := 3) (j := 9) g (hI 0 (by decide)) zs_0 rfl zf_X8_31 dX8_about_121 rfl ?_
                refine zr_geti (q := 127) (k0 := 7) g (hI 9 (by decide)) zs_9 rfl zf_X8_117 dX8_about_124 rfl ?_
                cases hM
                exact zr_iret g hr hlk dX8_about_127 rfl rfl
              · replace hM := zw_iff c7 hM
                by_cases c8 : x1 = (7 : Int32)
                · replace hM := zw_ift c8 hM
                  refine zr_tabIn (tgt := 128) (off := 127) g dX8_about_1 c8 (by decide) rfl ?_
                  refine zr_aload_n (q := 129) g 0 dX8_about_128 rfl rfl rfl ?_
                  refine zr_getr (q := 132) (k0 := 3) (j := 9) g (hI 0 (by decide)) zs_0 rfl zf_X8_31 dX8_about_129 rfl ?_
                  obtain ⟨z9, q10, hM⟩ := zw_bd hM
                  refine zr_callV (q := 135) (As := []) (rest := []) (st' := [.int z9]) (i := 9) g (R_X3_holdingStands (Or.inl rfl) ok hI q10) zv_X3_holdingStands zl_X8_120 (hI 9 (by decide)) zs_9 zc_X3.1 dX8_about_132 rfl rfl ⟨Nat.le_of_ble_eq_true rfl, Nat.le_of_ble_eq_true rfl⟩ ⟨Nat.zero_le _, Nat.zero_le _⟩ (Nat.le_of_ble_eq_true rfl) rfl rfl ?_
                  cases hM
                  exact zr_iret g hr hlk dX8_about_135 rfl rfl
                · replace hM := zw_iff c8 hM
                  by_cases c11 : x1 = (8 : Int32)
                  · replace hM := zw_ift c11 hM
                    refine zr_tabIn (tgt := 136) (off := 135) g dX8_about_1 c11 (by decide) rfl ?_
                    refine zr_aload_n (q := 137) g 0 dX8_about_136 rfl rfl rfl ?_
                    refine zr_getr (q := 140) (k0 := 3) (j := 9) g (hI 0 (by decide)) zs_0 rfl zf_X8_31 dX8_about_137 rfl ?_
                    refine zr_bipush (q := 142) (v := (8 : Int32)) g dX8_about_140 rfl (by decide) ?_
                    obtain ⟨z12, q13, hM⟩ := zw_bd hM
                    refine zr_callV (q := 145) (As := [.int (8 : Int32)]) (rest := []) (st' := [.int z12]) (i := 9) g (R_X3_bucketsAt (Or.inl rfl) ok hI q13) zv_X3_bucketsAt zl_X8_124 (hI 9 (by decide)) zs_9 zc_X3.1 dX8_about_142 rfl rfl ⟨Nat.le_of_ble_eq_true rfl, Nat.le_of_ble_eq_true rfl⟩ ⟨Nat.zero_le _, Nat.zero_le _⟩ (Nat.le_of_ble_eq_true rfl) rfl rfl ?_
                    cases hM
                    exact zr_iret g hr hlk dX8_about_145 rfl rfl
                  · replace hM := zw_iff c11 hM
                    by_cases c14 : x1 = (9 : Int32)
                    · replace hM := zw_ift c14 hM
                      refine zr_tabIn (tgt := 146) (off := 145) g dX8_about_1 c14 (by decide) rfl ?_
                      refine zr_aload_n (q := 147) g 0 dX8_about_146 rfl rfl rfl ?_
                      refine zr_getr (q := 150) (k0 := 3) (j := 9) g (hI 0 (by decide)) zs_0 rfl zf_X8_31 dX8_about_147 rfl ?_
                      refine zr_bipush (q := 152) (v := (9 : Int32)) g dX8_about_150 rfl (by decide) ?_
                      obtain ⟨z15, q16, hM⟩ := zw_bd hM
                      refine zr_callV (q := 155) (As := [.int (9 : Int32)]) (rest := []) (st' := [.int z15]) (i := 9) g (R_X3_bucketsAt (Or.inl rfl) ok hI q16) zv_X3_bucketsAt zl_X8_124 (hI 9 (by decide)) zs_9 zc_X3.1 dX8_about_152 rfl rfl ⟨Nat.le_of_ble_eq_true rfl, Nat.le_of_ble_eq_true rfl⟩ ⟨Nat.zero_le _, Nat.zero_le _⟩ (Nat.le_of_ble_eq_true rfl) rfl rfl ?_
                      cases hM
                      exact zr_iret g hr hlk dX8_about_155 rfl rfl
                    · replace hM := zw_iff c14 hM
                      by_cases c17 : x1 = (10 : Int32)
                      · replace hM := zw_ift c17 hM
                        refine zr_tabIn (tgt := 156) (off := 155) g dX8_about_1 c17 (by decide) rfl ?_
                        refine zr_aload_n (q := 157) g 0 dX8_about_156 rfl rfl rfl ?_
                        refine zr_getr (q := 160) (k0 := 3) (j := 9) g (hI 0 (by decide)) zs_0 rfl zf_X8_31 dX8_about_157 rfl ?_
                        refine zr_geti (q := 163) (k0 := 5) g (hI 9 (by decide)) zs_9 rfl zf_X8_128 dX8_about_160 rfl ?_
                        cases hM
                        exact zr_iret g hr hlk dX8_about_163 rfl rfl
                      · replace hM := zw_iff c17 hM
                        by_cases c18 : x1 = (11 : Int32)
                        · replace hM := zw_ift c18 hM
                          refine zr_tabIn (tgt := 164) (off := 163) g dX8_about_1 c18 (by decide) rfl ?_
                          refine zr_aload_n (q := 165) g 0 dX8_about_164 rfl rfl rfl ?_
                          refine zr_getr (q := 168) (k0 := 4) (j := 19) g (hI 0 (by decide)) zs_0 rfl zf_X8_38 dX8_about_165 rfl ?_
                          refine zr_geti (q := 171) (k0 := 2) g (hI 19 (by decide)) zs_19 rfl zf_X8_131 dX8_about_168 rfl ?_
                          cases hM
                          exact zr_iret g hr hlk dX8_about_171 rfl rfl
                        · replace hM := zw_iff c18 hM
                          by_cases c19 : x1 = (12 : Int32)
                          · replace hM := zw_ift c19 hM
                            refine zr_tabIn (tgt := 172) (off := 171) g dX8_about_1 c19 (by decide) rfl ?_
                            refine zr_aload_n (q := 173) g 0 dX8_about_172 rfl rfl rfl ?_
                            refine zr_getr (q := 176) (k0 := 7) (j := 24) g (hI 0 (by decide)) zs_0 rfl zf_X8_58 dX8_about_173 rfl ?_
                            refine zr_geti (q := 179) (k0 := 3) g (hI 24 (by decide)) zs_24 rfl zf_X8_134 dX8_about_176 rfl ?_
                            cases hM
                            exact zr_iret g hr hlk dX8_about_179 rfl rfl
                          · replace hM := zw_iff c19 hM
                            by_cases c20 : x1 = (13 : Int32)
                            · replace hM := zw_ift c20 hM
                              refine zr_tabIn (tgt := 180) (off := 179) g dX8_about_1 c20 (by decide) rfl ?_
                              refine zr_aload_n (q := 181) g 0 dX8_about_180 rfl rfl rfl ?_
                              refine zr_getr (q := 184) (k0 := 0) (j := 1) g (hI 0 (by decide)) zs_0 rfl zf_X8_10 dX8_about_181 rfl ?_
                              refine zr_geti (q := 187) (k0 := 1) g (hI 1 (by decide)) zs_1 rfl zf_X8_86 dX8_about_184 rfl ?_
                              cases hM
                              exact zr_iret g hr hlk dX8_about_187 rfl rfl
                            · replace hM := zw_iff c20 hM
                              have hx : (x1).toInt < 0 ∨ 13 < (x1).toInt := by
                                  have := lv_neT (a := 0) c1 (by decide)
                                  have := lv_neT (a := 1) c2 (by decide)
                                  have := lv_neT (a := 2) c3 (by decide)
                                  have := lv_neT (a := 3) c4 (by decide)
                                  have := lv_neT (a := 4) c5 (by decide)
                                  have := lv_neT (a := 5) c6 (by decide)
                                  have := lv_neT (a := 6) c7 (by decide)
                                  have := lv_neT (a := 7) c8 (by decide)
                                  have := lv_neT (a := 8) c11 (by decide)
                                  have := lv_neT (a := 9) c14 (by decide)
                                  have := lv_neT (a := 10) c17 (by decide)
                                  have := lv_neT (a := 11) c18 (by decide)
                                  have := lv_neT (a := 12) c19 (by decide)
                                  have := lv_neT (a := 13) c20 (by decide)
                                  omega
                              refine zr_tabOut (tgt := 188) g dX8_about_1 hx rfl ?_
                              refine zr_bipush (q := 190) (v := (-2 : Int32)) g dX8_about_188 rfl (by decide) ?_
                              cases hM
                              exact zr_iret g hr hlk dX8_about_190 rfl rfl
noncomputable def M_X8_person (x1 : Int32) (x2 : Int32) (h : zw_Hp) : Option (Int32) :=
  (M_X2_hasPerson 6 x1 h).bind (fun z1 => if z1 = 0 then (some (-1 : Int32)) else (if x2 = (0 : Int32) then (if zw_ok x1 5 = true then (some (h.1 7 (x1).toNatClampNeg)) else none) else (if x2 = (1 : Int32) then ((M_X3_standOf 9 x1 h).bind (fun z7 => some z7)) else (some (-2 : Int32)))))
set_option maxRecDepth 100000 in
set_option maxHeartbeats 4000000 in
theorem R_X8_person (ok : zw_Ok E) (hI : ∀ i, i < 48 → i ∈ E.2.2.1) {x1 : Int32} {x2 : Int32} {h : zw_Hp} {z : Int32} (hM : M_X8_person x1 x2 h = some z) : zw_Ct l E mt_X8_person [.ref (E.2.1 0), .int x1, .int x2] h (some (.int z)) h := by
  unfold M_X8_person at hM
  refine zw_ct (lv0 := [(0, .ref (E.2.1 0)), (1, .int x1), (2, .int x2)]) ok (by decide) rfl (Nat.le_of_ble_eq_true rfl) (fun p e s m args below meth c g hr hlk => ?_)
  replace g : zw_G p E (zw_A E) s m args c RX8 cX8_person 3 := g
  show zw_V p l e s m args below meth c E mt_X8_person 3 (some (.int z)) h 0 [(0, .ref (E.2.1 0)), (1, .int x1), (2, .int x2)] [] h
  refine zr_aload_n (q := 1) g 0 dX8_person_0 rfl rfl rfl ?_
  refine zr_getr (q := 4) (k0 := 2) (j := 6) g (hI 0 (by decide)) zs_0 rfl zf_X8_23 dX8_person_1 rfl ?_
  refine zr_iload_n (q := 5) g 1 dX8_person_4 rfl rfl rfl ?_
  obtain ⟨z1, q2, hM⟩ := zw_bd hM
  refine zr_callV (q := 8) (As := [.int x1]) (rest := []) (st' := [.int z1]) (i := 6) g (R_X2_hasPerson (Or.inr rfl) ok hI q2) zv_X2_hasPerson zl_X8_135 (hI 6 (by decide)) zs_6 zc_X2.1 dX8_person_5 rfl rfl ⟨Nat.le_of_ble_eq_true rfl, Nat.le_of_ble_eq_true rfl⟩ ⟨Nat.zero_le _, Nat.zero_le _⟩ (Nat.le_of_ble_eq_true rfl) rfl rfl ?_
  refine zr_if_ne (q := 11) (tgt := 13) g dX8_person_8 rfl rfl (fun c3 => ?_) (fun c3 => ?_)
  · replace hM := zw_iff c3 hM
    refine zr_iload_n (q := 14) g 2 dX8_person_13 rfl rfl rfl ?_
    by_cases c4 : x2 = (0 : Int32)
    · replace hM := zw_ift c4 hM
      refine zr_look (tgt := 40) (off := 26) g dX8_person_14 (by decide) (by rw [c4]; decide) rfl ?_
      refine zr_aload_n (q := 41) g 0 dX8_person_40 rfl rfl rfl ?_
      refine zr_getr (q := 44) (k0 := 2) (j := 6) g (hI 0 (by decide)) zs_0 rfl zf_X8_23 dX8_person_41 rfl ?_
      refine zr_getr (q := 47) (k0 := 0) (j := 7) g (hI 6 (by decide)) zs_6 rfl zf_X8_138 dX8_person_44 rfl ?_
      refine zr_iload_n (q := 48) g 1 dX8_person_47 rfl rfl rfl ?_
      obtain ⟨c5, hM⟩ := zw_gd hM
      refine zr_iald (q := 49) g (hI 7 (by decide)) zs_7 c5 dX8_person_48 rfl ?_
      cases hM
      exact zr_iret g hr hlk dX8_person_49 rfl rfl
    · replace hM := zw_iff c4 hM
      by_cases c6 : x2 = (1 : Int32)
      · replace hM := zw_ift c6 hM
        refine zr_look (tgt := 50) (off := 36) g dX8_person_14 (by decide) (by rw [c6]; decide) rfl ?_
        refine zr_aload_n (q := 51) g 0 dX8_person_50 rfl rfl rfl ?_
        refine zr_getr (q := 54) (k0 := 3) (j := 9) g (hI 0 (by decide)) zs_0 rfl zf_X8_31 dX8_person_51 rfl ?_
        refine zr_iload_n (q := 55) g 1 dX8_person_54 rfl rfl rfl ?_
        obtain ⟨z7, q8, hM⟩ := zw_bd hM
        refine zr_callV (q := 58) (As := [.int x1]) (rest := []) (st' := [.int z7]) (i := 9) g (R_X3_standOf (Or.inl rfl) ok hI q8) zv_X3_standOf zl_X8_142 (hI 9 (by decide)) zs_9 zc_X3.1 dX8_person_55 rfl rfl ⟨Nat.le_of_ble_eq_true rfl, Nat.le_of_ble_eq_true rfl⟩ ⟨Nat.zero_le _, Nat.zero_le _⟩ (Nat.le_of_ble_eq_true rfl) rfl rfl ?_
        cases hM
        exact zr_iret g hr hlk dX8_person_58 rfl rfl
      · replace hM := zw_iff c6 hM
        refine zr_look (tgt := 59) g dX8_person_14 (by decide) (off := 45) ((lv_osw c4 (by decide)).trans ((lv_osw c6 (by decide)).trans (rfl))) rfl ?_
        refine zr_bipush (q := 61) (v := (-2 : Int32)) g dX8_person_59 rfl (by decide) ?_
        cases hM
        exact zr_iret g hr hlk dX8_person_61 rfl rfl
  · replace hM := zw_ift c3 hM
    refine zr_iconst (q := 12) (v := (-1 : Int32)) g dX8_person_11 rfl (by decide) ?_
    cases hM
    exact zr_iret g hr hlk dX8_person_12 rfl rfl
noncomputable def M_X8_stand (x1 : Int32) (x2 : Int32) (h : zw_Hp) : Option (Int32) :=
  (M_X2_hasPerson 6 x1 h).bind (fun z1 => if z1 = 0 then (some (-1 : Int32)) else (if x2 = (0 : Int32) then (if zw_ok x1 5 = true then (some (h.1 10 (x1).toNatClampNeg)) else none) else (if x2 = (1 : Int32) then ((M_X3_leastBucketAt 9 x1 h).bind (fun z7 => some z7)) else (some (-2 : Int32)))))
set_option maxRecDepth 100000 in
set_option maxHeartbeats 4000000 in
theorem R_X8_stand (ok : zw_Ok E) (hI : ∀ i, i < 48 → i ∈ E.2.2.1) {x1 : Int32} {x2 : Int32} {h : zw_Hp} {z : Int32} (hM : M_X8_stand x1 x2 h = some z) : zw_Ct l E mt_X8_stand [.ref (E.2.1 0), .int x1, .int x2] h (some (.int z)) h := by
  unfold M_X8_stand at hM
  refine zw_ct (lv0 := [(0, .ref (E.2.1 0)), (1, .int x1), (2, .int x2)]) ok (by decide) rfl (Nat.le_of_ble_eq_true rfl) (fun p e s m args below meth c g hr hlk => ?_)
  replace g : zw_G p E (zw_A E) s m args c RX8 cX8_stand 3 := g
  show zw_V p l e s m args below meth c E mt_X8_stand 3 (some (.int z)) h 0 [(0, .ref (E.2.1 0)), (1, .int x1), (2, .int x2)] [] h
  refine zr_aload_n (q := 1) g 0 dX8_stand_0 rfl rfl rfl ?_
  refine zr_getr (q := 4) (k0 := 2) (j := 6) g (hI 0 (by decide)) zs_0 rfl zf_X8_23 dX8_stand_1 rfl ?_
  refine zr_iload_n (q := 5) g 1 dX8_stand_4 rfl rfl rfl ?_
  obtain ⟨z1, q2, hM⟩ := zw_bd hM
  refine zr_callV (q := 8) (As := [.int x1]) (rest := []) (st' := [.int z1]) (i := 6) g (R_X2_hasPerson (Or.inr rfl) ok hI q2) zv_X2_hasPerson zl_X8_135 (hI 6 (by decide)) zs_6 zc_X2.1 dX8_stand_5 rfl rfl ⟨Nat.le_of_ble_eq_true rfl, Nat.le_of_ble_eq_true rfl⟩ ⟨Nat.zero_le _, Nat.zero_le _⟩ (Nat.le_of_ble_eq_true rfl) rfl rfl ?_
  refine zr_if_ne (q := 11) (tgt := 13) g dX8_stand_8 rfl rfl (fun c3 => ?_) (fun c3 => ?_)
  · replace hM := zw_iff c3 hM
    refine zr_iload_n (q := 14) g 2 dX8_stand_13 rfl rfl rfl ?_
    by_cases c4 : x2 = (0 : Int32)
    · replace hM := zw_ift c4 hM
      refine zr_look (tgt := 40) (off := 26) g dX8_stand_14 (by decide) (by rw [c4]; decide) rfl ?_
      refine zr_aload_n (q := 41) g 0 dX8_stand_40 rfl rfl rfl ?_
      refine zr_getr (q := 44) (k0 := 3) (j := 9) g (hI 0 (by decide)) zs_0 rfl zf_X8_31 dX8_stand_41 rfl ?_
      refine zr_getr (q := 47) (k0 := 1) (j := 10) g (hI 9 (by decide)) zs_9 rfl zf_X8_145 dX8_stand_44 rfl ?_
      refine zr_iload_n (q := 48) g 1 dX8_stand_47 rfl rfl rfl ?_
      obtain ⟨c5, hM⟩ := zw_gd hM
      refine zr_iald (q := 49) g (hI 10 (by decide)) zs_10 c5 dX8_stand_48 rfl ?_
      cases hM
      exact zr_iret g hr hlk dX8_stand_49 rfl rfl
    · replace hM := zw_iff c4 hM
      by_cases c6 : x2 = (1 : Int32)
      · replace hM := zw_ift c6 hM
        refine zr_look (tgt := 50) (off := 36) g dX8_stand_14 (by decide) (by rw [c6]; decide) rfl ?_
        refine zr_aload_n (q := 51) g 0 dX8_stand_50 rfl rfl rfl ?_
        refine zr_getr (q := 54) (k0 := 3) (j := 9) g (hI 0 (by decide)) zs_0 rfl zf_X8_31 dX8_stand_51 rfl ?_
        refine zr_iload_n (q := 55) g 1 dX8_stand_54 rfl rfl rfl ?_
        obtain ⟨z7, q8, hM⟩ := zw_bd hM
        refine zr_callV (q := 58) (As := [.int x1]) (rest := []) (st' := [.int z7]) (i := 9) g (R_X3_leastBucketAt (Or.inl rfl) ok hI q8) zv_X3_leastBucketAt zl_X8_148 (hI 9 (by decide)) zs_9 zc_X3.1 dX8_stand_55 rfl rfl ⟨Nat.le_of_ble_eq_true rfl, Nat.le_of_ble_eq_true rfl⟩ ⟨Nat.zero_le _, Nat.zero_le _⟩ (Nat.le_of_ble_eq_true rfl) rfl rfl ?_
        cases hM
        exact zr_iret g hr hlk dX8_stand_58 rfl rfl
      · replace hM := zw_iff c6 hM
        refine zr_look (tgt := 59) g dX8_stand_14 (by decide) (off := 45) ((lv_osw c4 (by decide)).trans ((lv_osw c6 (by decide)).trans (rfl))) rfl ?_
        refine zr_bipush (q := 61) (v := (-2 : Int32)) g dX8_stand_59 rfl (by decide) ?_
        cases hM
        exact zr_iret g hr hlk dX8_stand_61 rfl rfl
  · replace hM := zw_ift c3 hM
    refine zr_iconst (q := 12) (v := (-1 : Int32)) g dX8_stand_11 rfl (by decide) ?_
    cases hM
    exact zr_iret g hr hlk dX8_stand_12 rfl rfl
noncomputable def M_X8_bucket (x1 : Int32) (x2 : Int32) (h : zw_Hp) : Option (Int32) :=
  (M_X2_hasBucket 6 x1 h).bind (fun z1 => if z1 = 0 then (some (-1 : Int32)) else (if x2 = (0 : Int32) then (if zw_ok x1 4 = true then (some (h.1 8 (x1).toNatClampNeg)) else none) else (if x2 = (1 : Int32) then ((M_X3_hasHole 9 x1 h).bind (fun z7 => if z7 = 0 then (some (0 : Int32)) else (some (1 : Int32)))) else (if x2 = (2 : Int32) then (if zw_ok x1 4 = true then (some (h.1 11 (x1).toNatClampNeg)) else none) else (if x2 = (3 : Int32) then (if zw_ok x1 4 = true then (some (h.1 12 (x1).toNatClampNeg)) else none) else (if x2 = (4 : Int32) then (if zw_ok x1 4 = true then (some (h.1 13 (x1).toNatClampNeg)) else none) else (some (-2 : Int32))))))))
set_option maxRecDepth 100000 in
set_option maxHeartbeats 4000000 in
theorem R_X8_bucket (ok : zw_Ok E) (hI : ∀ i, i < 48 → i ∈ E.2.2.1) {x1 : Int32} {x2 : Int32} {h : zw_Hp} {z : Int32} (hM : M_X8_bucket x1 x2 h = some z) : zw_Ct l E mt_X8_bucket [.ref (E.2.1 0), .int x1, .int x2] h (some (.int z)) h := by
  unfold M_X8_bucket at hM
  refine zw_ct (lv0 := [(0, .ref (E.2.1 0)), (1, .int x1), (2, .int x2)]) ok (by decide) rfl (Nat.le_of_ble_eq_true rfl) (fun p e s m args below meth c g hr hlk => ?_)
  replace g : zw_G p E (zw_A E) s m args c RX8 cX8_bucket 3 := g
  show zw_V p l e s m args below meth c E mt_X8_bucket 3 (some (.int z)) h 0 [(0, .ref (E.2.1 0)), (1, .int x1), (2, .int x2)] [] h
  refine zr_aload_n (q := 1) g 0 dX8_bucket_0 rfl rfl rfl ?_
  refine zr_getr (q := 4) (k0 := 2) (j := 6) g (hI 0 (by decide)) zs_0 rfl zf_X8_23 dX8_bucket_1 rfl ?_
  refine zr_iload_n (q := 5) g 1 dX8_bucket_4 rfl rfl rfl ?_
  obtain ⟨z1, q2, hM⟩ := zw_bd hM
  refine zr_callV (q := 8) (As := [.int x1]) (rest := []) (st' := [.int z1]) (i := 6) g (R_X2_hasBucket (Or.inr rfl) ok hI q2) zv_X2_hasBucket zl_X8_151 (hI 6 (by decide)) zs_6 zc_X2.1 dX8_bucket_5 rfl rfl ⟨Nat.le_of_ble_eq_true rfl, Nat.le_of_ble_eq_true rfl⟩ ⟨Nat.zero_le _, Nat.zero_le _⟩ (Nat.le_of_ble_eq_true rfl) rfl rfl ?_
  refine zr_if_ne (q := 11) (tgt := 13) g dX8_bucket_8 rfl rfl (fun c3 => ?_) (fun c3 => ?_)
  · replace hM := zw_iff c3 hM
    refine zr_iload_n (q := 14) g 2 dX8_bucket_13 rfl rfl rfl ?_
    by_cases c4 : x2 = (0 : Int32)
    · replace hM := zw_ift c4 hM
      refine zr_tabIn (tgt := 48) (off := 34) g dX8_bucket_14 c4 (by decide) rfl ?_
      refine zr_aload_n (q := 49) g 0 dX8_bucket_48 rfl rfl rfl ?_
      refine zr_getr (q := 52) (k0 := 2) (j := 6) g (hI 0 (by decide)) zs_0 rfl zf_X8_23 dX8_bucket_49 rfl ?_
      refine zr_getr (q := 55) (k0 := 1) (j := 8) g (hI 6 (by decide)) zs_6 rfl zf_X8_154 dX8_bucket_52 rfl ?_
      refine zr_iload_n (q := 56) g 1 dX8_bucket_55 rfl rfl rfl ?_
      obtain ⟨c5, hM⟩ := zw_gd hM
      refine zr_iald (q := 57) g (hI 8 (by decide)) zs_8 c5 dX8_bucket_56 rfl ?_
      cases hM
      exact zr_iret g hr hlk dX8_bucket_57 rfl rfl
    · replace hM := zw_iff c4 hM
      by_cases c6 : x2 = (1 : Int32)
      · replace hM := zw_ift c6 hM
        refine zr_tabIn (tgt := 58) (off := 44) g dX8_bucket_14 c6 (by decide) rfl ?_
        refine zr_aload_n (q := 59) g 0 dX8_bucket_58 rfl rfl rfl ?_
        refine zr_getr (q := 62) (k0 := 3) (j := 9) g (hI 0 (by decide)) zs_0 rfl zf_X8_31 dX8_bucket_59 rfl ?_
        refine zr_iload_n (q := 63) g 1 dX8_bucket_62 rfl rfl rfl ?_
        obtain ⟨z7, q8, hM⟩ := zw_bd hM
        refine zr_callV (q := 66) (As := [.int x1]) (rest := []) (st' := [.int z7]) (i := 9) g (R_X3_hasHole (Or.inl rfl) ok hI q8) zv_X3_hasHole zl_X8_157 (hI 9 (by decide)) zs_9 zc_X3.1 dX8_bucket_63 rfl rfl ⟨Nat.le_of_ble_eq_true rfl, Nat.le_of_ble_eq_true rfl⟩ ⟨Nat.zero_le _, Nat.zero_le _⟩ (Nat.le_of_ble_eq_true rfl) rfl rfl ?_
        refine zr_if_eq (q := 69) (tgt := 73) g dX8_bucket_66 rfl rfl (fun c9 => ?_) (fun c9 => ?_)
        · replace hM := zw_ift c9 hM
          refine zr_iconst (q := 74) (v := (0 : Int32)) g dX8_bucket_73 rfl (by decide) ?_
          cases hM
          exact zr_iret g hr hlk dX8_bucket_74 rfl rfl
        · replace hM := zw_iff c9 hM
          refine zr_iconst (q := 70) (v := (1 : Int32)) g dX8_bucket_69 rfl (by decide) ?_
          refine zr_goto (tgt := 74) g dX8_bucket_70 rfl ?_
          cases hM
          exact zr_iret g hr hlk dX8_bucket_74 rfl rfl
      · replace hM := zw_iff c6 hM
        by_cases c10 : x2 = (2 : Int32)
        · replace hM := zw_ift c10 hM
          refine zr_tabIn (tgt := 75) (off := 61) g dX8_bucket_14 c10 (by decide) rfl ?_
          refine zr_aload_n (q := 76) g 0 dX8_bucket_75 rfl rfl rfl ?_
          refine zr_getr (q := 79) (k0 := 3) (j := 9) g (hI 0 (by decide)) zs_0 rfl zf_X8_31 dX8_bucket_76 rfl ?_
          refine zr_getr (q := 82) (k0 := 2) (j := 11) g (hI 9 (by decide)) zs_9 rfl zf_X8_160 dX8_bucket_79 rfl ?_
          refine zr_iload_n (q := 83) g 1 dX8_bucket_82 rfl rfl rfl ?_
          obtain ⟨c11, hM⟩ := zw_gd hM
          refine zr_iald (q := 84) g (hI 11 (by decide)) zs_11 c11 dX8_bucket_83 rfl ?_
          cases hM
          exact zr_iret g hr hlk dX8_bucket_84 rfl rfl
        · replace hM := zw_iff c10 hM
          by_cases c12 : x2 = (3 : Int32)
          · replace hM := zw_ift c12 hM
            refine zr_tabIn (tgt := 85) (off := 71) g dX8_bucket_14 c12 (by decide) rfl ?_
            refine zr_aload_n (q := 86) g 0 dX8_bucket_85 rfl rfl rfl ?_
            refine zr_getr (q := 89) (k0 := 3) (j := 9) g (hI 0 (by decide)) zs_0 rfl zf_X8_31 dX8_bucket_86 rfl ?_
            refine zr_getr (q := 92) (k0 := 3) (j := 12) g (hI 9 (by decide)) zs_9 rfl zf_X8_163 dX8_bucket_89 rfl ?_
            refine zr_iload_n (q := 93) g 1 dX8_bucket_92 rfl rfl rfl ?_
            obtain ⟨c13, hM⟩ := zw_gd hM
            refine zr_iald (q := 94) g (hI 12 (by decide)) zs_12 c13 dX8_bucket_93 rfl ?_
            cases hM
            exact zr_iret g hr hlk dX8_bucket_94 rfl rfl
          · replace hM := zw_iff c12 hM
            by_cases c14 : x2 = (4 : Int32)
            · replace hM := zw_ift c14 hM
              refine zr_tabIn (tgt := 95) (off := 81) g dX8_bucket_14 c14 (by decide) rfl ?_
              refine zr_aload_n (q := 96) g 0 dX8_bucket_95 rfl rfl rfl ?_
              refine zr_getr (q := 99) (k0 := 3) (j := 9) g (hI 0 (by decide)) zs_0 rfl zf_X8_31 dX8_bucket_96 rfl ?_
              refine zr_getr (q := 102) (k0 := 4) (j := 13) g (hI 9 (by decide)) zs_9 rfl zf_X8_166 dX8_bucket_99 rfl ?_
              refine zr_iload_n (q := 103) g 1 dX8_bucket_102 rfl rfl rfl ?_
              obtain ⟨c15, hM⟩ := zw_gd hM
              refine zr_iald (q := 104) g (hI 13 (by decide)) zs_13 c15 dX8_bucket_103 rfl ?_
              cases hM
              exact zr_iret g hr hlk dX8_bucket_104 rfl rfl
            · replace hM := zw_iff c14 hM
              have hx : (x2).toInt < 0 ∨ 4 < (x2).toInt := by
                  have := lv_neT (a := 0) c4 (by decide)
                  have := lv_neT (a := 1) c6 (by decide)
                  have := lv_neT (a := 2) c10 (by decide)
                  have := lv_neT (a := 3) c12 (by decide)
                  have := lv_neT (a := 4) c14 (by decide)
                  omega
              refine zr_tabOut (tgt := 105) g dX8_bucket_14 hx rfl ?_
              refine zr_bipush (q := 107) (v := (-2 : Int32)) g dX8_bucket_105 rfl (by decide) ?_
              cases hM
              exact zr_iret g hr hlk dX8_bucket_107 rfl rfl
  · replace hM := zw_ift c3 hM
    refine zr_iconst (q := 12) (v := (-1 : Int32)) g dX8_bucket_11 rfl (by decide) ?_
    cases hM
    exact zr_iret g hr hlk dX8_bucket_12 rfl rfl
noncomputable def M_X8_beat (h : zw_Hp) : Option (Int32 × zw_Hp) :=
  (M_X0_remember 9 h).bind (fun z1 => (M_X3_passBeat 9 z1).bind (fun z3 => some (z3.1, z3.2)))
set_option maxRecDepth 100000 in
set_option maxHeartbeats 4000000 in
theorem R_X8_beat (ok : zw_Ok E) (hI : ∀ i, i < 48 → i ∈ E.2.2.1) {h : zw_Hp} {z : Int32 × zw_Hp} (hM : M_X8_beat h = some z) : zw_Ct l E mt_X8_beat [.ref (E.2.1 0)] h (some (.int z.1)) z.2 := by
  unfold M_X8_beat at hM
  refine zw_ct (lv0 := [(0, .ref (E.2.1 0))]) ok (by decide) rfl (Nat.le_of_ble_eq_true rfl) (fun p e s m args below meth c g hr hlk => ?_)
  replace g : zw_G p E (zw_A E) s m args c RX8 cX8_beat 1 := g
  show zw_V p l e s m args below meth c E mt_X8_beat 1 (some (.int z.1)) z.2 0 [(0, .ref (E.2.1 0))] [] h
  refine zr_aload_n (q := 1) g 0 dX8_beat_0 rfl rfl rfl ?_
  refine zr_getr (q := 4) (k0 := 4) (j := 19) g (hI 0 (by decide)) zs_0 rfl zf_X8_38 dX8_beat_1 rfl ?_
  refine zr_aload_n (q := 5) g 0 dX8_beat_4 rfl rfl rfl ?_
  refine zr_getr (q := 8) (k0 := 3) (j := 9) g (hI 0 (by decide)) zs_0 rfl zf_X8_31 dX8_beat_5 rfl ?_
  obtain ⟨z1, q2, hM⟩ := zw_bd hM
  refine zr_callV (q := 11) (As := [.ref (E.2.1 9)]) (rest := []) (st' := []) (i := 19) g (R_X0_remember (Or.inl rfl) ok hI q2) zv_X0_remember zl_X8_169 (hI 19 (by decide)) zs_19 zc_X0.1 dX8_beat_8 rfl rfl ⟨Nat.le_of_ble_eq_true rfl, Nat.le_of_ble_eq_true rfl⟩ ⟨Nat.zero_le _, Nat.zero_le _⟩ (Nat.le_of_ble_eq_true rfl) rfl rfl ?_
  refine zr_aload_n (q := 12) g 0 dX8_beat_11 rfl rfl rfl ?_
  refine zr_getr (q := 15) (k0 := 3) (j := 9) g (hI 0 (by decide)) zs_0 rfl zf_X8_31 dX8_beat_12 rfl ?_
  obtain ⟨z3, q4, hM⟩ := zw_bd hM
  refine zr_callV (q := 18) (As := []) (rest := []) (st' := [.int z3.1]) (i := 9) g (R_X3_passBeat (Or.inl rfl) ok hI q4) zv_X3_passBeat zl_X8_173 (hI 9 (by decide)) zs_9 zc_X3.1 dX8_beat_15 rfl rfl ⟨Nat.le_of_ble_eq_true rfl, Nat.le_of_ble_eq_true rfl⟩ ⟨Nat.zero_le _, Nat.zero_le _⟩ (Nat.le_of_ble_eq_true rfl) rfl rfl ?_
  cases hM
  exact zr_iret g hr hlk dX8_beat_18 rfl rfl
noncomputable def M_X8_change (x1 : Int32) (x2 : Int32) (h : zw_Hp) : Option (Int32 × zw_Hp) :=
  (M_X2_hasPerson 6 x1 h).bind (fun z1 => if z1 = 0 then (some ((-1 : Int32), h)) else ((M_X2_hasPerson 6 x2 h).bind (fun z4 => if z4 = 0 then (some ((-1 : Int32), h)) else (if x1 = x2 then (some ((-2 : Int32), h)) else ((M_X0_remember 9 h).bind (fun z8 => (M_X3_exchange 9 x1 x2 z8).bind (fun z10 => (M_X3_standOf 9 x1 z10).bind (fun z12 => some (z12, z10)))))))))
set_option maxRecDepth 100000 in
set_option maxHeartbeats 4000000 in
theorem R_X8_change (ok : zw_Ok E) (hI : ∀ i, i < 48 → i ∈ E.2.2.1) {x1 : Int32} {x2 : Int32} {h : zw_Hp} {z : Int32 × zw_Hp} (hM : M_X8_change x1 x2 h = some z) : zw_Ct l E mt_X8_change [.ref (E.2.1 0), .int x1, .int x2] h (some (.int z.1)) z.2 := by
  unfold M_X8_change at hM
  refine zw_ct (lv0 := [(0, .ref (E.2.1 0)), (1, .int x1), (2, .int x2)]) ok (by decide) rfl (Nat.le_of_ble_eq_true rfl) (fun p e s m args below meth c g hr hlk => ?_)
  replace g : zw_G p E (zw_A E) s m args c RX8 cX8_change 3 := g
  show zw_V p l e s m args below meth c E mt_X8_change 3 (some (.int z.1)) z.2 0 [(0, .ref (E.2.1 0)), (1, .int x1), (2, .int x2)] [] h
  refine zr_aload_n (q := 1) g 0 dX8_change_0 rfl rfl rfl ?_
  refine zr_getr (q := 4) (k0 := 2) (j := 6) g (hI 0 (by decide)) zs_0 rfl zf_X8_23 dX8_change_1 rfl ?_
  refine zr_iload_n (q := 5) g 1 dX8_change_4 rfl rfl rfl ?_
  obtain ⟨z1, q2, hM⟩ := zw_bd hM
  refine zr_callV (q := 8) (As := [.int x1]) (rest := []) (st' := [.int z1]) (i := 6) g (R_X2_hasPerson (Or.inr rfl) ok hI q2) zv_X2_hasPerson zl_X8_135 (hI 6 (by decide)) zs_6 zc_X2.1 dX8_change_5 rfl rfl ⟨Nat.le_of_ble_eq_true rfl, Nat.le_of_ble_eq_true rfl⟩ ⟨Nat.zero_le _, Nat.zero_le _⟩ (Nat.le_of_ble_eq_true rfl) rfl rfl ?_
  refine zr_if_eq (q := 11) (tgt := 22) g dX8_change_8 rfl rfl (fun c3 => ?_) (fun c3 => ?_)
  · replace hM := zw_ift c3 hM
    refine zr_iconst (q := 23) (v := (-1 : Int32)) g dX8_change_22 rfl (by decide) ?_
    cases hM
    exact zr_iret g hr hlk dX8_change_23 rfl rfl
  · replace hM := zw_iff c3 hM
    refine zr_aload_n (q := 12) g 0 dX8_change_11 rfl rfl rfl ?_
    refine zr_getr (q := 15) (k0 := 2) (j := 6) g (hI 0 (by decide)) zs_0 rfl zf_X8_23 dX8_change_12 rfl ?_
    refine zr_iload_n (q := 16) g 2 dX8_change_15 rfl rfl rfl ?_
    obtain ⟨z4, q5, hM⟩ := zw_bd hM
    refine zr_callV (q := 19) (As := [.int x2]) (rest := []) (st' := [.int z4]) (i := 6) g (R_X2_hasPerson (Or.inr rfl) ok hI q5) zv_X2_hasPerson zl_X8_135 (hI 6 (by decide)) zs_6 zc_X2.1 dX8_change_16 rfl rfl ⟨Nat.le_of_ble_eq_true rfl, Nat.le_of_ble_eq_true rfl⟩ ⟨Nat.zero_le _, Nat.zero_le _⟩ (Nat.le_of_ble_eq_true rfl) rfl rfl ?_
    refine zr_if_ne (q := 22) (tgt := 24) g dX8_change_19 rfl rfl (fun c6 => ?_) (fun c6 => ?_)
    · replace hM := zw_iff c6 hM
      refine zr_iload_n (q := 25) g 1 dX8_change_24 rfl rfl rfl ?_
      refine zr_iload_n (q := 26) g 2 dX8_change_25 rfl rfl rfl ?_
      refine zr_icmp_ne (q := 29) (tgt := 32) g dX8_change_26 rfl rfl (fun c7 => ?_) (fun c7 => ?_)
      · replace hM := zw_iff c7 hM
        refine zr_aload_n (q := 33) g 0 dX8_change_32 rfl rfl rfl ?_
        refine zr_getr (q := 36) (k0 := 4) (j := 19) g (hI 0 (by decide)) zs_0 rfl zf_X8_38 dX8_change_33 rfl ?_
        refine zr_aload_n (q := 37) g 0 dX8_change_36 rfl rfl rfl ?_
        refine zr_getr (q := 40) (k0 := 3) (j := 9) g (hI 0 (by decide)) zs_0 rfl zf_X8_31 dX8_change_37 rfl ?_
        obtain ⟨z8, q9, hM⟩ := zw_bd hM
        refine zr_callV (q := 43) (As := [.ref (E.2.1 9)]) (rest := []) (st' := []) (i := 19) g (R_X0_remember (Or.inl rfl) ok hI q9) zv_X0_remember zl_X8_169 (hI 19 (by decide)) zs_19 zc_X0.1 dX8_change_40 rfl rfl ⟨Nat.le_of_ble_eq_true rfl, Nat.le_of_ble_eq_true rfl⟩ ⟨Nat.zero_le _, Nat.zero_le _⟩ (Nat.le_of_ble_eq_true rfl) rfl rfl ?_
        refine zr_aload_n (q := 44) g 0 dX8_change_43 rfl rfl rfl ?_
        refine zr_getr (q := 47) (k0 := 3) (j := 9) g (hI 0 (by decide)) zs_0 rfl zf_X8_31 dX8_change_44 rfl ?_
        refine zr_iload_n (q := 48) g 1 dX8_change_47 rfl rfl rfl ?_
        refine zr_iload_n (q := 49) g 2 dX8_change_48 rfl rfl rfl ?_
        obtain ⟨z10, q11, hM⟩ := zw_bd hM
        refine zr_callV (q := 52) (As := [.int x1, .int x2]) (rest := []) (st' := []) (i := 9) g (R_X3_exchange (Or.inl rfl) ok hI q11) zv_X3_exchange zl_X8_176 (hI 9 (by decide)) zs_9 zc_X3.1 dX8_change_49 rfl rfl ⟨Nat.le_of_ble_eq_true rfl, Nat.le_of_ble_eq_true rfl⟩ ⟨Nat.zero_le _, Nat.zero_le _⟩ (Nat.le_of_ble_eq_true rfl) rfl rfl ?_
        refine zr_aload_n (q := 53) g 0 dX8_change_52 rfl rfl rfl ?_
        refine zr_getr (q := 56) (k0 := 3) (j := 9) g (hI 0 (by decide)) zs_0 rfl zf_X8_31 dX8_change_53 rfl ?_
        refine zr_iload_n (q := 57) g 1 dX8_change_56 rfl rfl rfl ?_
        obtain ⟨z12, q13, hM⟩ := zw_bd hM
        refine zr_callV (q := 60) (As := [.int x1]) (rest := []) (st' := [.int z12]) (i := 9) g (R_X3_standOf (Or.inl rfl) ok hI q13) zv_X3_standOf zl_X8_142 (hI 9 (by decide)) zs_9 zc_X3.1 dX8_change_57 rfl rfl ⟨Nat.le_of_ble_eq_true rfl, Nat.le_of_ble_eq_true rfl⟩ ⟨Nat.zero_le _, Nat.zero_le _⟩ (Nat.le_of_ble_eq_true rfl) rfl rfl ?_
        cases hM
        exact zr_iret g hr hlk dX8_change_60 rfl rfl
      · replace hM := zw_ift c7 hM
        refine zr_bipush (q := 31) (v := (-2 : Int32)) g dX8_change_29 rfl (by decide) ?_
        cases hM
        exact zr_iret g hr hlk dX8_change_31 rfl rfl
    · replace hM := zw_ift c6 hM
      refine zr_iconst (q := 23) (v := (-1 : Int32)) g dX8_change_22 rfl (by decide) ?_
      cases hM
      exact zr_iret g hr hlk dX8_change_23 rfl rfl
noncomputable def M_X8_mend (x1 : Int32) (h : zw_Hp) : Option (Int32 × zw_Hp) :=
  (M_X2_hasBucket 6 x1 h).bind (fun z1 => if z1 = 0 then (some ((-1 : Int32), h)) else ((M_X3_hasHole 9 x1 h).bind (fun z4 => if z4 = 0 then (some ((-3 : Int32), h)) else ((M_X0_remember 9 h).bind (fun z7 => (M_X3_closeHole 9 x1 z7).bind (fun z9 => (M_J6_bitCount_0f7a4 (z9.1 9 5) z9).bind (fun z11 => some (z11, z9))))))))
set_option maxRecDepth 100000 in
set_option maxHeartbeats 4000000 in
theorem R_X8_mend (ok : zw_Ok E) (hI : ∀ i, i < 48 → i ∈ E.2.2.1) {x1 : Int32} {h : zw_Hp} {z : Int32 × zw_Hp} (hM : M_X8_mend x1 h = some z) : zw_Ct l E mt_X8_mend [.ref (E.2.1 0), .int x1] h (some (.int z.1)) z.2 := by
  unfold M_X8_mend at hM
  refine zw_ct (lv0 := [(0, .ref (E.2.1 0)), (1, .int x1)]) ok (by decide) rfl (Nat.le_of_ble_eq_true rfl) (fun p e s m args below meth c g hr hlk => ?_)
  replace g : zw_G p E (zw_A E) s m args c RX8 cX8_mend 2 := g
  show zw_V p l e s m args below meth c E mt_X8_mend 2 (some (.int z.1)) z.2 0 [(0, .ref (E.2.1 0)), (1, .int x1)] [] h
  refine zr_aload_n (q := 1) g 0 dX8_mend_0 rfl rfl rfl ?_
  refine zr_getr (q := 4) (k0 := 2) (j := 6) g (hI 0 (by decide)) zs_0 rfl zf_X8_23 dX8_mend_1 rfl ?_
  refine zr_iload_n (q := 5) g 1 dX8_mend_4 rfl rfl rfl ?_
  obtain ⟨z1, q2, hM⟩ := zw_bd hM
  refine zr_callV (q := 8) (As := [.int x1]) (rest := []) (st' := [.int z1]) (i := 6) g (R_X2_hasBucket (Or.inr rfl) ok hI q2) zv_X2_hasBucket zl_X8_151 (hI 6 (by decide)) zs_6 zc_X2.1 dX8_mend_5 rfl rfl ⟨Nat.le_of_ble_eq_true rfl, Nat.le_of_ble_eq_true rfl⟩ ⟨Nat.zero_le _, Nat.zero_le _⟩ (Nat.le_of_ble_eq_true rfl) rfl rfl ?_
  refine zr_if_ne (q := 11) (tgt := 13) g dX8_mend_8 rfl rfl (fun c3 => ?_) (fun c3 => ?_)
  · replace hM := zw_iff c3 hM
    refine zr_aload_n (q := 14) g 0 dX8_mend_13 rfl rfl rfl ?_
    refine zr_getr (q := 17) (k0 := 3) (j := 9) g (hI 0 (by decide)) zs_0 rfl zf_X8_31 dX8_mend_14 rfl ?_
    refine zr_iload_n (q := 18) g 1 dX8_mend_17 rfl rfl rfl ?_
    obtain ⟨z4, q5, hM⟩ := zw_bd hM
    refine zr_callV (q := 21) (As := [.int x1]) (rest := []) (st' := [.int z4]) (i := 9) g (R_X3_hasHole (Or.inl rfl) ok hI q5) zv_X3_hasHole zl_X8_157 (hI 9 (by decide)) zs_9 zc_X3.1 dX8_mend_18 rfl rfl ⟨Nat.le_of_ble_eq_true rfl, Nat.le_of_ble_eq_true rfl⟩ ⟨Nat.zero_le _, Nat.zero_le _⟩ (Nat.le_of_ble_eq_true rfl) rfl rfl ?_
    refine zr_if_ne (q := 24) (tgt := 27) g dX8_mend_21 rfl rfl (fun c6 => ?_) (fun c6 => ?_)
    · replace hM := zw_iff c6 hM
      refine zr_aload_n (q := 28) g 0 dX8_mend_27 rfl rfl rfl ?_
      refine zr_getr (q := 31) (k0 := 4) (j := 19) g (hI 0 (by decide)) zs_0 rfl zf_X8_38 dX8_mend_28 rfl ?_
      refine zr_aload_n (q := 32) g 0 dX8_mend_31 rfl rfl rfl ?_
      refine zr_getr (q := 35) (k0 := 3) (j := 9) g (hI 0 (by decide)) zs_0 rfl zf_X8_31 dX8_mend_32 rfl ?_
      obtain ⟨z7, q8, hM⟩ := zw_bd hM
      refine zr_callV (q := 38) (As := [.ref (E.2.1 9)]) (rest := []) (st' := []) (i := 19) g (R_X0_remember (Or.inl rfl) ok hI q8) zv_X0_remember zl_X8_169 (hI 19 (by decide)) zs_19 zc_X0.1 dX8_mend_35 rfl rfl ⟨Nat.le_of_ble_eq_true rfl, Nat.le_of_ble_eq_true rfl⟩ ⟨Nat.zero_le _, Nat.zero_le _⟩ (Nat.le_of_ble_eq_true rfl) rfl rfl ?_
      refine zr_aload_n (q := 39) g 0 dX8_mend_38 rfl rfl rfl ?_
      refine zr_getr (q := 42) (k0 := 3) (j := 9) g (hI 0 (by decide)) zs_0 rfl zf_X8_31 dX8_mend_39 rfl ?_
      refine zr_iload_n (q := 43) g 1 dX8_mend_42 rfl rfl rfl ?_
      obtain ⟨z9, q10, hM⟩ := zw_bd hM
      refine zr_callV (q := 46) (As := [.int x1]) (rest := []) (st' := []) (i := 9) g (R_X3_closeHole (Or.inl rfl) ok hI q10) zv_X3_closeHole zl_X8_180 (hI 9 (by decide)) zs_9 zc_X3.1 dX8_mend_43 rfl rfl ⟨Nat.le_of_ble_eq_true rfl, Nat.le_of_ble_eq_true rfl⟩ ⟨Nat.zero_le _, Nat.zero_le _⟩ (Nat.le_of_ble_eq_true rfl) rfl rfl ?_
      refine zr_aload_n (q := 47) g 0 dX8_mend_46 rfl rfl rfl ?_
      refine zr_getr (q := 50) (k0 := 3) (j := 9) g (hI 0 (by decide)) zs_0 rfl zf_X8_31 dX8_mend_47 rfl ?_
      refine zr_geti (q := 53) (k0 := 5) g (hI 9 (by decide)) zs_9 rfl zf_X8_128 dX8_mend_50 rfl ?_
      obtain ⟨z11, q12, hM⟩ := zw_bd hM
      refine zr_callS (q := 56) (As := [.int (z9.1 9 5)]) (rest := []) (st' := [.int z11]) g (R_J6_bitCount_0f7a4 ok hI q12) zv_J6_bitCount_0f7a4 zl_X8_183 dX8_mend_53 rfl rfl ⟨Nat.le_of_ble_eq_true rfl, Nat.le_of_ble_eq_true rfl⟩ ⟨Nat.zero_le _, Nat.zero_le _⟩ (Nat.le_of_ble_eq_true rfl) rfl rfl ?_
      cases hM
      exact zr_iret g hr hlk dX8_mend_56 rfl rfl
    · replace hM := zw_ift c6 hM
      refine zr_bipush (q := 26) (v := (-3 : Int32)) g dX8_mend_24 rfl (by decide) ?_
      cases hM
      exact zr_iret g hr hlk dX8_mend_26 rfl rfl
  · replace hM := zw_ift c3 hM
    refine zr_iconst (q := 12) (v := (-1 : Int32)) g dX8_mend_11 rfl (by decide) ?_
    cases hM
    exact zr_iret g hr hlk dX8_mend_12 rfl rfl
noncomputable def M_X8_drop (x1 : Int32) (h : zw_Hp) : Option (Int32 × zw_Hp) :=
  (M_X2_hasBucket 6 x1 h).bind (fun z1 => if z1 = 0 then (some ((-1 : Int32), h)) else ((M_X3_isHeld 9 x1 h).bind (fun z4 => if z4 = 0 then (some ((-3 : Int32), h)) else ((M_X0_remember 9 h).bind (fun z7 => if zw_ok x1 4 = true then (zw_nm (z7.1 12 (x1).toNatClampNeg) (fun y10 => (M_X3_letFall 9 x1 z7).bind (fun z12 => some (y10, z12)))) else none)))))
set_option maxRecDepth 100000 in
set_option maxHeartbeats 4000000 in
theorem R_X8_drop (ok : zw_Ok E) (hI : ∀ i, i < 48 → i ∈ E.2.2.1) {x1 : Int32} {h : zw_Hp} {z : Int32 × zw_Hp} (hM : M_X8_drop x1 h = some z) : zw_Ct l E mt_X8_drop [.ref (E.2.1 0), .int x1] h (some (.int z.1)) z.2 := by
  unfold M_X8_drop at hM
  refine zw_ct (lv0 := [(0, .ref (E.2.1 0)), (1, .int x1)]) ok (by decide) rfl (Nat.le_of_ble_eq_true rfl) (fun p e s m args below meth c g hr hlk => ?_)
  replace g : zw_G p E (zw_A E) s m args c RX8 cX8_drop 3 := g
  show zw_V p l e s m args below meth c E mt_X8_drop 3 (some (.int z.1)) z.2 0 [(0, .ref (E.2.1 0)), (1, .int x1)] [] h
  refine zr_aload_n (q := 1) g 0 dX8_drop_0 rfl rfl rfl ?_
  refine zr_getr (q := 4) (k0 := 2) (j := 6) g (hI 0 (by decide)) zs_0 rfl zf_X8_23 dX8_drop_1 rfl ?_
  refine zr_iload_n (q := 5) g 1 dX8_drop_4 rfl rfl rfl ?_
  obtain ⟨z1, q2, hM⟩ := zw_bd hM
  refine zr_callV (q := 8) (As := [.int x1]) (rest := []) (st' := [.int z1]) (i := 6) g (R_X2_hasBucket (Or.inr rfl) ok hI q2) zv_X2_hasBucket zl_X8_151 (hI 6 (by decide)) zs_6 zc_X2.1 dX8_drop_5 rfl rfl ⟨Nat.le_of_ble_eq_true rfl, Nat.le_of_ble_eq_true rfl⟩ ⟨Nat.zero_le _, Nat.zero_le _⟩ (Nat.le_of_ble_eq_true rfl) rfl rfl ?_
  refine zr_if_ne (q := 11) (tgt := 13) g dX8_drop_8 rfl rfl (fun c3 => ?_) (fun c3 => ?_)
  · replace hM := zw_iff c3 hM
    refine zr_aload_n (q := 14) g 0 dX8_drop_13 rfl rfl rfl ?_
    refine zr_getr (q := 17) (k0 := 3) (j := 9) g (hI 0 (by decide)) zs_0 rfl zf_X8_31 dX8_drop_14 rfl ?_
    refine zr_iload_n (q := 18) g 1 dX8_drop_17 rfl rfl rfl ?_
    obtain ⟨z4, q5, hM⟩ := zw_bd hM
    refine zr_callV (q := 21) (As := [.int x1]) (rest := []) (st' := [.int z4]) (i := 9) g (R_X3_isHeld (Or.inl rfl) ok hI q5) zv_X3_isHeld zl_X8_188 (hI 9 (by decide)) zs_9 zc_X3.1 dX8_drop_18 rfl rfl ⟨Nat.le_of_ble_eq_true rfl, Nat.le_of_ble_eq_true rfl⟩ ⟨Nat.zero_le _, Nat.zero_le _⟩ (Nat.le_of_ble_eq_true rfl) rfl rfl ?_
    refine zr_if_ne (q := 24) (tgt := 27) g dX8_drop_21 rfl rfl (fun c6 => ?_) (fun c6 => ?_)
    · replace hM := zw_iff c6 hM
      refine zr_aload_n (q := 28) g 0 dX8_drop_27 rfl rfl rfl ?_
      refine zr_getr (q := 31) (k0 := 4) (j := 19) g (hI 0 (by decide)) zs_0 rfl zf_X8_38 dX8_drop_28 rfl ?_
      refine zr_aload_n (q := 32) g 0 dX8_drop_31 rfl rfl rfl ?_
      refine zr_getr (q := 35) (k0 := 3) (j := 9) g (hI 0 (by decide)) zs_0 rfl zf_X8_31 dX8_drop_32 rfl ?_
      obtain ⟨z7, q8, hM⟩ := zw_bd hM
      refine zr_callV (q := 38) (As := [.ref (E.2.1 9)]) (rest := []) (st' := []) (i := 19) g (R_X0_remember (Or.inl rfl) ok hI q8) zv_X0_remember zl_X8_169 (hI 19 (by decide)) zs_19 zc_X0.1 dX8_drop_35 rfl rfl ⟨Nat.le_of_ble_eq_true rfl, Nat.le_of_ble_eq_true rfl⟩ ⟨Nat.zero_le _, Nat.zero_le _⟩ (Nat.le_of_ble_eq_true rfl) rfl rfl ?_
      refine zr_aload_n (q := 39) g 0 dX8_drop_38 rfl rfl rfl ?_
      refine zr_getr (q := 42) (k0 := 3) (j := 9) g (hI 0 (by decide)) zs_0 rfl zf_X8_31 dX8_drop_39 rfl ?_
      refine zr_getr (q := 45) (k0 := 3) (j := 12) g (hI 9 (by decide)) zs_9 rfl zf_X8_163 dX8_drop_42 rfl ?_
      refine zr_iload_n (q := 46) g 1 dX8_drop_45 rfl rfl rfl ?_
      obtain ⟨c9, hM⟩ := zw_gd hM
      refine zr_iald (q := 47) g (hI 12 (by decide)) zs_12 c9 dX8_drop_46 rfl ?_
      obtain ⟨y10, e11, hM⟩ := zw_nm_ex hM
      refine zr_nmi e11 ?_
      refine zr_istore_n (q := 48) (lv' := [(2, .int y10), (0, .ref (E.2.1 0)), (1, .int x1)]) g dX8_drop_47 rfl rfl (by decide) rfl ?_
      refine zr_aload_n (q := 49) g 1 dX8_drop_48 rfl rfl rfl ?_
      refine zr_getr (q := 52) (k0 := 3) (j := 9) g (hI 0 (by decide)) zs_0 rfl zf_X8_31 dX8_drop_49 rfl ?_
      refine zr_iload_n (q := 53) g 2 dX8_drop_52 rfl rfl rfl ?_
      obtain ⟨z12, q13, hM⟩ := zw_bd hM
      refine zr_callV (q := 56) (As := [.int x1]) (rest := []) (st' := []) (i := 9) g (R_X3_letFall (Or.inl rfl) ok hI q13) zv_X3_letFall zl_X8_191 (hI 9 (by decide)) zs_9 zc_X3.1 dX8_drop_53 rfl rfl ⟨Nat.le_of_ble_eq_true rfl, Nat.le_of_ble_eq_true rfl⟩ ⟨Nat.zero_le _, Nat.zero_le _⟩ (Nat.le_of_ble_eq_true rfl) rfl rfl ?_
      refine zr_iload_n (q := 57) g 0 dX8_drop_56 rfl rfl rfl ?_
      cases hM
      exact zr_iret g hr hlk dX8_drop_57 rfl rfl
    · replace hM := zw_ift c6 hM
      refine zr_bipush (q := 26) (v := (-3 : Int32)) g dX8_drop_24 rfl (by decide) ?_
      cases hM
      exact zr_iret g hr hlk dX8_drop_26 rfl rfl
  · replace hM := zw_ift c3 hM
    refine zr_iconst (q := 12) (v := (-1 : Int32)) g dX8_drop_11 rfl (by decide) ?_
    cases hM
    exact zr_iret g hr hlk dX8_drop_12 rfl rfl
noncomputable def M_X8_undo (h : zw_Hp) : Option (Int32 × zw_Hp) :=
  if (h.1 19 2) = 0 then (some ((-3 : Int32), h)) else ((M_X0_takeBack 9 h).bind (fun z2 => some ((z2.1 19 2), z2)))
set_option maxRecDepth 100000 in
set_option maxHeartbeats 4000000 in
theorem R_X8_undo (ok : zw_Ok E) (hI : ∀ i, i < 48 → i ∈ E.2.2.1) {h : zw_Hp} {z : Int32 × zw_Hp} (hM : M_X8_undo h = some z) : zw_Ct l E mt_X8_undo [.ref (E.2.1 0)] h (some (.int z.1)) z.2 := by
  unfold M_X8_undo at hM
  refine zw_ct (lv0 := [(0, .ref (E.2.1 0))]) ok (by decide) rfl (Nat.le_of_ble_eq_true rfl) (fun p e s m args below meth c g hr hlk => ?_)
  replace g : zw_G p E (zw_A E) s m args c RX8 cX8_undo 1 := g
  show zw_V p l e s m args below meth c E mt_X8_undo 1 (some (.int z.1)) z.2 0 [(0, .ref (E.2.1 0))] [] h
  refine zr_aload_n (q := 1) g 0 dX8_undo_0 rfl rfl rfl ?_
  refine zr_getr (q := 4) (k0 := 4) (j := 19) g (hI 0 (by decide)) zs_0 rfl zf_X8_38 dX8_undo_1 rfl ?_
  refine zr_geti (q := 7) (k0 := 2) g (hI 19 (by decide)) zs_19 rfl zf_X8_131 dX8_undo_4 rfl ?_
  refine zr_if_ne (q := 10) (tgt := 13) g dX8_undo_7 rfl rfl (fun c1 => ?_) (fun c1 => ?_)
  · replace hM := zw_iff c1 hM
    refine zr_aload_n (q := 14) g 0 dX8_undo_13 rfl rfl rfl ?_
    refine zr_getr (q := 17) (k0 := 4) (j := 19) g (hI 0 (by decide)) zs_0 rfl zf_X8_38 dX8_undo_14 rfl ?_
    refine zr_aload_n (q := 18) g 0 dX8_undo_17 rfl rfl rfl ?_
    refine zr_getr (q := 21) (k0 := 3) (j := 9) g (hI 0 (by decide)) zs_0 rfl zf_X8_31 dX8_undo_18 rfl ?_
    obtain ⟨z2, q3, hM⟩ := zw_bd hM
    refine zr_callV (q := 24) (As := [.ref (E.2.1 9)]) (rest := []) (st' := []) (i := 19) g (R_X0_takeBack (Or.inl rfl) ok hI q3) zv_X0_takeBack zl_X8_194 (hI 19 (by decide)) zs_19 zc_X0.1 dX8_undo_21 rfl rfl ⟨Nat.le_of_ble_eq_true rfl, Nat.le_of_ble_eq_true rfl⟩ ⟨Nat.zero_le _, Nat.zero_le _⟩ (Nat.le_of_ble_eq_true rfl) rfl rfl ?_
    refine zr_aload_n (q := 25) g 0 dX8_undo_24 rfl rfl rfl ?_
    refine zr_getr (q := 28) (k0 := 4) (j := 19) g (hI 0 (by decide)) zs_0 rfl zf_X8_38 dX8_undo_25 rfl ?_
    refine zr_geti (q := 31) (k0 := 2) g (hI 19 (by decide)) zs_19 rfl zf_X8_131 dX8_undo_28 rfl ?_
    cases hM
    exact zr_iret g hr hlk dX8_undo_31 rfl rfl
  · replace hM := zw_ift c1 hM
    refine zr_bipush (q := 12) (v := (-3 : Int32)) g dX8_undo_10 rfl (by decide) ?_
    cases hM
    exact zr_iret g hr hlk dX8_undo_12 rfl rfl
noncomputable def M_X8_isZeroOrOne (x0 : Int32) (h : zw_Hp) : Option (Int32) :=
  if x0 = 0 then (some (1 : Int32)) else (if x0 = (1 : Int32) then (some (1 : Int32)) else (some (0 : Int32)))
set_option maxRecDepth 100000 in
set_option maxHeartbeats 4000000 in
theorem R_X8_isZeroOrOne (ok : zw_Ok E) (hI : ∀ i, i < 48 → i ∈ E.2.2.1) {x0 : Int32} {h : zw_Hp} {z : Int32} (hM : M_X8_isZeroOrOne x0 h = some z) : zw_Ct l E mt_X8_isZeroOrOne [.int x0] h (some (.int z)) h := by
  unfold M_X8_isZeroOrOne at hM
  refine zw_ct (lv0 := [(0, .int x0)]) ok (by decide) rfl (Nat.le_of_ble_eq_true rfl) (fun p e s m args below meth c g hr hlk => ?_)
  replace g : zw_G p E (zw_A E) s m args c RX8 cX8_isZeroOrOne 1 := g
  show zw_V p l e s m args below meth c E mt_X8_isZeroOrOne 1 (some (.int z)) h 0 [(0, .int x0)] [] h
  refine zr_iload_n (q := 1) g 0 dX8_isZeroOrOne_0 rfl rfl rfl ?_
  refine zr_if_eq (q := 4) (tgt := 9) g dX8_isZeroOrOne_1 rfl rfl (fun c1 => ?_) (fun c1 => ?_)
  · replace hM := zw_ift c1 hM
    refine zr_iconst (q := 10) (v := (1 : Int32)) g dX8_isZeroOrOne_9 rfl (by decide) ?_
    refine zr_goto (tgt := 14) g dX8_isZeroOrOne_10 rfl ?_
    cases hM
    exact zr_zret g hr hlk (by decide) dX8_isZeroOrOne_14 rfl rfl
  · replace hM := zw_iff c1 hM
    refine zr_iload_n (q := 5) g 0 dX8_isZeroOrOne_4 rfl rfl rfl ?_
    refine zr_iconst (q := 6) (v := (1 : Int32)) g dX8_isZeroOrOne_5 rfl (by decide) ?_
    refine zr_icmp_ne (q := 9) (tgt := 13) g dX8_isZeroOrOne_6 rfl rfl (fun c2 => ?_) (fun c2 => ?_)
    · replace hM := zw_iff c2 hM
      refine zr_iconst (q := 14) (v := (0 : Int32)) g dX8_isZeroOrOne_13 rfl (by decide) ?_
      cases hM
      exact zr_zret g hr hlk (by decide) dX8_isZeroOrOne_14 rfl rfl
    · replace hM := zw_ift c2 hM
      refine zr_iconst (q := 10) (v := (1 : Int32)) g dX8_isZeroOrOne_9 rfl (by decide) ?_
      refine zr_goto (tgt := 14) g dX8_isZeroOrOne_10 rfl ?_
      cases hM
      exact zr_zret g hr hlk (by decide) dX8_isZeroOrOne_14 rfl rfl
noncomputable def M_X1_begin (h : zw_Hp) : Option (zw_Hp) :=
  (M_X3_copyFrom 14 9 h).bind (fun z1 => some z1)
set_option maxRecDepth 100000 in
set_option maxHeartbeats 4000000 in
theorem R_X1_begin (ok : zw_Ok E) (hI : ∀ i, i < 48 → i ∈ E.2.2.1) {h : zw_Hp} {z : zw_Hp} (hM : M_X1_begin h = some z) : zw_Ct l E mt_X1_begin [.ref (E.2.1 30)] h none z := by
  unfold M_X1_begin at hM
  refine zw_ct (lv0 := [(0, .ref (E.2.1 30))]) ok (by decide) rfl (Nat.le_of_ble_eq_true rfl) (fun p e s m args below meth c g hr hlk => ?_)
  replace g : zw_G p E (zw_A E) s m args c RX1 cX1_begin 1 := g
  show zw_V p l e s m args below meth c E mt_X1_begin 1 none z 0 [(0, .ref (E.2.1 30))] [] h
  refine zr_aload_n (q := 1) g 0 dX1_begin_0 rfl rfl rfl ?_
  refine zr_getr (q := 4) (k0 := 2) (j := 14) g (hI 30 (by decide)) zs_30 rfl zf_X1_19 dX1_begin_1 rfl ?_
  refine zr_aload_n (q := 5) g 0 dX1_begin_4 rfl rfl rfl ?_
  refine zr_getr (q := 8) (k0 := 1) (j := 9) g (hI 30 (by decide)) zs_30 rfl zf_X1_15 dX1_begin_5 rfl ?_
  obtain ⟨z1, q2, hM⟩ := zw_bd hM
  refine zr_callV (q := 11) (As := [.ref (E.2.1 9)]) (rest := []) (st' := []) (i := 14) g (R_X3_copyFrom (Or.inr rfl) (Or.inl rfl) ok hI q2) zv_X3_copyFrom zl_X1_22 (hI 14 (by decide)) zs_14 zc_X3.1 dX1_begin_8 rfl rfl ⟨Nat.le_of_ble_eq_true rfl, Nat.le_of_ble_eq_true rfl⟩ ⟨Nat.zero_le _, Nat.zero_le _⟩ (Nat.le_of_ble_eq_true rfl) rfl rfl ?_
  cases hM
  exact zr_vret g hr hlk dX1_begin_11 rfl rfl
noncomputable def M_X1_fireIn (x1 : Int32) (h : zw_Hp) : Option (Int32 × zw_Hp) :=
  (M_X1_begin h).bind (fun z1 => (M_X3_passBeats 14 x1 z1).bind (fun z3 => some ((z3.2.1 14 6), z3.2)))
set_option maxRecDepth 100000 in
set_option maxHeartbeats 4000000 in
theorem R_X1_fireIn (ok : zw_Ok E) (hI : ∀ i, i < 48 → i ∈ E.2.2.1) {x1 : Int32} {h : zw_Hp} {z : Int32 × zw_Hp} (hM : M_X1_fireIn x1 h = some z) : zw_Ct l E mt_X1_fireIn [.ref (E.2.1 30), .int x1] h (some (.int z.1)) z.2 := by
  unfold M_X1_fireIn at hM
  refine zw_ct (lv0 := [(0, .ref (E.2.1 30)), (1, .int x1)]) ok (by decide) rfl (Nat.le_of_ble_eq_true rfl) (fun p e s m args below meth c g hr hlk => ?_)
  replace g : zw_G p E (zw_A E) s m args c RX1 cX1_fireIn 2 := g
  show zw_V p l e s m args below meth c E mt_X1_fireIn 2 (some (.int z.1)) z.2 0 [(0, .ref (E.2.1 30)), (1, .int x1)] [] h
  refine zr_aload_n (q := 1) g 0 dX1_fireIn_0 rfl rfl rfl ?_
  obtain ⟨z1, q2, hM⟩ := zw_bd hM
  refine zr_callV (q := 4) (As := []) (rest := []) (st' := []) (i := 30) g (R_X1_begin ok hI q2) zv_X1_begin zl_X1_28 (hI 30 (by decide)) zs_30 zc_X1.1 dX1_fireIn_1 rfl rfl ⟨Nat.le_of_ble_eq_true rfl, Nat.le_of_ble_eq_true rfl⟩ ⟨Nat.zero_le _, Nat.zero_le _⟩ (Nat.le_of_ble_eq_true rfl) rfl rfl ?_
  refine zr_aload_n (q := 5) g 0 dX1_fireIn_4 rfl rfl rfl ?_
  refine zr_getr (q := 8) (k0 := 2) (j := 14) g (hI 30 (by decide)) zs_30 rfl zf_X1_19 dX1_fireIn_5 rfl ?_
  refine zr_iload_n (q := 9) g 1 dX1_fireIn_8 rfl rfl rfl ?_
  obtain ⟨z3, q4, hM⟩ := zw_bd hM
  refine zr_callV (q := 12) (As := [.int x1]) (rest := []) (st' := [.int z3.1]) (i := 14) g (R_X3_passBeats (Or.inr rfl) ok hI q4) zv_X3_passBeats zl_X1_31 (hI 14 (by decide)) zs_14 zc_X3.1 dX1_fireIn_9 rfl rfl ⟨Nat.le_of_ble_eq_true rfl, Nat.le_of_ble_eq_true rfl⟩ ⟨Nat.zero_le _, Nat.zero_le _⟩ (Nat.le_of_ble_eq_true rfl) rfl rfl ?_
  refine zr_pop (q := 13) g dX1_fireIn_12 rfl rfl ?_
  refine zr_aload_n (q := 14) g 0 dX1_fireIn_13 rfl rfl rfl ?_
  refine zr_getr (q := 17) (k0 := 2) (j := 14) g (hI 30 (by decide)) zs_30 rfl zf_X1_19 dX1_fireIn_14 rfl ?_
  refine zr_geti (q := 20) (k0 := 6) g (hI 14 (by decide)) zs_14 rfl zf_X1_35 dX1_fireIn_17 rfl ?_
  cases hM
  exact zr_iret g hr hlk dX1_fireIn_20 rfl rfl
noncomputable def M_X1_thrownIn (x1 : Int32) (h : zw_Hp) : Option (Int32 × zw_Hp) :=
  (M_X1_begin h).bind (fun z1 => (M_X3_passBeats 14 x1 z1).bind (fun z3 => some ((z3.2.1 14 7), z3.2)))
set_option maxRecDepth 100000 in
set_option maxHeartbeats 4000000 in
theorem R_X1_thrownIn (ok : zw_Ok E) (hI : ∀ i, i < 48 → i ∈ E.2.2.1) {x1 : Int32} {h : zw_Hp} {z : Int32 × zw_Hp} (hM : M_X1_thrownIn x1 h = some z) : zw_Ct l E mt_X1_thrownIn [.ref (E.2.1 30), .int x1] h (some (.int z.1)) z.2 := by
  unfold M_X1_thrownIn at hM
  refine zw_ct (lv0 := [(0, .ref (E.2.1 30)), (1, .int x1)]) ok (by decide) rfl (Nat.le_of_ble_eq_true rfl) (fun p e s m args below meth c g hr hlk => ?_)
  replace g : zw_G p E (zw_A E) s m args c RX1 cX1_thrownIn 2 := g
  show zw_V p l e s m args below meth c E mt_X1_thrownIn 2 (some (.int z.1)) z.2 0 [(0, .ref (E.2.1 30)), (1, .int x1)] [] h
  refine zr_aload_n (q := 1) g 0 dX1_thrownIn_0 rfl rfl rfl ?_
  obtain ⟨z1, q2, hM⟩ := zw_bd hM
  refine zr_callV (q := 4) (As := []) (rest := []) (st' := []) (i := 30) g (R_X1_begin ok hI q2) zv_X1_begin zl_X1_28 (hI 30 (by decide)) zs_30 zc_X1.1 dX1_thrownIn_1 rfl rfl ⟨Nat.le_of_ble_eq_true rfl, Nat.le_of_ble_eq_true rfl⟩ ⟨Nat.zero_le _, Nat.zero_le _⟩ (Nat.le_of_ble_eq_true rfl) rfl rfl ?_
  refine zr_aload_n (q := 5) g 0 dX1_thrownIn_4 rfl rfl rfl ?_
  refine zr_getr (q := 8) (k0 := 2) (j := 14) g (hI 30 (by decide)) zs_30 rfl zf_X1_19 dX1_thrownIn_5 rfl ?_
  refine zr_iload_n (q := 9) g 1 dX1_thrownIn_8 rfl rfl rfl ?_
  obtain ⟨z3, q4, hM⟩ := zw_bd hM
  refine zr_callV (q := 12) (As := [.int x1]) (rest := []) (st' := [.int z3.1]) (i := 14) g (R_X3_passBeats (Or.inr rfl) ok hI q4) zv_X3_passBeats zl_X1_31 (hI 14 (by decide)) zs_14 zc_X3.1 dX1_thrownIn_9 rfl rfl ⟨Nat.le_of_ble_eq_true rfl, Nat.le_of_ble_eq_true rfl⟩ ⟨Nat.zero_le _, Nat.zero_le _⟩ (Nat.le_of_ble_eq_true rfl) rfl rfl ?_
  refine zr_pop (q := 13) g dX1_thrownIn_12 rfl rfl ?_
  refine zr_aload_n (q := 14) g 0 dX1_thrownIn_13 rfl rfl rfl ?_
  refine zr_getr (q := 17) (k0 := 2) (j := 14) g (hI 30 (by decide)) zs_30 rfl zf_X1_19 dX1_thrownIn_14 rfl ?_
  refine zr_geti (q := 20) (k0 := 7) g (hI 14 (by decide)) zs_14 rfl zf_X1_39 dX1_thrownIn_17 rfl ?_
  cases hM
  exact zr_iret g hr hlk dX1_thrownIn_20 rfl rfl
noncomputable def M_X8_later (x1 : Int32) (x2 : Int32) (h : zw_Hp) : Option (Int32 × zw_Hp) :=
  if x1 < 0 then (some ((-2 : Int32), h)) else (if (40 : Int32) < x1 then (some ((-2 : Int32), h)) else ((M_X8_isZeroOrOne x2 h).bind (fun z3 => if z3 = 0 then (some ((-2 : Int32), h)) else (if x2 = 0 then ((M_X1_fireIn x1 h).bind (fun z9 => some (z9.1, z9.2))) else ((M_X1_thrownIn x1 h).bind (fun z7 => some (z7.1, z7.2)))))))
set_option maxRecDepth 100000 in
set_option maxHeartbeats 4000000 in
theorem R_X8_later (ok : zw_Ok E) (hI : ∀ i, i < 48 → i ∈ E.2.2.1) {x1 : Int32} {x2 : Int32} {h : zw_Hp} {z : Int32 × zw_Hp} (hM : M_X8_later x1 x2 h = some z) : zw_Ct l E mt_X8_later [.ref (E.2.1 0), .int x1, .int x2] h (some (.int z.1)) z.2 := by
  unfold M_X8_later at hM
  refine zw_ct (lv0 := [(0, .ref (E.2.1 0)), (1, .int x1), (2, .int x2)]) ok (by decide) rfl (Nat.le_of_ble_eq_true rfl) (fun p e s m args below meth c g hr hlk => ?_)
  replace g : zw_G p E (zw_A E) s m args c RX8 cX8_later 3 := g
  show zw_V p l e s m args below meth c E mt_X8_later 3 (some (.int z.1)) z.2 0 [(0, .ref (E.2.1 0)), (1, .int x1), (2, .int x2)] [] h
  refine zr_iload_n (q := 1) g 1 dX8_later_0 rfl rfl rfl ?_
  refine zr_if_lt (q := 4) (tgt := 17) g dX8_later_1 rfl rfl (fun c1 => ?_) (fun c1 => ?_)
  · replace hM := zw_ift c1 hM
    refine zr_bipush (q := 19) (v := (-2 : Int32)) g dX8_later_17 rfl (by decide) ?_
    cases hM
    exact zr_iret g hr hlk dX8_later_19 rfl rfl
  · replace hM := zw_iff c1 hM
    refine zr_iload_n (q := 5) g 1 dX8_later_4 rfl rfl rfl ?_
    refine zr_bipush (q := 7) (v := (40 : Int32)) g dX8_later_5 rfl (by decide) ?_
    refine zr_icmp_gt (q := 10) (tgt := 17) g dX8_later_7 rfl rfl (fun c2 => ?_) (fun c2 => ?_)
    · replace hM := zw_ift c2 hM
      refine zr_bipush (q := 19) (v := (-2 : Int32)) g dX8_later_17 rfl (by decide) ?_
      cases hM
      exact zr_iret g hr hlk dX8_later_19 rfl rfl
    · replace hM := zw_iff c2 hM
      refine zr_iload_n (q := 11) g 2 dX8_later_10 rfl rfl rfl ?_
      obtain ⟨z3, q4, hM⟩ := zw_bd hM
      refine zr_callS (q := 14) (As := [.int x2]) (rest := []) (st' := [.int z3]) g (R_X8_isZeroOrOne ok hI q4) zv_X8_isZeroOrOne zl_X8_197 dX8_later_11 rfl rfl ⟨Nat.le_of_ble_eq_true rfl, Nat.le_of_ble_eq_true rfl⟩ ⟨Nat.zero_le _, Nat.zero_le _⟩ (Nat.le_of_ble_eq_true rfl) rfl rfl ?_
      refine zr_if_ne (q := 17) (tgt := 20) g dX8_later_14 rfl rfl (fun c5 => ?_) (fun c5 => ?_)
      · replace hM := zw_iff c5 hM
        refine zr_iload_n (q := 21) g 2 dX8_later_20 rfl rfl rfl ?_
        refine zr_if_ne (q := 24) (tgt := 35) g dX8_later_21 rfl rfl (fun c6 => ?_) (fun c6 => ?_)
        · replace hM := zw_iff c6 hM
          refine zr_aload_n (q := 36) g 0 dX8_later_35 rfl rfl rfl ?_
          refine zr_getr (q := 39) (k0 := 9) (j := 30) g (hI 0 (by decide)) zs_0 rfl zf_X8_74 dX8_later_36 rfl ?_
          refine zr_iload_n (q := 40) g 1 dX8_later_39 rfl rfl rfl ?_
          obtain ⟨z7, q8, hM⟩ := zw_bd hM
          refine zr_callV (q := 43) (As := [.int x1]) (rest := []) (st' := [.int z7.1]) (i := 30) g (R_X1_thrownIn ok hI q8) zv_X1_thrownIn zl_X8_203 (hI 30 (by decide)) zs_30 zc_X1.1 dX8_later_40 rfl rfl ⟨Nat.le_of_ble_eq_true rfl, Nat.le_of_ble_eq_true rfl⟩ ⟨Nat.zero_le _, Nat.zero_le _⟩ (Nat.le_of_ble_eq_true rfl) rfl rfl ?_
          cases hM
          exact zr_iret g hr hlk dX8_later_43 rfl rfl
        · replace hM := zw_ift c6 hM
          refine zr_aload_n (q := 25) g 0 dX8_later_24 rfl rfl rfl ?_
          refine zr_getr (q := 28) (k0 := 9) (j := 30) g (hI 0 (by decide)) zs_0 rfl zf_X8_74 dX8_later_25 rfl ?_
          refine zr_iload_n (q := 29) g 1 dX8_later_28 rfl rfl rfl ?_
          obtain ⟨z9, q10, hM⟩ := zw_bd hM
          refine zr_callV (q := 32) (As := [.int x1]) (rest := []) (st' := [.int z9.1]) (i := 30) g (R_X1_fireIn ok hI q10) zv_X1_fireIn zl_X8_200 (hI 30 (by decide)) zs_30 zc_X1.1 dX8_later_29 rfl rfl ⟨Nat.le_of_ble_eq_true rfl, Nat.le_of_ble_eq_true rfl⟩ ⟨Nat.zero_le _, Nat.zero_le _⟩ (Nat.le_of_ble_eq_true rfl) rfl rfl ?_
          refine zr_goto (tgt := 43) g dX8_later_32 rfl ?_
          cases hM
          exact zr_iret g hr hlk dX8_later_43 rfl rfl
      · replace hM := zw_ift c5 hM
        refine zr_bipush (q := 19) (v := (-2 : Int32)) g dX8_later_17 rfl (by decide) ?_
        cases hM
        exact zr_iret g hr hlk dX8_later_19 rfl rfl
noncomputable def B_X1_beatsUntilOut_6 (k6 : (Int32 × zw_Hp) → Option (Int32 × zw_Hp)) (x1 : Int32) (h : zw_Hp) : Option (Int32 × zw_Hp) :=
  if (60 : Int32) < x1 then (some ((-9 : Int32), h)) else (if (h.1 14 6) = 0 then (some (x1, h)) else ((M_X3_passBeat 14 h).bind (fun z5 => zw_nm (x1 + (1 : Int32)) (fun y7 => k6 (y7, z5.2)))))
set_option maxRecDepth 100000 in
set_option maxHeartbeats 4000000 in
theorem U_X1_beatsUntilOut_6 (ok : zw_Ok E) (hI : ∀ i, i < 48 → i ∈ E.2.2.1) (g : zw_G p E (zw_A E) s m args c RX1 cX1_beatsUntilOut 2) (hr : meth.sig.returnType = some .int) (hlk : meth.locks = false) {k6 : (Int32 × zw_Hp) → Option (Int32 × zw_Hp)} (eL6 : ∀ (w : Int32 × zw_Hp) (z : Int32 × zw_Hp), k6 w = some z → zw_V p l e s m args below meth c E mt_X1_beatsUntilOut 2 (some (.int z.1)) z.2 6 [(0, .ref (E.2.1 30)), (1, .int w.1)] [] w.2) :
    ∀ (x1 : Int32) (h : zw_Hp) (z : Int32 × zw_Hp), B_X1_beatsUntilOut_6 k6 x1 h = some z → zw_V p l e s m args below meth c E mt_X1_beatsUntilOut 2 (some (.int z.1)) z.2 6 [(0, .ref (E.2.1 30)), (1, .int x1)] [] h := by
  intro x1 h z hM
  unfold B_X1_beatsUntilOut_6 at hM
  refine zr_iload_n (q := 7) g 1 dX1_beatsUntilOut_6 rfl rfl rfl ?_
  refine zr_bipush (q := 9) (v := (60 : Int32)) g dX1_beatsUntilOut_7 rfl (by decide) ?_
  refine zr_icmp_gt (q := 12) (tgt := 38) g dX1_beatsUntilOut_9 rfl rfl (fun c3 => ?_) (fun c3 => ?_)
  · replace hM := zw_ift c3 hM
    refine zr_bipush (q := 40) (v := (-9 : Int32)) g dX1_beatsUntilOut_38 rfl (by decide) ?_
    cases hM
    exact zr_iret g hr hlk dX1_beatsUntilOut_40 rfl rfl
  · replace hM := zw_iff c3 hM
    refine zr_aload_n (q := 13) g 0 dX1_beatsUntilOut_12 rfl rfl rfl ?_
    refine zr_getr (q := 16) (k0 := 2) (j := 14) g (hI 30 (by decide)) zs_30 rfl zf_X1_19 dX1_beatsUntilOut_13 rfl ?_
    refine zr_geti (q := 19) (k0 := 6) g (hI 14 (by decide)) zs_14 rfl zf_X1_35 dX1_beatsUntilOut_16 rfl ?_
    refine zr_if_ne (q := 22) (tgt := 24) g dX1_beatsUntilOut_19 rfl rfl (fun c4 => ?_) (fun c4 => ?_)
    · replace hM := zw_iff c4 hM
      refine zr_aload_n (q := 25) g 0 dX1_beatsUntilOut_24 rfl rfl rfl ?_
      refine zr_getr (q := 28) (k0 := 2) (j := 14) g (hI 30 (by decide)) zs_30 rfl zf_X1_19 dX1_beatsUntilOut_25 rfl ?_
      obtain ⟨z5, q6, hM⟩ := zw_bd hM
      refine zr_callV (q := 31) (As := []) (rest := []) (st' := [.int z5.1]) (i := 14) g (R_X3_passBeat (Or.inr rfl) ok hI q6) zv_X3_passBeat zl_X1_42 (hI 14 (by decide)) zs_14 zc_X3.1 dX1_beatsUntilOut_28 rfl rfl ⟨Nat.le_of_ble_eq_true rfl, Nat.le_of_ble_eq_true rfl⟩ ⟨Nat.zero_le _, Nat.zero_le _⟩ (Nat.le_of_ble_eq_true rfl) rfl rfl ?_
      refine zr_pop (q := 32) g dX1_beatsUntilOut_31 rfl rfl ?_
      obtain ⟨y7, e8, hM⟩ := zw_nm_ex hM
      refine zr_iinc (q := 35) (v := y7) (lv' := [(1, .int y7), (0, .ref (E.2.1 30))]) g 1 dX1_beatsUntilOut_32 rfl rfl (by rw [e8]; rfl) (by decide) rfl ?_
      refine zr_goto (tgt := 6) g dX1_beatsUntilOut_35 rfl ?_
      refine zr_lv (lv' := [(0, .ref (E.2.1 30)), (1, .int y7)]) [1, 0] rfl ?_
      exact eL6 _ _ hM
    · replace hM := zw_ift c4 hM
      refine zr_iload_n (q := 23) g 1 dX1_beatsUntilOut_22 rfl rfl rfl ?_
      cases hM
      exact zr_iret g hr hlk dX1_beatsUntilOut_23 rfl rfl
noncomputable def L_X1_beatsUntilOut_6 (w : Int32 × zw_Hp) : Option (Int32 × zw_Hp) :=
  zw_it (fun (k6 : (Int32 × zw_Hp) → Option (Int32 × zw_Hp)) (w : Int32 × zw_Hp) => B_X1_beatsUntilOut_6 k6 (w.1) (w.2)) 600 w
theorem UL_X1_beatsUntilOut_6 (ok : zw_Ok E) (hI : ∀ i, i < 48 → i ∈ E.2.2.1) (g : zw_G p E (zw_A E) s m args c RX1 cX1_beatsUntilOut 2) (hr : meth.sig.returnType = some .int) (hlk : meth.locks = false) :
    ∀ (w : Int32 × zw_Hp) (z : Int32 × zw_Hp), L_X1_beatsUntilOut_6 w = some z → zw_V p l e s m args below meth c E mt_X1_beatsUntilOut 2 (some (.int z.1)) z.2 6 [(0, .ref (E.2.1 30)), (1, .int w.1)] [] w.2 :=
  fun w z hM => zw_it_ind (P := fun (w : Int32 × zw_Hp) (z : Int32 × zw_Hp) => zw_V p l e s m args below meth c E mt_X1_beatsUntilOut 2 (some (.int z.1)) z.2 6 [(0, .ref (E.2.1 30)), (1, .int w.1)] [] w.2) (fun k e w z hM => U_X1_beatsUntilOut_6 ok hI g hr hlk e _ _ _ hM) 600 w z hM
noncomputable def M_X1_beatsUntilOut (h : zw_Hp) : Option (Int32 × zw_Hp) :=
  (M_X1_begin h).bind (fun z1 => L_X1_beatsUntilOut_6 ((0 : Int32), z1))
set_option maxRecDepth 100000 in
set_option maxHeartbeats 4000000 in
theorem R_X1_beatsUntilOut (ok : zw_Ok E) (hI : ∀ i, i < 48 → i ∈ E.2.2.1) {h : zw_Hp} {z : Int32 × zw_Hp} (hM : M_X1_beatsUntilOut h = some z) : zw_Ct l E mt_X1_beatsUntilOut [.ref (E.2.1 30)] h (some (.int z.1)) z.2 := by
  unfold M_X1_beatsUntilOut at hM
  refine zw_ct (lv0 := [(0, .ref (E.2.1 30))]) ok (by decide) rfl (Nat.le_of_ble_eq_true rfl) (fun p e s m args below meth c g hr hlk => ?_)
  replace g : zw_G p E (zw_A E) s m args c RX1 cX1_beatsUntilOut 2 := g
  show zw_V p l e s m args below meth c E mt_X1_beatsUntilOut 2 (some (.int z.1)) z.2 0 [(0, .ref (E.2.1 30))] [] h
  refine zr_aload_n (q := 1) g 0 dX1_beatsUntilOut_0 rfl rfl rfl ?_
  obtain ⟨z1, q2, hM⟩ := zw_bd hM
  refine zr_callV (q := 4) (As := []) (rest := []) (st' := []) (i := 30) g (R_X1_begin ok hI q2) zv_X1_begin zl_X1_28 (hI 30 (by decide)) zs_30 zc_X1.1 dX1_beatsUntilOut_1 rfl rfl ⟨Nat.le_of_ble_eq_true rfl, Nat.le_of_ble_eq_true rfl⟩ ⟨Nat.zero_le _, Nat.zero_le _⟩ (Nat.le_of_ble_eq_true rfl) rfl rfl ?_
  refine zr_iconst (q := 5) (v := (0 : Int32)) g dX1_beatsUntilOut_4 rfl (by decide) ?_
  refine zr_istore_n (q := 6) (lv' := [(1, .int (0 : Int32)), (0, .ref (E.2.1 30))]) g dX1_beatsUntilOut_5 rfl rfl (by decide) rfl ?_
  refine zr_lv (lv' := [(0, .ref (E.2.1 30)), (1, .int (0 : Int32))]) [1, 0] rfl ?_
  exact UL_X1_beatsUntilOut_6 ok hI g hr hlk _ _ hM
noncomputable def M_X8_out (h : zw_Hp) : Option (Int32 × zw_Hp) :=
  (M_X1_beatsUntilOut h).bind (fun z1 => some (z1.1, z1.2))
set_option maxRecDepth 100000 in
set_option maxHeartbeats 4000000 in
theorem R_X8_out (ok : zw_Ok E) (hI : ∀ i, i < 48 → i ∈ E.2.2.1) {h : zw_Hp} {z : Int32 × zw_Hp} (hM : M_X8_out h = some z) : zw_Ct l E mt_X8_out [.ref (E.2.1 0)] h (some (.int z.1)) z.2 := by
  unfold M_X8_out at hM
  refine zw_ct (lv0 := [(0, .ref (E.2.1 0))]) ok (by decide) rfl (Nat.le_of_ble_eq_true rfl) (fun p e s m args below meth c g hr hlk => ?_)
  replace g : zw_G p E (zw_A E) s m args c RX8 cX8_out 1 := g
  show zw_V p l e s m args below meth c E mt_X8_out 1 (some (.int z.1)) z.2 0 [(0, .ref (E.2.1 0))] [] h
  refine zr_aload_n (q := 1) g 0 dX8_out_0 rfl rfl rfl ?_
  refine zr_getr (q := 4) (k0 := 9) (j := 30) g (hI 0 (by decide)) zs_0 rfl zf_X8_74 dX8_out_1 rfl ?_
  obtain ⟨z1, q2, hM⟩ := zw_bd hM
  refine zr_callV (q := 7) (As := []) (rest := []) (st' := [.int z1.1]) (i := 30) g (R_X1_beatsUntilOut ok hI q2) zv_X1_beatsUntilOut zl_X8_206 (hI 30 (by decide)) zs_30 zc_X1.1 dX8_out_4 rfl rfl ⟨Nat.le_of_ble_eq_true rfl, Nat.le_of_ble_eq_true rfl⟩ ⟨Nat.zero_le _, Nat.zero_le _⟩ (Nat.le_of_ble_eq_true rfl) rfl rfl ?_
  cases hM
  exact zr_iret g hr hlk dX8_out_7 rfl rfl
noncomputable def M_X4_prefer (x1 : Int32) (h : zw_Hp) : Option (zw_Hp) :=
  if (h.1 14 7) ≤ (h.1 28 4) then (some h) else (zw_nm (zw_up h 28 4 (h.1 14 7)) (fun h2 => zw_nm (zw_up h2 28 5 x1) (fun h4 => some h4)))
set_option maxRecDepth 100000 in
set_option maxHeartbeats 4000000 in
theorem R_X4_prefer (ok : zw_Ok E) (hI : ∀ i, i < 48 → i ∈ E.2.2.1) {x1 : Int32} {h : zw_Hp} {z : zw_Hp} (hM : M_X4_prefer x1 h = some z) : zw_Ct l E mt_X4_prefer [.ref (E.2.1 28), .int x1] h none z := by
  unfold M_X4_prefer at hM
  refine zw_ct (lv0 := [(0, .ref (E.2.1 28)), (1, .int x1)]) ok (by decide) rfl (Nat.le_of_ble_eq_true rfl) (fun p e s m args below meth c g hr hlk => ?_)
  replace g : zw_G p E (zw_A E) s m args c RX4 cX4_prefer 2 := g
  show zw_V p l e s m args below meth c E mt_X4_prefer 2 none z 0 [(0, .ref (E.2.1 28)), (1, .int x1)] [] h
  refine zr_aload_n (q := 1) g 0 dX4_prefer_0 rfl rfl rfl ?_
  refine zr_getr (q := 4) (k0 := 2) (j := 14) g (hI 28 (by decide)) zs_28 rfl zf_X4_30 dX4_prefer_1 rfl ?_
  refine zr_geti (q := 7) (k0 := 7) g (hI 14 (by decide)) zs_14 rfl zf_X4_43 dX4_prefer_4 rfl ?_
  refine zr_aload_n (q := 8) g 0 dX4_prefer_7 rfl rfl rfl ?_
  refine zr_geti (q := 11) (k0 := 4) g (hI 28 (by decide)) zs_28 rfl zf_X4_15 dX4_prefer_8 rfl ?_
  refine zr_icmp_le (q := 14) (tgt := 30) g dX4_prefer_11 rfl rfl (fun c1 => ?_) (fun c1 => ?_)
  · replace hM := zw_ift c1 hM
    cases hM
    exact zr_vret g hr hlk dX4_prefer_30 rfl rfl
  · replace hM := zw_iff c1 hM
    refine zr_aload_n (q := 15) g 0 dX4_prefer_14 rfl rfl rfl ?_
    refine zr_aload_n (q := 16) g 0 dX4_prefer_15 rfl rfl rfl ?_
    refine zr_getr (q := 19) (k0 := 2) (j := 14) g (hI 28 (by decide)) zs_28 rfl zf_X4_30 dX4_prefer_16 rfl ?_
    refine zr_geti (q := 22) (k0 := 7) g (hI 14 (by decide)) zs_14 rfl zf_X4_43 dX4_prefer_19 rfl ?_
    obtain ⟨h2, e3, hM⟩ := zw_nm_ex hM
    refine zr_puti (q := 25) (k0 := 4) (h' := h2) g (hI 28 (by decide)) zs_28 rfl zp_X4_15 dX4_prefer_22 rfl e3 ?_
    refine zr_aload_n (q := 26) g 0 dX4_prefer_25 rfl rfl rfl ?_
    refine zr_iload_n (q := 27) g 1 dX4_prefer_26 rfl rfl rfl ?_
    obtain ⟨h4, e5, hM⟩ := zw_nm_ex hM
    refine zr_puti (q := 30) (k0 := 5) (h' := h4) g (hI 28 (by decide)) zs_28 rfl zp_X4_19 dX4_prefer_27 rfl e5 ?_
    cases hM
    exact zr_vret g hr hlk dX4_prefer_30 rfl rfl
noncomputable def B_X4_tryExchanges_54 (k39 : (Int32 × Int32 × zw_Hp) → Option (zw_Hp)) (k54 : (Int32 × Int32 × Int32 × zw_Hp) → Option (zw_Hp)) (x1 : Int32) (x2 : Int32) (x3 : Int32) (h : zw_Hp) : Option (zw_Hp) :=
  if (h.1 6 2) ≤ x3 then (zw_nm (x2 + (1 : Int32)) (fun y13 => k39 (x1, y13, h))) else ((M_X3_copyFrom 14 9 h).bind (fun z15 => (M_X3_exchange 14 x2 x3 z15).bind (fun z17 => (M_X3_passBeats 14 x1 z17).bind (fun z19 => (M_X4_prefer (((10 : Int32) * x2) + x3) z19.2).bind (fun z21 => zw_nm (x3 + (1 : Int32)) (fun y23 => k54 (x1, x2, y23, z21)))))))
set_option maxRecDepth 100000 in
set_option maxHeartbeats 4000000 in
theorem U_X4_tryExchanges_54 (ok : zw_Ok E) (hI : ∀ i, i < 48 → i ∈ E.2.2.1) (g : zw_G p E (zw_A E) s m args c RX4 cX4_tryExchanges 4) (hr : meth.sig.returnType = none) (hlk : meth.locks = false) {k39 : (Int32 × Int32 × zw_Hp) → Option (zw_Hp)} (eL39 : ∀ (w : Int32 × Int32 × zw_Hp) (z : zw_Hp), k39 w = some z → zw_V p l e s m args below meth c E mt_X4_tryExchanges 4 none z 39 [(0, .ref (E.2.1 28)), (1, .int w.1), (2, .int w.2.1)] [] w.2.2) {k54 : (Int32 × Int32 × Int32 × zw_Hp) → Option (zw_Hp)} (eL54 : ∀ (w : Int32 × Int32 × Int32 × zw_Hp) (z : zw_Hp), k54 w = some z → zw_V p l e s m args below meth c E mt_X4_tryExchanges 4 none z 54 [(0, .ref (E.2.1 28)), (1, .int w.1), (2, .int w.2.1), (3, .int w.2.2.1)] [] w.2.2.2) :
    ∀ (x1 : Int32) (x2 : Int32) (x3 : Int32) (h : zw_Hp) (z : zw_Hp), B_X4_tryExchanges_54 k39 k54 x1 x2 x3 h = some z → zw_V p l e s m args below meth c E mt_X4_tryExchanges 4 none z 54 [(0, .ref (E.2.1 28)), (1, .int x1), (2, .int x2), (3, .int x3)] [] h := by
  intro x1 x2 x3 h z hM
  unfold B_X4_tryExchanges_54 at hM
  refine zr_iload_n (q := 55) g 3 dX4_tryExchanges_54 rfl rfl rfl ?_
  refine zr_aload_n (q := 56) g 0 dX4_tryExchanges_55 rfl rfl rfl ?_
  refine zr_getr (q := 59) (k0 := 0) (j := 6) g (hI 28 (by decide)) zs_28 rfl zf_X4_22 dX4_tryExchanges_56 rfl ?_
  refine zr_geti (q := 62) (k0 := 2) g (hI 6 (by decide)) zs_6 rfl zf_X4_46 dX4_tryExchanges_59 rfl ?_
  refine zr_icmp_ge (q := 65) (tgt := 110) g dX4_tryExchanges_62 rfl rfl (fun c12 => ?_) (fun c12 => ?_)
  · replace hM := zw_ift c12 hM
    obtain ⟨y13, e14, hM⟩ := zw_nm_ex hM
    refine zr_iinc (q := 113) (v := y13) (lv' := [(2, .int y13), (0, .ref (E.2.1 28)), (1, .int x1), (3, .int x3)]) g 2 dX4_tryExchanges_110 rfl rfl (by rw [e14]; rfl) (by decide) rfl ?_
    refine zr_goto (tgt := 39) g dX4_tryExchanges_113 rfl ?_
    refine zr_lv (lv' := [(0, .ref (E.2.1 28)), (1, .int x1), (2, .int y13)]) [1, 2, 0] rfl ?_
    exact eL39 _ _ hM
  · replace hM := zw_iff c12 hM
    refine zr_aload_n (q := 66) g 0 dX4_tryExchanges_65 rfl rfl rfl ?_
    refine zr_getr (q := 69) (k0 := 2) (j := 14) g (hI 28 (by decide)) zs_28 rfl zf_X4_30 dX4_tryExchanges_66 rfl ?_
    refine zr_aload_n (q := 70) g 0 dX4_tryExchanges_69 rfl rfl rfl ?_
    refine zr_getr (q := 73) (k0 := 1) (j := 9) g (hI 28 (by decide)) zs_28 rfl zf_X4_26 dX4_tryExchanges_70 rfl ?_
    obtain ⟨z15, q16, hM⟩ := zw_bd hM
    refine zr_callV (q := 76) (As := [.ref (E.2.1 9)]) (rest := []) (st' := []) (i := 14) g (R_X3_copyFrom (Or.inr rfl) (Or.inl rfl) ok hI q16) zv_X3_copyFrom zl_X4_33 (hI 14 (by decide)) zs_14 zc_X3.1 dX4_tryExchanges_73 rfl rfl ⟨Nat.le_of_ble_eq_true rfl, Nat.le_of_ble_eq_true rfl⟩ ⟨Nat.zero_le _, Nat.zero_le _⟩ (Nat.le_of_ble_eq_true rfl) rfl rfl ?_
    refine zr_aload_n (q := 77) g 0 dX4_tryExchanges_76 rfl rfl rfl ?_
    refine zr_getr (q := 80) (k0 := 2) (j := 14) g (hI 28 (by decide)) zs_28 rfl zf_X4_30 dX4_tryExchanges_77 rfl ?_
    refine zr_iload_n (q := 81) g 2 dX4_tryExchanges_80 rfl rfl rfl ?_
    refine zr_iload_n (q := 82) g 3 dX4_tryExchanges_81 rfl rfl rfl ?_
    obtain ⟨z17, q18, hM⟩ := zw_bd hM
    refine zr_callV (q := 85) (As := [.int x2, .int x3]) (rest := []) (st' := []) (i := 14) g (R_X3_exchange (Or.inr rfl) ok hI q18) zv_X3_exchange zl_X4_51 (hI 14 (by decide)) zs_14 zc_X3.1 dX4_tryExchanges_82 rfl rfl ⟨Nat.le_of_ble_eq_true rfl, Nat.le_of_ble_eq_true rfl⟩ ⟨Nat.zero_le _, Nat.zero_le _⟩ (Nat.le_of_ble_eq_true rfl) rfl rfl ?_
    refine zr_aload_n (q := 86) g 0 dX4_tryExchanges_85 rfl rfl rfl ?_
    refine zr_getr (q := 89) (k0 := 2) (j := 14) g (hI 28 (by decide)) zs_28 rfl zf_X4_30 dX4_tryExchanges_86 rfl ?_
    refine zr_iload_n (q := 90) g 1 dX4_tryExchanges_89 rfl rfl rfl ?_
    obtain ⟨z19, q20, hM⟩ := zw_bd hM
    refine zr_callV (q := 93) (As := [.int x1]) (rest := []) (st' := [.int z19.1]) (i := 14) g (R_X3_passBeats (Or.inr rfl) ok hI q20) zv_X3_passBeats zl_X4_39 (hI 14 (by decide)) zs_14 zc_X3.1 dX4_tryExchanges_90 rfl rfl ⟨Nat.le_of_ble_eq_true rfl, Nat.le_of_ble_eq_true rfl⟩ ⟨Nat.zero_le _, Nat.zero_le _⟩ (Nat.le_of_ble_eq_true rfl) rfl rfl ?_
    refine zr_pop (q := 94) g dX4_tryExchanges_93 rfl rfl ?_
    refine zr_aload_n (q := 95) g 0 dX4_tryExchanges_94 rfl rfl rfl ?_
    refine zr_bipush (q := 97) (v := (10 : Int32)) g dX4_tryExchanges_95 rfl (by decide) ?_
    refine zr_iload_n (q := 98) g 2 dX4_tryExchanges_97 rfl rfl rfl ?_
    refine zr_imul (q := 99) g dX4_tryExchanges_98 rfl ?_
    refine zr_iload_n (q := 100) g 3 dX4_tryExchanges_99 rfl rfl rfl ?_
    refine zr_iadd (q := 101) g dX4_tryExchanges_100 rfl ?_
    obtain ⟨z21, q22, hM⟩ := zw_bd hM
    refine zr_callV (q := 104) (As := [.int (((10 : Int32) * x2) + x3)]) (rest := []) (st' := []) (i := 28) g (R_X4_prefer ok hI q22) zv_X4_prefer zl_X4_55 (hI 28 (by decide)) zs_28 zc_X4.1 dX4_tryExchanges_101 rfl rfl ⟨Nat.le_of_ble_eq_true rfl, Nat.le_of_ble_eq_true rfl⟩ ⟨Nat.zero_le _, Nat.zero_le _⟩ (Nat.le_of_ble_eq_true rfl) rfl rfl ?_
    obtain ⟨y23, e24, hM⟩ := zw_nm_ex hM
    refine zr_iinc (q := 107) (v := y23) (lv' := [(3, .int y23), (0, .ref (E.2.1 28)), (1, .int x1), (2, .int x2)]) g 3 dX4_tryExchanges_104 rfl rfl (by rw [e24]; rfl) (by decide) rfl ?_
    refine zr_goto (tgt := 54) g dX4_tryExchanges_107 rfl ?_
    refine zr_lv (lv' := [(0, .ref (E.2.1 28)), (1, .int x1), (2, .int x2), (3, .int y23)]) [1, 2, 3, 0] rfl ?_
    exact eL54 _ _ hM
noncomputable def L_X4_tryExchanges_54 (k39 : (Int32 × Int32 × zw_Hp) → Option (zw_Hp)) (w : Int32 × Int32 × Int32 × zw_Hp) : Option (zw_Hp) :=
  zw_it (fun (k54 : (Int32 × Int32 × Int32 × zw_Hp) → Option (zw_Hp)) (w : Int32 × Int32 × Int32 × zw_Hp) => B_X4_tryExchanges_54 k39 k54 (w.1) (w.2.1) (w.2.2.1) (w.2.2.2)) 600 w
theorem UL_X4_tryExchanges_54 (ok : zw_Ok E) (hI : ∀ i, i < 48 → i ∈ E.2.2.1) (g : zw_G p E (zw_A E) s m args c RX4 cX4_tryExchanges 4) (hr : meth.sig.returnType = none) (hlk : meth.locks = false) {k39 : (Int32 × Int32 × zw_Hp) → Option (zw_Hp)} (eL39 : ∀ (w : Int32 × Int32 × zw_Hp) (z : zw_Hp), k39 w = some z → zw_V p l e s m args below meth c E mt_X4_tryExchanges 4 none z 39 [(0, .ref (E.2.1 28)), (1, .int w.1), (2, .int w.2.1)] [] w.2.2) :
    ∀ (w : Int32 × Int32 × Int32 × zw_Hp) (z : zw_Hp), L_X4_tryExchanges_54 k39 w = some z → zw_V p l e s m args below meth c E mt_X4_tryExchanges 4 none z 54 [(0, .ref (E.2.1 28)), (1, .int w.1), (2, .int w.2.1), (3, .int w.2.2.1)] [] w.2.2.2 :=
  fun w z hM => zw_it_ind (P := fun (w : Int32 × Int32 × Int32 × zw_Hp) (z : zw_Hp) => zw_V p l e s m args below meth c E mt_X4_tryExchanges 4 none z 54 [(0, .ref (E.2.1 28)), (1, .int w.1), (2, .int w.2.1), (3, .int w.2.2.1)] [] w.2.2.2) (fun k e w z hM => U_X4_tryExchanges_54 ok hI g hr hlk eL39 e _ _ _ _ _ hM) 600 w z hM
noncomputable def B_X4_tryExchanges_39 (k39 : (Int32 × Int32 × zw_Hp) → Option (zw_Hp)) (x1 : Int32) (x2 : Int32) (h : zw_Hp) : Option (zw_Hp) :=
  if (h.1 6 2) ≤ x2 then (some h) else (zw_nm (x2 + (1 : Int32)) (fun y10 => L_X4_tryExchanges_54 k39 (x1, x2, y10, h)))
set_option maxRecDepth 100000 in
set_option maxHeartbeats 4000000 in
theorem U_X4_tryExchanges_39 (ok : zw_Ok E) (hI : ∀ i, i < 48 → i ∈ E.2.2.1) (g : zw_G p E (zw_A E) s m args c RX4 cX4_tryExchanges 4) (hr : meth.sig.returnType = none) (hlk : meth.locks = false) {k39 : (Int32 × Int32 × zw_Hp) → Option (zw_Hp)} (eL39 : ∀ (w : Int32 × Int32 × zw_Hp) (z : zw_Hp), k39 w = some z → zw_V p l e s m args below meth c E mt_X4_tryExchanges 4 none z 39 [(0, .ref (E.2.1 28)), (1, .int w.1), (2, .int w.2.1)] [] w.2.2) :
    ∀ (x1 : Int32) (x2 : Int32) (h : zw_Hp) (z : zw_Hp), B_X4_tryExchanges_39 k39 x1 x2 h = some z → zw_V p l e s m args below meth c E mt_X4_tryExchanges 4 none z 39 [(0, .ref (E.2.1 28)), (1, .int x1), (2, .int x2)] [] h := by
  intro x1 x2 h z hM
  unfold B_X4_tryExchanges_39 at hM
  refine zr_iload_n (q := 40) g 2 dX4_tryExchanges_39 rfl rfl rfl ?_
  refine zr_aload_n (q := 41) g 0 dX4_tryExchanges_40 rfl rfl rfl ?_
  refine zr_getr (q := 44) (k0 := 0) (j := 6) g (hI 28 (by decide)) zs_28 rfl zf_X4_22 dX4_tryExchanges_41 rfl ?_
  refine zr_geti (q := 47) (k0 := 2) g (hI 6 (by decide)) zs_6 rfl zf_X4_46 dX4_tryExchanges_44 rfl ?_
  refine zr_icmp_ge (q := 50) (tgt := 116) g dX4_tryExchanges_47 rfl rfl (fun c9 => ?_) (fun c9 => ?_)
  · replace hM := zw_ift c9 hM
    cases hM
    exact zr_vret g hr hlk dX4_tryExchanges_116 rfl rfl
  · replace hM := zw_iff c9 hM
    refine zr_iload_n (q := 51) g 2 dX4_tryExchanges_50 rfl rfl rfl ?_
    refine zr_iconst (q := 52) (v := (1 : Int32)) g dX4_tryExchanges_51 rfl (by decide) ?_
    refine zr_iadd (q := 53) g dX4_tryExchanges_52 rfl ?_
    obtain ⟨y10, e11, hM⟩ := zw_nm_ex hM
    refine zr_nmi e11 ?_
    refine zr_istore_n (q := 54) (lv' := [(3, .int y10), (0, .ref (E.2.1 28)), (1, .int x1), (2, .int x2)]) g dX4_tryExchanges_53 rfl rfl (by decide) rfl ?_
    refine zr_lv (lv' := [(0, .ref (E.2.1 28)), (1, .int x1), (2, .int x2), (3, .int y10)]) [1, 2, 3, 0] rfl ?_
    exact UL_X4_tryExchanges_54 ok hI g hr hlk eL39 _ _ hM
noncomputable def L_X4_tryExchanges_39 (w : Int32 × Int32 × zw_Hp) : Option (zw_Hp) :=
  zw_it (fun (k39 : (Int32 × Int32 × zw_Hp) → Option (zw_Hp)) (w : Int32 × Int32 × zw_Hp) => B_X4_tryExchanges_39 k39 (w.1) (w.2.1) (w.2.2)) 600 w
theorem UL_X4_tryExchanges_39 (ok : zw_Ok E) (hI : ∀ i, i < 48 → i ∈ E.2.2.1) (g : zw_G p E (zw_A E) s m args c RX4 cX4_tryExchanges 4) (hr : meth.sig.returnType = none) (hlk : meth.locks = false) :
    ∀ (w : Int32 × Int32 × zw_Hp) (z : zw_Hp), L_X4_tryExchanges_39 w = some z → zw_V p l e s m args below meth c E mt_X4_tryExchanges 4 none z 39 [(0, .ref (E.2.1 28)), (1, .int w.1), (2, .int w.2.1)] [] w.2.2 :=
  fun w z hM => zw_it_ind (P := fun (w : Int32 × Int32 × zw_Hp) (z : zw_Hp) => zw_V p l e s m args below meth c E mt_X4_tryExchanges 4 none z 39 [(0, .ref (E.2.1 28)), (1, .int w.1), (2, .int w.2.1)] [] w.2.2) (fun k e w z hM => U_X4_tryExchanges_39 ok hI g hr hlk e _ _ _ _ hM) 600 w z hM
noncomputable def M_X4_tryExchanges (x1 : Int32) (h : zw_Hp) : Option (zw_Hp) :=
  (M_X3_copyFrom 14 9 h).bind (fun z1 => (M_X3_passBeats 14 x1 z1).bind (fun z3 => zw_nm (zw_up z3.2 28 4 (z3.2.1 14 7)) (fun h5 => zw_nm (zw_up h5 28 5 (99 : Int32)) (fun h7 => L_X4_tryExchanges_39 (x1, (0 : Int32), h7)))))
set_option maxRecDepth 100000 in
set_option maxHeartbeats 4000000 in
theorem R_X4_tryExchanges (ok : zw_Ok E) (hI : ∀ i, i < 48 → i ∈ E.2.2.1) {x1 : Int32} {h : zw_Hp} {z : zw_Hp} (hM : M_X4_tryExchanges x1 h = some z) : zw_Ct l E mt_X4_tryExchanges [.ref (E.2.1 28), .int x1] h none z := by
  unfold M_X4_tryExchanges at hM
  refine zw_ct (lv0 := [(0, .ref (E.2.1 28)), (1, .int x1)]) ok (by decide) rfl (Nat.le_of_ble_eq_true rfl) (fun p e s m args below meth c g hr hlk => ?_)
  replace g : zw_G p E (zw_A E) s m args c RX4 cX4_tryExchanges 4 := g
  show zw_V p l e s m args below meth c E mt_X4_tryExchanges 4 none z 0 [(0, .ref (E.2.1 28)), (1, .int x1)] [] h
  refine zr_aload_n (q := 1) g 0 dX4_tryExchanges_0 rfl rfl rfl ?_
  refine zr_getr (q := 4) (k0 := 2) (j := 14) g (hI 28 (by decide)) zs_28 rfl zf_X4_30 dX4_tryExchanges_1 rfl ?_
  refine zr_aload_n (q := 5) g 0 dX4_tryExchanges_4 rfl rfl rfl ?_
  refine zr_getr (q := 8) (k0 := 1) (j := 9) g (hI 28 (by decide)) zs_28 rfl zf_X4_26 dX4_tryExchanges_5 rfl ?_
  obtain ⟨z1, q2, hM⟩ := zw_bd hM
  refine zr_callV (q := 11) (As := [.ref (E.2.1 9)]) (rest := []) (st' := []) (i := 14) g (R_X3_copyFrom (Or.inr rfl) (Or.inl rfl) ok hI q2) zv_X3_copyFrom zl_X4_33 (hI 14 (by decide)) zs_14 zc_X3.1 dX4_tryExchanges_8 rfl rfl ⟨Nat.le_of_ble_eq_true rfl, Nat.le_of_ble_eq_true rfl⟩ ⟨Nat.zero_le _, Nat.zero_le _⟩ (Nat.le_of_ble_eq_true rfl) rfl rfl ?_
  refine zr_aload_n (q := 12) g 0 dX4_tryExchanges_11 rfl rfl rfl ?_
  refine zr_getr (q := 15) (k0 := 2) (j := 14) g (hI 28 (by decide)) zs_28 rfl zf_X4_30 dX4_tryExchanges_12 rfl ?_
  refine zr_iload_n (q := 16) g 1 dX4_tryExchanges_15 rfl rfl rfl ?_
  obtain ⟨z3, q4, hM⟩ := zw_bd hM
  refine zr_callV (q := 19) (As := [.int x1]) (rest := []) (st' := [.int z3.1]) (i := 14) g (R_X3_passBeats (Or.inr rfl) ok hI q4) zv_X3_passBeats zl_X4_39 (hI 14 (by decide)) zs_14 zc_X3.1 dX4_tryExchanges_16 rfl rfl ⟨Nat.le_of_ble_eq_true rfl, Nat.le_of_ble_eq_true rfl⟩ ⟨Nat.zero_le _, Nat.zero_le _⟩ (Nat.le_of_ble_eq_true rfl) rfl rfl ?_
  refine zr_pop (q := 20) g dX4_tryExchanges_19 rfl rfl ?_
  refine zr_aload_n (q := 21) g 0 dX4_tryExchanges_20 rfl rfl rfl ?_
  refine zr_aload_n (q := 22) g 0 dX4_tryExchanges_21 rfl rfl rfl ?_
  refine zr_getr (q := 25) (k0 := 2) (j := 14) g (hI 28 (by decide)) zs_28 rfl zf_X4_30 dX4_tryExchanges_22 rfl ?_
  refine zr_geti (q := 28) (k0 := 7) g (hI 14 (by decide)) zs_14 rfl zf_X4_43 dX4_tryExchanges_25 rfl ?_
  obtain ⟨h5, e6, hM⟩ := zw_nm_ex hM
  refine zr_puti (q := 31) (k0 := 4) (h' := h5) g (hI 28 (by decide)) zs_28 rfl zp_X4_15 dX4_tryExchanges_28 rfl e6 ?_
  refine zr_aload_n (q := 32) g 0 dX4_tryExchanges_31 rfl rfl rfl ?_
  refine zr_bipush (q := 34) (v := (99 : Int32)) g dX4_tryExchanges_32 rfl (by decide) ?_
  obtain ⟨h7, e8, hM⟩ := zw_nm_ex hM
  refine zr_puti (q := 37) (k0 := 5) (h' := h7) g (hI 28 (by decide)) zs_28 rfl zp_X4_19 dX4_tryExchanges_34 rfl e8 ?_
  refine zr_iconst (q := 38) (v := (0 : Int32)) g dX4_tryExchanges_37 rfl (by decide) ?_
  refine zr_istore_n (q := 39) (lv' := [(2, .int (0 : Int32)), (0, .ref (E.2.1 28)), (1, .int x1)]) g dX4_tryExchanges_38 rfl rfl (by decide) rfl ?_
  refine zr_lv (lv' := [(0, .ref (E.2.1 28)), (1, .int x1), (2, .int (0 : Int32))]) [1, 2, 0] rfl ?_
  exact UL_X4_tryExchanges_39 ok hI g hr hlk _ _ hM
noncomputable def M_X8_swap (x1 : Int32) (x2 : Int32) (h : zw_Hp) : Option (Int32 × zw_Hp) :=
  if x1 < (1 : Int32) then (some ((-2 : Int32), h)) else (if (20 : Int32) < x1 then (some ((-2 : Int32), h)) else ((M_X8_isZeroOrOne x2 h).bind (fun z3 => if z3 = 0 then (some ((-2 : Int32), h)) else ((M_X4_tryExchanges x1 h).bind (fun z6 => if x2 = 0 then (some ((z6.1 28 4), z6)) else (some ((z6.1 28 5), z6)))))))
set_option maxRecDepth 100000 in
set_option maxHeartbeats 4000000 in
theorem R_X8_swap (ok : zw_Ok E) (hI : ∀ i, i < 48 → i ∈ E.2.2.1) {x1 : Int32} {x2 : Int32} {h : zw_Hp} {z : Int32 × zw_Hp} (hM : M_X8_swap x1 x2 h = some z) : zw_Ct l E mt_X8_swap [.ref (E.2.1 0), .int x1, .int x2] h (some (.int z.1)) z.2 := by
  unfold M_X8_swap at hM
  refine zw_ct (lv0 := [(0, .ref (E.2.1 0)), (1, .int x1), (2, .int x2)]) ok (by decide) rfl (Nat.le_of_ble_eq_true rfl) (fun p e s m args below meth c g hr hlk => ?_)
  replace g : zw_G p E (zw_A E) s m args c RX8 cX8_swap 3 := g
  show zw_V p l e s m args below meth c E mt_X8_swap 3 (some (.int z.1)) z.2 0 [(0, .ref (E.2.1 0)), (1, .int x1), (2, .int x2)] [] h
  refine zr_iload_n (q := 1) g 1 dX8_swap_0 rfl rfl rfl ?_
  refine zr_iconst (q := 2) (v := (1 : Int32)) g dX8_swap_1 rfl (by decide) ?_
  refine zr_icmp_lt (q := 5) (tgt := 18) g dX8_swap_2 rfl rfl (fun c1 => ?_) (fun c1 => ?_)
  · replace hM := zw_ift c1 hM
    refine zr_bipush (q := 20) (v := (-2 : Int32)) g dX8_swap_18 rfl (by decide) ?_
    cases hM
    exact zr_iret g hr hlk dX8_swap_20 rfl rfl
  · replace hM := zw_iff c1 hM
    refine zr_iload_n (q := 6) g 1 dX8_swap_5 rfl rfl rfl ?_
    refine zr_bipush (q := 8) (v := (20 : Int32)) g dX8_swap_6 rfl (by decide) ?_
    refine zr_icmp_gt (q := 11) (tgt := 18) g dX8_swap_8 rfl rfl (fun c2 => ?_) (fun c2 => ?_)
    · replace hM := zw_ift c2 hM
      refine zr_bipush (q := 20) (v := (-2 : Int32)) g dX8_swap_18 rfl (by decide) ?_
      cases hM
      exact zr_iret g hr hlk dX8_swap_20 rfl rfl
    · replace hM := zw_iff c2 hM
      refine zr_iload_n (q := 12) g 2 dX8_swap_11 rfl rfl rfl ?_
      obtain ⟨z3, q4, hM⟩ := zw_bd hM
      refine zr_callS (q := 15) (As := [.int x2]) (rest := []) (st' := [.int z3]) g (R_X8_isZeroOrOne ok hI q4) zv_X8_isZeroOrOne zl_X8_197 dX8_swap_12 rfl rfl ⟨Nat.le_of_ble_eq_true rfl, Nat.le_of_ble_eq_true rfl⟩ ⟨Nat.zero_le _, Nat.zero_le _⟩ (Nat.le_of_ble_eq_true rfl) rfl rfl ?_
      refine zr_if_ne (q := 18) (tgt := 21) g dX8_swap_15 rfl rfl (fun c5 => ?_) (fun c5 => ?_)
      · replace hM := zw_iff c5 hM
        refine zr_aload_n (q := 22) g 0 dX8_swap_21 rfl rfl rfl ?_
        refine zr_getr (q := 25) (k0 := 8) (j := 28) g (hI 0 (by decide)) zs_0 rfl zf_X8_67 dX8_swap_22 rfl ?_
        refine zr_iload_n (q := 26) g 1 dX8_swap_25 rfl rfl rfl ?_
        obtain ⟨z6, q7, hM⟩ := zw_bd hM
        refine zr_callV (q := 29) (As := [.int x1]) (rest := []) (st' := []) (i := 28) g (R_X4_tryExchanges ok hI q7) zv_X4_tryExchanges zl_X8_209 (hI 28 (by decide)) zs_28 zc_X4.1 dX8_swap_26 rfl rfl ⟨Nat.le_of_ble_eq_true rfl, Nat.le_of_ble_eq_true rfl⟩ ⟨Nat.zero_le _, Nat.zero_le _⟩ (Nat.le_of_ble_eq_true rfl) rfl rfl ?_
        refine zr_iload_n (q := 30) g 2 dX8_swap_29 rfl rfl rfl ?_
        refine zr_if_ne (q := 33) (tgt := 43) g dX8_swap_30 rfl rfl (fun c8 => ?_) (fun c8 => ?_)
        · replace hM := zw_iff c8 hM
          refine zr_aload_n (q := 44) g 0 dX8_swap_43 rfl rfl rfl ?_
          refine zr_getr (q := 47) (k0 := 8) (j := 28) g (hI 0 (by decide)) zs_0 rfl zf_X8_67 dX8_swap_44 rfl ?_
          refine zr_geti (q := 50) (k0 := 5) g (hI 28 (by decide)) zs_28 rfl zf_X8_215 dX8_swap_47 rfl ?_
          cases hM
          exact zr_iret g hr hlk dX8_swap_50 rfl rfl
        · replace hM := zw_ift c8 hM
          refine zr_aload_n (q := 34) g 0 dX8_swap_33 rfl rfl rfl ?_
          refine zr_getr (q := 37) (k0 := 8) (j := 28) g (hI 0 (by decide)) zs_0 rfl zf_X8_67 dX8_swap_34 rfl ?_
          refine zr_geti (q := 40) (k0 := 4) g (hI 28 (by decide)) zs_28 rfl zf_X8_212 dX8_swap_37 rfl ?_
          refine zr_goto (tgt := 50) g dX8_swap_40 rfl ?_
          cases hM
          exact zr_iret g hr hlk dX8_swap_50 rfl rfl
      · replace hM := zw_ift c5 hM
        refine zr_bipush (q := 20) (v := (-2 : Int32)) g dX8_swap_18 rfl (by decide) ?_
        cases hM
        exact zr_iret g hr hlk dX8_swap_20 rfl rfl
noncomputable def B_X8_factorial_4 (h : zw_Hp) (k4 : (Int32 × Int32 × Int32) → Option (Int32)) (x0 : Int32) (x1 : Int32) (x2 : Int32) : Option (Int32) :=
  if x0 < x2 then (some x1) else (if (5 : Int32) < x2 then (some x1) else (zw_nm (x1 * x2) (fun y3 => zw_nm (x2 + (1 : Int32)) (fun y5 => k4 (x0, y3, y5)))))
set_option maxRecDepth 100000 in
set_option maxHeartbeats 4000000 in
theorem U_X8_factorial_4 {h : zw_Hp} (ok : zw_Ok E) (hI : ∀ i, i < 48 → i ∈ E.2.2.1) (g : zw_G p E (zw_A E) s m args c RX8 cX8_factorial 3) (hr : meth.sig.returnType = some .int) (hlk : meth.locks = false) {k4 : (Int32 × Int32 × Int32) → Option (Int32)} (eL4 : ∀ (w : Int32 × Int32 × Int32) (z : Int32), k4 w = some z → zw_V p l e s m args below meth c E mt_X8_factorial 3 (some (.int z)) h 4 [(0, .int w.1), (1, .int w.2.1), (2, .int w.2.2)] [] h) :
    ∀ (x0 : Int32) (x1 : Int32) (x2 : Int32) (z : Int32), B_X8_factorial_4 h k4 x0 x1 x2 = some z → zw_V p l e s m args below meth c E mt_X8_factorial 3 (some (.int z)) h 4 [(0, .int x0), (1, .int x1), (2, .int x2)] [] h := by
  intro x0 x1 x2 z hM
  unfold B_X8_factorial_4 at hM
  refine zr_iload_n (q := 5) g 2 dX8_factorial_4 rfl rfl rfl ?_
  refine zr_iload_n (q := 6) g 0 dX8_factorial_5 rfl rfl rfl ?_
  refine zr_icmp_gt (q := 9) (tgt := 24) g dX8_factorial_6 rfl rfl (fun c1 => ?_) (fun c1 => ?_)
  · replace hM := zw_ift c1 hM
    refine zr_iload_n (q := 25) g 1 dX8_factorial_24 rfl rfl rfl ?_
    cases hM
    exact zr_iret g hr hlk dX8_factorial_25 rfl rfl
  · replace hM := zw_iff c1 hM
    refine zr_iload_n (q := 10) g 2 dX8_factorial_9 rfl rfl rfl ?_
    refine zr_iconst (q := 11) (v := (5 : Int32)) g dX8_factorial_10 rfl (by decide) ?_
    refine zr_icmp_gt (q := 14) (tgt := 24) g dX8_factorial_11 rfl rfl (fun c2 => ?_) (fun c2 => ?_)
    · replace hM := zw_ift c2 hM
      refine zr_iload_n (q := 25) g 1 dX8_factorial_24 rfl rfl rfl ?_
      cases hM
      exact zr_iret g hr hlk dX8_factorial_25 rfl rfl
    · replace hM := zw_iff c2 hM
      refine zr_iload_n (q := 15) g 1 dX8_factorial_14 rfl rfl rfl ?_
      refine zr_iload_n (q := 16) g 2 dX8_factorial_15 rfl rfl rfl ?_
      refine zr_imul (q := 17) g dX8_factorial_16 rfl ?_
      obtain ⟨y3, e4, hM⟩ := zw_nm_ex hM
      refine zr_nmi e4 ?_
      refine zr_istore_n (q := 18) (lv' := [(1, .int y3), (0, .int x0), (2, .int x2)]) g dX8_factorial_17 rfl rfl (by decide) rfl ?_
      obtain ⟨y5, e6, hM⟩ := zw_nm_ex hM
      refine zr_iinc (q := 21) (v := y5) (lv' := [(2, .int y5), (1, .int y3), (0, .int x0)]) g 2 dX8_factorial_18 rfl rfl (by rw [e6]; rfl) (by decide) rfl ?_
      refine zr_goto (tgt := 4) g dX8_factorial_21 rfl ?_
      refine zr_lv (lv' := [(0, .int x0), (1, .int y3), (2, .int y5)]) [2, 1, 0] rfl ?_
      exact eL4 _ _ hM
noncomputable def L_X8_factorial_4 (h : zw_Hp) (w : Int32 × Int32 × Int32) : Option (Int32) :=
  zw_it (fun (k4 : (Int32 × Int32 × Int32) → Option (Int32)) (w : Int32 × Int32 × Int32) => B_X8_factorial_4 h k4 (w.1) (w.2.1) (w.2.2)) 600 w
theorem UL_X8_factorial_4 {h : zw_Hp} (ok : zw_Ok E) (hI : ∀ i, i < 48 → i ∈ E.2.2.1) (g : zw_G p E (zw_A E) s m args c RX8 cX8_factorial 3) (hr : meth.sig.returnType = some .int) (hlk : meth.locks = false) :
    ∀ (w : Int32 × Int32 × Int32) (z : Int32), L_X8_factorial_4 h w = some z → zw_V p l e s m args below meth c E mt_X8_factorial 3 (some (.int z)) h 4 [(0, .int w.1), (1, .int w.2.1), (2, .int w.2.2)] [] h :=
  fun w z hM => zw_it_ind (P := fun (w : Int32 × Int32 × Int32) (z : Int32) => zw_V p l e s m args below meth c E mt_X8_factorial 3 (some (.int z)) h 4 [(0, .int w.1), (1, .int w.2.1), (2, .int w.2.2)] [] h) (fun k e w z hM => U_X8_factorial_4 ok hI g hr hlk e _ _ _ _ hM) 600 w z hM
noncomputable def M_X8_factorial (x0 : Int32) (h : zw_Hp) : Option (Int32) :=
  L_X8_factorial_4 h (x0, (1 : Int32), (2 : Int32))
set_option maxRecDepth 100000 in
set_option maxHeartbeats 4000000 in
theorem R_X8_factorial (ok : zw_Ok E) (hI : ∀ i, i < 48 → i ∈ E.2.2.1) {x0 : Int32} {h : zw_Hp} {z : Int32} (hM : M_X8_factorial x0 h = some z) : zw_Ct l E mt_X8_factorial [.int x0] h (some (.int z)) h := by
  unfold M_X8_factorial at hM
  refine zw_ct (lv0 := [(0, .int x0)]) ok (by decide) rfl (Nat.le_of_ble_eq_true rfl) (fun p e s m args below meth c g hr hlk => ?_)
  replace g : zw_G p E (zw_A E) s m args c RX8 cX8_factorial 3 := g
  show zw_V p l e s m args below meth c E mt_X8_factorial 3 (some (.int z)) h 0 [(0, .int x0)] [] h
  refine zr_iconst (q := 1) (v := (1 : Int32)) g dX8_factorial_0 rfl (by decide) ?_
  refine zr_istore_n (q := 2) (lv' := [(1, .int (1 : Int32)), (0, .int x0)]) g dX8_factorial_1 rfl rfl (by decide) rfl ?_
  refine zr_iconst (q := 3) (v := (2 : Int32)) g dX8_factorial_2 rfl (by decide) ?_
  refine zr_istore_n (q := 4) (lv' := [(2, .int (2 : Int32)), (1, .int (1 : Int32)), (0, .int x0)]) g dX8_factorial_3 rfl rfl (by decide) rfl ?_
  refine zr_lv (lv' := [(0, .int x0), (1, .int (1 : Int32)), (2, .int (2 : Int32))]) [2, 1, 0] rfl ?_
  exact UL_X8_factorial_4 ok hI g hr hlk _ _ hM
noncomputable def B_X4_orderFigures_4 (h : zw_Hp) (k4 : (Int32 × Int32) → Option (Int32)) (x1 : Int32) (x2 : Int32) : Option (Int32) :=
  if (h.1 6 2) ≤ x2 then (some x1) else (if (5 : Int32) ≤ x2 then (some x1) else (if zw_ok x2 5 = true then (zw_nm ((((10 : Int32) * x1) + (h.1 29 (x2).toNatClampNeg)) + (1 : Int32)) (fun y4 => zw_nm (x2 + (1 : Int32)) (fun y6 => k4 (y4, y6)))) else none))
set_option maxRecDepth 100000 in
set_option maxHeartbeats 4000000 in
theorem U_X4_orderFigures_4 {h : zw_Hp} (ok : zw_Ok E) (hI : ∀ i, i < 48 → i ∈ E.2.2.1) (g : zw_G p E (zw_A E) s m args c RX4 cX4_orderFigures 3) (hr : meth.sig.returnType = some .int) (hlk : meth.locks = false) {k4 : (Int32 × Int32) → Option (Int32)} (eL4 : ∀ (w : Int32 × Int32) (z : Int32), k4 w = some z → zw_V p l e s m args below meth c E mt_X4_orderFigures 3 (some (.int z)) h 4 [(0, .ref (E.2.1 28)), (1, .int w.1), (2, .int w.2)] [] h) :
    ∀ (x1 : Int32) (x2 : Int32) (z : Int32), B_X4_orderFigures_4 h k4 x1 x2 = some z → zw_V p l e s m args below meth c E mt_X4_orderFigures 3 (some (.int z)) h 4 [(0, .ref (E.2.1 28)), (1, .int x1), (2, .int x2)] [] h := by
  intro x1 x2 z hM
  unfold B_X4_orderFigures_4 at hM
  refine zr_iload_n (q := 5) g 2 dX4_orderFigures_4 rfl rfl rfl ?_
  refine zr_aload_n (q := 6) g 0 dX4_orderFigures_5 rfl rfl rfl ?_
  refine zr_getr (q := 9) (k0 := 0) (j := 6) g (hI 28 (by decide)) zs_28 rfl zf_X4_22 dX4_orderFigures_6 rfl ?_
  refine zr_geti (q := 12) (k0 := 2) g (hI 6 (by decide)) zs_6 rfl zf_X4_46 dX4_orderFigures_9 rfl ?_
  refine zr_icmp_ge (q := 15) (tgt := 44) g dX4_orderFigures_12 rfl rfl (fun c1 => ?_) (fun c1 => ?_)
  · replace hM := zw_ift c1 hM
    refine zr_iload_n (q := 45) g 1 dX4_orderFigures_44 rfl rfl rfl ?_
    cases hM
    exact zr_iret g hr hlk dX4_orderFigures_45 rfl rfl
  · replace hM := zw_iff c1 hM
    refine zr_iload_n (q := 16) g 2 dX4_orderFigures_15 rfl rfl rfl ?_
    refine zr_aload_n (q := 17) g 0 dX4_orderFigures_16 rfl rfl rfl ?_
    refine zr_getr (q := 20) (k0 := 3) (j := 29) g (hI 28 (by decide)) zs_28 rfl zf_X4_9 dX4_orderFigures_17 rfl ?_
    refine zr_alen (q := 21) (v := (5 : Int32)) g (hI 29 (by decide)) zs_29 rfl dX4_orderFigures_20 rfl ?_
    refine zr_icmp_ge (q := 24) (tgt := 44) g dX4_orderFigures_21 rfl rfl (fun c2 => ?_) (fun c2 => ?_)
    · replace hM := zw_ift c2 hM
      refine zr_iload_n (q := 45) g 1 dX4_orderFigures_44 rfl rfl rfl ?_
      cases hM
      exact zr_iret g hr hlk dX4_orderFigures_45 rfl rfl
    · replace hM := zw_iff c2 hM
      refine zr_bipush (q := 26) (v := (10 : Int32)) g dX4_orderFigures_24 rfl (by decide) ?_
      refine zr_iload_n (q := 27) g 1 dX4_orderFigures_26 rfl rfl rfl ?_
      refine zr_imul (q := 28) g dX4_orderFigures_27 rfl ?_
      refine zr_aload_n (q := 29) g 0 dX4_orderFigures_28 rfl rfl rfl ?_
      refine zr_getr (q := 32) (k0 := 3) (j := 29) g (hI 28 (by decide)) zs_28 rfl zf_X4_9 dX4_orderFigures_29 rfl ?_
      refine zr_iload_n (q := 33) g 2 dX4_orderFigures_32 rfl rfl rfl ?_
      obtain ⟨c3, hM⟩ := zw_gd hM
      refine zr_iald (q := 34) g (hI 29 (by decide)) zs_29 c3 dX4_orderFigures_33 rfl ?_
      refine zr_iadd (q := 35) g dX4_orderFigures_34 rfl ?_
      refine zr_iconst (q := 36) (v := (1 : Int32)) g dX4_orderFigures_35 rfl (by decide) ?_
      refine zr_iadd (q := 37) g dX4_orderFigures_36 rfl ?_
      obtain ⟨y4, e5, hM⟩ := zw_nm_ex hM
      refine zr_nmi e5 ?_
      refine zr_istore_n (q := 38) (lv' := [(1, .int y4), (0, .ref (E.2.1 28)), (2, .int x2)]) g dX4_orderFigures_37 rfl rfl (by decide) rfl ?_
      obtain ⟨y6, e7, hM⟩ := zw_nm_ex hM
      refine zr_iinc (q := 41) (v := y6) (lv' := [(2, .int y6), (1, .int y4), (0, .ref (E.2.1 28))]) g 2 dX4_orderFigures_38 rfl rfl (by rw [e7]; rfl) (by decide) rfl ?_
      refine zr_goto (tgt := 4) g dX4_orderFigures_41 rfl ?_
      refine zr_lv (lv' := [(0, .ref (E.2.1 28)), (1, .int y4), (2, .int y6)]) [2, 1, 0] rfl ?_
      exact eL4 _ _ hM
noncomputable def L_X4_orderFigures_4 (h : zw_Hp) (w : Int32 × Int32) : Option (Int32) :=
  zw_it (fun (k4 : (Int32 × Int32) → Option (Int32)) (w : Int32 × Int32) => B_X4_orderFigures_4 h k4 (w.1) (w.2)) 600 w
theorem UL_X4_orderFigures_4 {h : zw_Hp} (ok : zw_Ok E) (hI : ∀ i, i < 48 → i ∈ E.2.2.1) (g : zw_G p E (zw_A E) s m args c RX4 cX4_orderFigures 3) (hr : meth.sig.returnType = some .int) (hlk : meth.locks = false) :
    ∀ (w : Int32 × Int32) (z : Int32), L_X4_orderFigures_4 h w = some z → zw_V p l e s m args below meth c E mt_X4_orderFigures 3 (some (.int z)) h 4 [(0, .ref (E.2.1 28)), (1, .int w.1), (2, .int w.2)] [] h :=
  fun w z hM => zw_it_ind (P := fun (w : Int32 × Int32) (z : Int32) => zw_V p l e s m args below meth c E mt_X4_orderFigures 3 (some (.int z)) h 4 [(0, .ref (E.2.1 28)), (1, .int w.1), (2, .int w.2)] [] h) (fun k e w z hM => U_X4_orderFigures_4 ok hI g hr hlk e _ _ _ hM) 600 w z hM
noncomputable def M_X4_orderFigures (h : zw_Hp) : Option (Int32) :=
  L_X4_orderFigures_4 h ((0 : Int32), (0 : Int32))
set_option maxRecDepth 100000 in
set_option maxHeartbeats 4000000 in
theorem R_X4_orderFigures (ok : zw_Ok E) (hI : ∀ i, i < 48 → i ∈ E.2.2.1) {h : zw_Hp} {z : Int32} (hM : M_X4_orderFigures h = some z) : zw_Ct l E mt_X4_orderFigures [.ref (E.2.1 28)] h (some (.int z)) h := by
  unfold M_X4_orderFigures at hM
  refine zw_ct (lv0 := [(0, .ref (E.2.1 28))]) ok (by decide) rfl (Nat.le_of_ble_eq_true rfl) (fun p e s m args below meth c g hr hlk => ?_)
  replace g : zw_G p E (zw_A E) s m args c RX4 cX4_orderFigures 3 := g
  show zw_V p l e s m args below meth c E mt_X4_orderFigures 3 (some (.int z)) h 0 [(0, .ref (E.2.1 28))] [] h
  refine zr_iconst (q := 1) (v := (0 : Int32)) g dX4_orderFigures_0 rfl (by decide) ?_
  refine zr_istore_n (q := 2) (lv' := [(1, .int (0 : Int32)), (0, .ref (E.2.1 28))]) g dX4_orderFigures_1 rfl rfl (by decide) rfl ?_
  refine zr_iconst (q := 3) (v := (0 : Int32)) g dX4_orderFigures_2 rfl (by decide) ?_
  refine zr_istore_n (q := 4) (lv' := [(2, .int (0 : Int32)), (1, .int (0 : Int32)), (0, .ref (E.2.1 28))]) g dX4_orderFigures_3 rfl rfl (by decide) rfl ?_
  refine zr_lv (lv' := [(0, .ref (E.2.1 28)), (1, .int (0 : Int32)), (2, .int (0 : Int32))]) [2, 1, 0] rfl ?_
  exact UL_X4_orderFigures_4 ok hI g hr hlk _ _ hM
end
