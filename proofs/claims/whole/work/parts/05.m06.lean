section
variable {p : Program} {l : Launch} {e : Env} {s : State} {m : MethodId} {args : Array Value} {below : List Frame} {meth : Method} {c : Code} {E : zw_En}
noncomputable def B_X9_standOf_26 (pp : Nat) (h : zw_Hp) (k6 : (Int32 × Int32 × Int32 × Int32) → Option (Int32)) (x1 : Int32) (x2 : Int32) (x4 : Int32) (s0 : Int32) : Option (Int32) :=
  zw_nm (x4 + (1 : Int32)) (fun y4 => k6 (x1, x2, s0, y4))
set_option maxRecDepth 100000 in
set_option maxHeartbeats 4000000 in
theorem U_X9_standOf_26 {pp : Nat} (k_pp : pp = 37 ∨ pp = 38) {h : zw_Hp} (ok : zw_Ok E) (hI : ∀ i, i < 48 → i ∈ E.2.2.1) (g : zw_G p E (zw_A E) s m args c RX9 cX9_standOf 5) (hr : meth.sig.returnType = some .int) (hlk : meth.locks = false) {k6 : (Int32 × Int32 × Int32 × Int32) → Option (Int32)} (eL6 : ∀ (w : Int32 × Int32 × Int32 × Int32) (z : Int32), k6 w = some z → zw_V p l e s m args below meth c E mt_X9_standOf 5 (some (.int z)) h 6 [(0, .ref (E.2.1 pp)), (1, .int w.1), (2, .int w.2.1), (3, .int w.2.2.1), (4, .int w.2.2.2)] [] h) :
    ∀ (x1 : Int32) (x2 : Int32) (x4 : Int32) (s0 : Int32) (z : Int32), B_X9_standOf_26 pp h k6 x1 x2 x4 s0 = some z → zw_V p l e s m args below meth c E mt_X9_standOf 5 (some (.int z)) h 26 [(0, .ref (E.2.1 pp)), (1, .int x1), (2, .int x2), (4, .int x4)] [.int s0] h := by
  intro x1 x2 x4 s0 z hM
  unfold B_X9_standOf_26 at hM
  refine zr_istore_n (q := 27) (lv' := [(3, .int s0), (0, .ref (E.2.1 pp)), (1, .int x1), (2, .int x2), (4, .int x4)]) g dX9_standOf_26 rfl rfl (by decide) rfl ?_
  obtain ⟨y4, e5, hM⟩ := zw_nm_ex hM
  refine zr_iinc (q := 30) (v := y4) (lv' := [(4, .int y4), (3, .int s0), (0, .ref (E.2.1 pp)), (1, .int x1), (2, .int x2)]) g 4 dX9_standOf_27 rfl rfl (by rw [e5]; rfl) (by decide) rfl ?_
  refine zr_goto (tgt := 6) g dX9_standOf_30 rfl ?_
  refine zr_lv (lv' := [(0, .ref (E.2.1 pp)), (1, .int x1), (2, .int x2), (3, .int s0), (4, .int y4)]) [2, 3, 4, 1, 0] rfl ?_
  exact eL6 _ _ hM
noncomputable def B_X9_standOf_6 (pp : Nat) (h : zw_Hp) (k6 : (Int32 × Int32 × Int32 × Int32) → Option (Int32)) (x1 : Int32) (x2 : Int32) (x3 : Int32) (x4 : Int32) : Option (Int32) :=
  if x2 ≤ x4 then (some x3) else (if zw_ok x4 21 = true then (if (h.1 pp (x4).toNatClampNeg) = x1 then (B_X9_standOf_26 pp h k6 x1 x2 x4 x4) else (B_X9_standOf_26 pp h k6 x1 x2 x4 x3)) else none)
set_option maxRecDepth 100000 in
set_option maxHeartbeats 4000000 in
theorem U_X9_standOf_6 {pp : Nat} (k_pp : pp = 37 ∨ pp = 38) {h : zw_Hp} (ok : zw_Ok E) (hI : ∀ i, i < 48 → i ∈ E.2.2.1) (g : zw_G p E (zw_A E) s m args c RX9 cX9_standOf 5) (hr : meth.sig.returnType = some .int) (hlk : meth.locks = false) {k6 : (Int32 × Int32 × Int32 × Int32) → Option (Int32)} (eL6 : ∀ (w : Int32 × Int32 × Int32 × Int32) (z : Int32), k6 w = some z → zw_V p l e s m args below meth c E mt_X9_standOf 5 (some (.int z)) h 6 [(0, .ref (E.2.1 pp)), (1, .int w.1), (2, .int w.2.1), (3, .int w.2.2.1), (4, .int w.2.2.2)] [] h) :
    ∀ (x1 : Int32) (x2 : Int32) (x3 : Int32) (x4 : Int32) (z : Int32), B_X9_standOf_6 pp h k6 x1 x2 x3 x4 = some z → zw_V p l e s m args below meth c E mt_X9_standOf 5 (some (.int z)) h 6 [(0, .ref (E.2.1 pp)), (1, .int x1), (2, .int x2), (3, .int x3), (4, .int x4)] [] h := by
  intro x1 x2 x3 x4 z hM
  unfold B_X9_standOf_6 at hM
  refine zr_iload (q := 8) g 4 dX9_standOf_6 rfl rfl ?_
  refine zr_iload_n (q := 9) g 2 dX9_standOf_8 rfl rfl rfl ?_
  refine zr_icmp_ge (q := 12) (tgt := 33) g dX9_standOf_9 rfl rfl (fun c1 => ?_) (fun c1 => ?_)
  · replace hM := zw_ift c1 hM
    refine zr_iload_n (q := 34) g 3 dX9_standOf_33 rfl rfl rfl ?_
    cases hM
    exact zr_iret g hr hlk dX9_standOf_34 rfl rfl
  · replace hM := zw_iff c1 hM
    refine zr_aload_n (q := 13) g 0 dX9_standOf_12 rfl rfl rfl ?_
    refine zr_iload (q := 15) g 4 dX9_standOf_13 rfl rfl ?_
    obtain ⟨c2, hM⟩ := zw_gd hM
    refine zr_iald (q := 16) g (hI _ (zb_pg0 k_pp)) (zs_pg0 k_pp) c2 dX9_standOf_15 rfl ?_
    refine zr_iload_n (q := 17) g 1 dX9_standOf_16 rfl rfl rfl ?_
    refine zr_icmp_ne (q := 20) (tgt := 25) g dX9_standOf_17 rfl rfl (fun c3 => ?_) (fun c3 => ?_)
    · replace hM := zw_iff c3 hM
      refine zr_iload_n (q := 26) g 3 dX9_standOf_25 rfl rfl rfl ?_
      refine zr_lv (lv' := [(0, .ref (E.2.1 pp)), (1, .int x1), (2, .int x2), (4, .int x4)]) [0, 1, 2, 4] rfl ?_
      exact U_X9_standOf_26 k_pp ok hI g hr hlk eL6 _ _ _ _ _ hM
    · replace hM := zw_ift c3 hM
      refine zr_iload (q := 22) g 4 dX9_standOf_20 rfl rfl ?_
      refine zr_goto (tgt := 26) g dX9_standOf_22 rfl ?_
      refine zr_lv (lv' := [(0, .ref (E.2.1 pp)), (1, .int x1), (2, .int x2), (4, .int x4)]) [0, 1, 2, 4] rfl ?_
      exact U_X9_standOf_26 k_pp ok hI g hr hlk eL6 _ _ _ _ _ hM
noncomputable def L_X9_standOf_6 (pp : Nat) (h : zw_Hp) (w : Int32 × Int32 × Int32 × Int32) : Option (Int32) :=
  zw_it (fun (k6 : (Int32 × Int32 × Int32 × Int32) → Option (Int32)) (w : Int32 × Int32 × Int32 × Int32) => B_X9_standOf_6 pp h k6 (w.1) (w.2.1) (w.2.2.1) (w.2.2.2)) 600 w
theorem UL_X9_standOf_6 {pp : Nat} (k_pp : pp = 37 ∨ pp = 38) {h : zw_Hp} (ok : zw_Ok E) (hI : ∀ i, i < 48 → i ∈ E.2.2.1) (g : zw_G p E (zw_A E) s m args c RX9 cX9_standOf 5) (hr : meth.sig.returnType = some .int) (hlk : meth.locks = false) :
    ∀ (w : Int32 × Int32 × Int32 × Int32) (z : Int32), L_X9_standOf_6 pp h w = some z → zw_V p l e s m args below meth c E mt_X9_standOf 5 (some (.int z)) h 6 [(0, .ref (E.2.1 pp)), (1, .int w.1), (2, .int w.2.1), (3, .int w.2.2.1), (4, .int w.2.2.2)] [] h :=
  fun w z hM => zw_it_ind (P := fun (w : Int32 × Int32 × Int32 × Int32) (z : Int32) => zw_V p l e s m args below meth c E mt_X9_standOf 5 (some (.int z)) h 6 [(0, .ref (E.2.1 pp)), (1, .int w.1), (2, .int w.2.1), (3, .int w.2.2.1), (4, .int w.2.2.2)] [] h) (fun k e w z hM => U_X9_standOf_6 k_pp ok hI g hr hlk e _ _ _ _ _ hM) 600 w z hM
noncomputable def M_X9_standOf (pp : Nat) (x1 : Int32) (x2 : Int32) (h : zw_Hp) : Option (Int32) :=
  L_X9_standOf_6 pp h (x1, x2, (-9 : Int32), (0 : Int32))
set_option maxRecDepth 100000 in
set_option maxHeartbeats 4000000 in
theorem R_X9_standOf {pp : Nat} (k_pp : pp = 37 ∨ pp = 38) (ok : zw_Ok E) (hI : ∀ i, i < 48 → i ∈ E.2.2.1) {x1 : Int32} {x2 : Int32} {h : zw_Hp} {z : Int32} (hM : M_X9_standOf pp x1 x2 h = some z) : zw_Ct l E mt_X9_standOf [.ref (E.2.1 pp), .int x1, .int x2] h (some (.int z)) h := by
  unfold M_X9_standOf at hM
  refine zw_ct (lv0 := [(0, .ref (E.2.1 pp)), (1, .int x1), (2, .int x2)]) ok (by decide) rfl (Nat.le_of_ble_eq_true rfl) (fun p e s m args below meth c g hr hlk => ?_)
  replace g : zw_G p E (zw_A E) s m args c RX9 cX9_standOf 5 := g
  show zw_V p l e s m args below meth c E mt_X9_standOf 5 (some (.int z)) h 0 [(0, .ref (E.2.1 pp)), (1, .int x1), (2, .int x2)] [] h
  refine zr_bipush (q := 2) (v := (-9 : Int32)) g dX9_standOf_0 rfl (by decide) ?_
  refine zr_istore_n (q := 3) (lv' := [(3, .int (-9 : Int32)), (0, .ref (E.2.1 pp)), (1, .int x1), (2, .int x2)]) g dX9_standOf_2 rfl rfl (by decide) rfl ?_
  refine zr_iconst (q := 4) (v := (0 : Int32)) g dX9_standOf_3 rfl (by decide) ?_
  refine zr_istore (q := 6) (lv' := [(4, .int (0 : Int32)), (3, .int (-9 : Int32)), (0, .ref (E.2.1 pp)), (1, .int x1), (2, .int x2)]) g dX9_standOf_4 rfl (by decide) rfl ?_
  refine zr_lv (lv' := [(0, .ref (E.2.1 pp)), (1, .int x1), (2, .int x2), (3, .int (-9 : Int32)), (4, .int (0 : Int32))]) [2, 3, 4, 1, 0] rfl ?_
  exact UL_X9_standOf_6 k_pp ok hI g hr hlk _ _ hM
noncomputable def M_X9_person (x1 : Int32) (x2 : Int32) (h : zw_Hp) : Option (Int32 × zw_Hp) :=
  zw_nm (zw_up h 31 0 (0 : Int32)) (fun h1 => (M_X9_noOne x1 h1).bind (fun z3 => if z3 = 0 then (if x2 = (0 : Int32) then (if zw_ok x1 5 = true then (some ((h1.1 33 (x1).toNatClampNeg), h1)) else none) else (if x2 = (1 : Int32) then ((M_X9_standOf 37 x1 (h1.1 31 6) h1).bind (fun z9 => some (z9, h1))) else (some ((-2 : Int32), h1)))) else (some ((-1 : Int32), h1))))
set_option maxRecDepth 100000 in
set_option maxHeartbeats 4000000 in
theorem R_X9_person (ok : zw_Ok E) (hI : ∀ i, i < 48 → i ∈ E.2.2.1) {x1 : Int32} {x2 : Int32} {h : zw_Hp} {z : Int32 × zw_Hp} (hM : M_X9_person x1 x2 h = some z) : zw_Ct l E mt_X9_person [.ref (E.2.1 31), .int x1, .int x2] h (some (.int z.1)) z.2 := by
  unfold M_X9_person at hM
  refine zw_ct (lv0 := [(0, .ref (E.2.1 31)), (1, .int x1), (2, .int x2)]) ok (by decide) rfl (Nat.le_of_ble_eq_true rfl) (fun p e s m args below meth c g hr hlk => ?_)
  replace g : zw_G p E (zw_A E) s m args c RX9 cX9_person 3 := g
  show zw_V p l e s m args below meth c E mt_X9_person 3 (some (.int z.1)) z.2 0 [(0, .ref (E.2.1 31)), (1, .int x1), (2, .int x2)] [] h
  refine zr_aload_n (q := 1) g 0 dX9_person_0 rfl rfl rfl ?_
  refine zr_iconst (q := 2) (v := (0 : Int32)) g dX9_person_1 rfl (by decide) ?_
  obtain ⟨h1, e2, hM⟩ := zw_nm_ex hM
  refine zr_puti (q := 5) (k0 := 0) (h' := h1) g (hI 31 (by decide)) zs_31 rfl zp_X9_59 dX9_person_2 rfl e2 ?_
  refine zr_aload_n (q := 6) g 0 dX9_person_5 rfl rfl rfl ?_
  refine zr_iload_n (q := 7) g 1 dX9_person_6 rfl rfl rfl ?_
  obtain ⟨z3, q4, hM⟩ := zw_bd hM
  refine zr_callV (q := 10) (As := [.int x1]) (rest := []) (st' := [.int z3]) (i := 31) g (R_X9_noOne ok hI q4) zv_X9_noOne zl_X9_177 (hI 31 (by decide)) zs_31 zc_X9.1 dX9_person_7 rfl rfl ⟨Nat.le_of_ble_eq_true rfl, Nat.le_of_ble_eq_true rfl⟩ ⟨Nat.zero_le _, Nat.zero_le _⟩ (Nat.le_of_ble_eq_true rfl) rfl rfl ?_
  refine zr_if_eq (q := 13) (tgt := 15) g dX9_person_10 rfl rfl (fun c5 => ?_) (fun c5 => ?_)
  · replace hM := zw_ift c5 hM
    refine zr_iload_n (q := 16) g 2 dX9_person_15 rfl rfl rfl ?_
    by_cases c6 : x2 = (0 : Int32)
    · replace hM := zw_ift c6 hM
      refine zr_look (tgt := 44) (off := 28) g dX9_person_16 (by decide) (by rw [c6]; decide) rfl ?_
      refine zr_aload_n (q := 45) g 0 dX9_person_44 rfl rfl rfl ?_
      refine zr_getr (q := 48) (k0 := 7) (j := 33) g (hI 31 (by decide)) zs_31 rfl zf_X9_13 dX9_person_45 rfl ?_
      refine zr_iload_n (q := 49) g 1 dX9_person_48 rfl rfl rfl ?_
      obtain ⟨c7, hM⟩ := zw_gd hM
      refine zr_iald (q := 50) g (hI 33 (by decide)) zs_33 c7 dX9_person_49 rfl ?_
      cases hM
      exact zr_iret g hr hlk dX9_person_50 rfl rfl
    · replace hM := zw_iff c6 hM
      by_cases c8 : x2 = (1 : Int32)
      · replace hM := zw_ift c8 hM
        refine zr_look (tgt := 51) (off := 35) g dX9_person_16 (by decide) (by rw [c8]; decide) rfl ?_
        refine zr_aload_n (q := 52) g 0 dX9_person_51 rfl rfl rfl ?_
        refine zr_getr (q := 55) (k0 := 18) (j := 37) g (hI 31 (by decide)) zs_31 rfl zf_X9_25 dX9_person_52 rfl ?_
        refine zr_iload_n (q := 56) g 1 dX9_person_55 rfl rfl rfl ?_
        refine zr_aload_n (q := 57) g 0 dX9_person_56 rfl rfl rfl ?_
        refine zr_geti (q := 60) (k0 := 6) g (hI 31 (by decide)) zs_31 rfl zf_X9_63 dX9_person_57 rfl ?_
        obtain ⟨z9, q10, hM⟩ := zw_bd hM
        refine zr_callS (q := 63) (As := [.ref (E.2.1 37), .int x1, .int (h1.1 31 6)]) (rest := []) (st' := [.int z9]) g (R_X9_standOf (Or.inl rfl) ok hI q10) zv_X9_standOf zl_X9_181 dX9_person_60 rfl rfl ⟨Nat.le_of_ble_eq_true rfl, Nat.le_of_ble_eq_true rfl⟩ ⟨Nat.zero_le _, Nat.zero_le _⟩ (Nat.le_of_ble_eq_true rfl) rfl rfl ?_
        cases hM
        exact zr_iret g hr hlk dX9_person_63 rfl rfl
      · replace hM := zw_iff c8 hM
        refine zr_look (tgt := 64) g dX9_person_16 (by decide) (off := 48) ((lv_osw c6 (by decide)).trans ((lv_osw c8 (by decide)).trans (rfl))) rfl ?_
        refine zr_bipush (q := 66) (v := (-2 : Int32)) g dX9_person_64 rfl (by decide) ?_
        cases hM
        exact zr_iret g hr hlk dX9_person_66 rfl rfl
  · replace hM := zw_iff c5 hM
    refine zr_iconst (q := 14) (v := (-1 : Int32)) g dX9_person_13 rfl (by decide) ?_
    cases hM
    exact zr_iret g hr hlk dX9_person_14 rfl rfl
noncomputable def M_X9_stand (x1 : Int32) (x2 : Int32) (h : zw_Hp) : Option (Int32 × zw_Hp) :=
  zw_nm (zw_up h 31 0 (0 : Int32)) (fun h1 => (M_X9_noOne x1 h1).bind (fun z3 => if z3 = 0 then (if x2 = (0 : Int32) then (if zw_ok x1 21 = true then (some ((h1.1 37 (x1).toNatClampNeg), h1)) else none) else (if x2 = (1 : Int32) then ((M_X9_heldAt 37 x1 h1).bind (fun z9 => some (z9, h1))) else (some ((-2 : Int32), h1)))) else (some ((-1 : Int32), h1))))
set_option maxRecDepth 100000 in
set_option maxHeartbeats 4000000 in
theorem R_X9_stand (ok : zw_Ok E) (hI : ∀ i, i < 48 → i ∈ E.2.2.1) {x1 : Int32} {x2 : Int32} {h : zw_Hp} {z : Int32 × zw_Hp} (hM : M_X9_stand x1 x2 h = some z) : zw_Ct l E mt_X9_stand [.ref (E.2.1 31), .int x1, .int x2] h (some (.int z.1)) z.2 := by
  unfold M_X9_stand at hM
  refine zw_ct (lv0 := [(0, .ref (E.2.1 31)), (1, .int x1), (2, .int x2)]) ok (by decide) rfl (Nat.le_of_ble_eq_true rfl) (fun p e s m args below meth c g hr hlk => ?_)
  replace g : zw_G p E (zw_A E) s m args c RX9 cX9_stand 3 := g
  show zw_V p l e s m args below meth c E mt_X9_stand 3 (some (.int z.1)) z.2 0 [(0, .ref (E.2.1 31)), (1, .int x1), (2, .int x2)] [] h
  refine zr_aload_n (q := 1) g 0 dX9_stand_0 rfl rfl rfl ?_
  refine zr_iconst (q := 2) (v := (0 : Int32)) g dX9_stand_1 rfl (by decide) ?_
  obtain ⟨h1, e2, hM⟩ := zw_nm_ex hM
  refine zr_puti (q := 5) (k0 := 0) (h' := h1) g (hI 31 (by decide)) zs_31 rfl zp_X9_59 dX9_stand_2 rfl e2 ?_
  refine zr_aload_n (q := 6) g 0 dX9_stand_5 rfl rfl rfl ?_
  refine zr_iload_n (q := 7) g 1 dX9_stand_6 rfl rfl rfl ?_
  obtain ⟨z3, q4, hM⟩ := zw_bd hM
  refine zr_callV (q := 10) (As := [.int x1]) (rest := []) (st' := [.int z3]) (i := 31) g (R_X9_noOne ok hI q4) zv_X9_noOne zl_X9_177 (hI 31 (by decide)) zs_31 zc_X9.1 dX9_stand_7 rfl rfl ⟨Nat.le_of_ble_eq_true rfl, Nat.le_of_ble_eq_true rfl⟩ ⟨Nat.zero_le _, Nat.zero_le _⟩ (Nat.le_of_ble_eq_true rfl) rfl rfl ?_
  refine zr_if_eq (q := 13) (tgt := 15) g dX9_stand_10 rfl rfl (fun c5 => ?_) (fun c5 => ?_)
  · replace hM := zw_ift c5 hM
    refine zr_iload_n (q := 16) g 2 dX9_stand_15 rfl rfl rfl ?_
    by_cases c6 : x2 = (0 : Int32)
    · replace hM := zw_ift c6 hM
      refine zr_look (tgt := 44) (off := 28) g dX9_stand_16 (by decide) (by rw [c6]; decide) rfl ?_
      refine zr_aload_n (q := 45) g 0 dX9_stand_44 rfl rfl rfl ?_
      refine zr_getr (q := 48) (k0 := 18) (j := 37) g (hI 31 (by decide)) zs_31 rfl zf_X9_25 dX9_stand_45 rfl ?_
      refine zr_iload_n (q := 49) g 1 dX9_stand_48 rfl rfl rfl ?_
      obtain ⟨c7, hM⟩ := zw_gd hM
      refine zr_iald (q := 50) g (hI 37 (by decide)) zs_37 c7 dX9_stand_49 rfl ?_
      cases hM
      exact zr_iret g hr hlk dX9_stand_50 rfl rfl
    · replace hM := zw_iff c6 hM
      by_cases c8 : x2 = (1 : Int32)
      · replace hM := zw_ift c8 hM
        refine zr_look (tgt := 51) (off := 35) g dX9_stand_16 (by decide) (by rw [c8]; decide) rfl ?_
        refine zr_aload_n (q := 52) g 0 dX9_stand_51 rfl rfl rfl ?_
        refine zr_aload_n (q := 53) g 0 dX9_stand_52 rfl rfl rfl ?_
        refine zr_getr (q := 56) (k0 := 18) (j := 37) g (hI 31 (by decide)) zs_31 rfl zf_X9_25 dX9_stand_53 rfl ?_
        refine zr_iload_n (q := 57) g 1 dX9_stand_56 rfl rfl rfl ?_
        obtain ⟨z9, q10, hM⟩ := zw_bd hM
        refine zr_callV (q := 60) (As := [.ref (E.2.1 37), .int x1]) (rest := []) (st' := [.int z9]) (i := 31) g (R_X9_heldAt (Or.inl rfl) ok hI q10) zv_X9_heldAt zl_X9_133 (hI 31 (by decide)) zs_31 zc_X9.1 dX9_stand_57 rfl rfl ⟨Nat.le_of_ble_eq_true rfl, Nat.le_of_ble_eq_true rfl⟩ ⟨Nat.zero_le _, Nat.zero_le _⟩ (Nat.le_of_ble_eq_true rfl) rfl rfl ?_
        cases hM
        exact zr_iret g hr hlk dX9_stand_60 rfl rfl
      · replace hM := zw_iff c8 hM
        refine zr_look (tgt := 61) g dX9_stand_16 (by decide) (off := 45) ((lv_osw c6 (by decide)).trans ((lv_osw c8 (by decide)).trans (rfl))) rfl ?_
        refine zr_bipush (q := 63) (v := (-2 : Int32)) g dX9_stand_61 rfl (by decide) ?_
        cases hM
        exact zr_iret g hr hlk dX9_stand_63 rfl rfl
  · replace hM := zw_iff c5 hM
    refine zr_iconst (q := 14) (v := (-1 : Int32)) g dX9_stand_13 rfl (by decide) ?_
    cases hM
    exact zr_iret g hr hlk dX9_stand_14 rfl rfl
noncomputable def M_X9_bucket (x1 : Int32) (x2 : Int32) (h : zw_Hp) : Option (Int32 × zw_Hp) :=
  zw_nm (zw_up h 31 0 (0 : Int32)) (fun h1 => (M_X9_noBucket x1 h1).bind (fun z3 => if z3 = 0 then (if x2 = (0 : Int32) then (if zw_ok x1 4 = true then (some ((h1.1 34 (x1).toNatClampNeg), h1)) else none) else (if x2 = (1 : Int32) then (if zw_ok (17 : Int32) 21 = true then (some ((((h1.1 37 ((17 : Int32)).toNatClampNeg) >>> (x1 &&& 31)) &&& (1 : Int32)), h1)) else none) else (if x2 = (2 : Int32) then (if zw_ok ((5 : Int32) + x1) 21 = true then (some ((h1.1 37 (((5 : Int32) + x1)).toNatClampNeg), h1)) else none) else (if x2 = (3 : Int32) then (if zw_ok ((5 : Int32) + x1) 21 = true then (if (5 : Int32) ≤ (h1.1 37 (((5 : Int32) + x1)).toNatClampNeg) then (some ((0 : Int32), h1)) else (if zw_ok ((9 : Int32) + x1) 21 = true then (some ((h1.1 37 (((9 : Int32) + x1)).toNatClampNeg), h1)) else none)) else none) else (if x2 = (4 : Int32) then (if zw_ok ((5 : Int32) + x1) 21 = true then (if (h1.1 37 (((5 : Int32) + x1)).toNatClampNeg) = (9 : Int32) then (if zw_ok ((13 : Int32) + x1) 21 = true then (some ((h1.1 37 (((13 : Int32) + x1)).toNatClampNeg), h1)) else none) else (some ((0 : Int32), h1))) else none) else (some ((-2 : Int32), h1))))))) else (some ((-1 : Int32), h1))))
set_option maxRecDepth 100000 in
set_option maxHeartbeats 4000000 in
theorem R_X9_bucket (ok : zw_Ok E) (hI : ∀ i, i < 48 → i ∈ E.2.2.1) {x1 : Int32} {x2 : Int32} {h : zw_Hp} {z : Int32 × zw_Hp} (hM : M_X9_bucket x1 x2 h = some z) : zw_Ct l E mt_X9_bucket [.ref (E.2.1 31), .int x1, .int x2] h (some (.int z.1)) z.2 := by
  unfold M_X9_bucket at hM
  refine zw_ct (lv0 := [(0, .ref (E.2.1 31)), (1, .int x1), (2, .int x2)]) ok (by decide) rfl (Nat.le_of_ble_eq_true rfl) (fun p e s m args below meth c g hr hlk => ?_)
  replace g : zw_G p E (zw_A E) s m args c RX9 cX9_bucket 3 := g
  show zw_V p l e s m args below meth c E mt_X9_bucket 3 (some (.int z.1)) z.2 0 [(0, .ref (E.2.1 31)), (1, .int x1), (2, .int x2)] [] h
  refine zr_aload_n (q := 1) g 0 dX9_bucket_0 rfl rfl rfl ?_
  refine zr_iconst (q := 2) (v := (0 : Int32)) g dX9_bucket_1 rfl (by decide) ?_
  obtain ⟨h1, e2, hM⟩ := zw_nm_ex hM
  refine zr_puti (q := 5) (k0 := 0) (h' := h1) g (hI 31 (by decide)) zs_31 rfl zp_X9_59 dX9_bucket_2 rfl e2 ?_
  refine zr_aload_n (q := 6) g 0 dX9_bucket_5 rfl rfl rfl ?_
  refine zr_iload_n (q := 7) g 1 dX9_bucket_6 rfl rfl rfl ?_
  obtain ⟨z3, q4, hM⟩ := zw_bd hM
  refine zr_callV (q := 10) (As := [.int x1]) (rest := []) (st' := [.int z3]) (i := 31) g (R_X9_noBucket ok hI q4) zv_X9_noBucket zl_X9_184 (hI 31 (by decide)) zs_31 zc_X9.1 dX9_bucket_7 rfl rfl ⟨Nat.le_of_ble_eq_true rfl, Nat.le_of_ble_eq_true rfl⟩ ⟨Nat.zero_le _, Nat.zero_le _⟩ (Nat.le_of_ble_eq_true rfl) rfl rfl ?_
  refine zr_if_eq (q := 13) (tgt := 15) g dX9_bucket_10 rfl rfl (fun c5 => ?_) (fun c5 => ?_)
  · replace hM := zw_ift c5 hM
    refine zr_iload_n (q := 16) g 2 dX9_bucket_15 rfl rfl rfl ?_
    by_cases c6 : x2 = (0 : Int32)
    · replace hM := zw_ift c6 hM
      refine zr_tabIn (tgt := 52) (off := 36) g dX9_bucket_16 c6 (by decide) rfl ?_
      refine zr_aload_n (q := 53) g 0 dX9_bucket_52 rfl rfl rfl ?_
      refine zr_getr (q := 56) (k0 := 9) (j := 34) g (hI 31 (by decide)) zs_31 rfl zf_X9_16 dX9_bucket_53 rfl ?_
      refine zr_iload_n (q := 57) g 1 dX9_bucket_56 rfl rfl rfl ?_
      obtain ⟨c7, hM⟩ := zw_gd hM
      refine zr_iald (q := 58) g (hI 34 (by decide)) zs_34 c7 dX9_bucket_57 rfl ?_
      cases hM
      exact zr_iret g hr hlk dX9_bucket_58 rfl rfl
    · replace hM := zw_iff c6 hM
      by_cases c8 : x2 = (1 : Int32)
      · replace hM := zw_ift c8 hM
        refine zr_tabIn (tgt := 59) (off := 43) g dX9_bucket_16 c8 (by decide) rfl ?_
        refine zr_aload_n (q := 60) g 0 dX9_bucket_59 rfl rfl rfl ?_
        refine zr_getr (q := 63) (k0 := 18) (j := 37) g (hI 31 (by decide)) zs_31 rfl zf_X9_25 dX9_bucket_60 rfl ?_
        refine zr_bipush (q := 65) (v := (17 : Int32)) g dX9_bucket_63 rfl (by decide) ?_
        obtain ⟨c9, hM⟩ := zw_gd hM
        refine zr_iald (q := 66) g (hI 37 (by decide)) zs_37 c9 dX9_bucket_65 rfl ?_
        refine zr_iload_n (q := 67) g 1 dX9_bucket_66 rfl rfl rfl ?_
        refine zr_ishr (q := 68) g dX9_bucket_67 rfl ?_
        refine zr_iconst (q := 69) (v := (1 : Int32)) g dX9_bucket_68 rfl (by decide) ?_
        refine zr_iand (q := 70) g dX9_bucket_69 rfl ?_
        cases hM
        exact zr_iret g hr hlk dX9_bucket_70 rfl rfl
      · replace hM := zw_iff c8 hM
        by_cases c10 : x2 = (2 : Int32)
        · replace hM := zw_ift c10 hM
          refine zr_tabIn (tgt := 71) (off := 55) g dX9_bucket_16 c10 (by decide) rfl ?_
          refine zr_aload_n (q := 72) g 0 dX9_bucket_71 rfl rfl rfl ?_
          refine zr_getr (q := 75) (k0 := 18) (j := 37) g (hI 31 (by decide)) zs_31 rfl zf_X9_25 dX9_bucket_72 rfl ?_
          refine zr_iconst (q := 76) (v := (5 : Int32)) g dX9_bucket_75 rfl (by decide) ?_
          refine zr_iload_n (q := 77) g 1 dX9_bucket_76 rfl rfl rfl ?_
          refine zr_iadd (q := 78) g dX9_bucket_77 rfl ?_
          obtain ⟨c11, hM⟩ := zw_gd hM
          refine zr_iald (q := 79) g (hI 37 (by decide)) zs_37 c11 dX9_bucket_78 rfl ?_
          cases hM
          exact zr_iret g hr hlk dX9_bucket_79 rfl rfl
        · replace hM := zw_iff c10 hM
          by_cases c12 : x2 = (3 : Int32)
          · replace hM := zw_ift c12 hM
            refine zr_tabIn (tgt := 80) (off := 64) g dX9_bucket_16 c12 (by decide) rfl ?_
            refine zr_aload_n (q := 81) g 0 dX9_bucket_80 rfl rfl rfl ?_
            refine zr_getr (q := 84) (k0 := 18) (j := 37) g (hI 31 (by decide)) zs_31 rfl zf_X9_25 dX9_bucket_81 rfl ?_
            refine zr_iconst (q := 85) (v := (5 : Int32)) g dX9_bucket_84 rfl (by decide) ?_
            refine zr_iload_n (q := 86) g 1 dX9_bucket_85 rfl rfl rfl ?_
            refine zr_iadd (q := 87) g dX9_bucket_86 rfl ?_
            obtain ⟨c13, hM⟩ := zw_gd hM
            refine zr_iald (q := 88) g (hI 37 (by decide)) zs_37 c13 dX9_bucket_87 rfl ?_
            refine zr_iconst (q := 89) (v := (5 : Int32)) g dX9_bucket_88 rfl (by decide) ?_
            refine zr_icmp_ge (q := 92) (tgt := 104) g dX9_bucket_89 rfl rfl (fun c14 => ?_) (fun c14 => ?_)
            · replace hM := zw_ift c14 hM
              refine zr_iconst (q := 105) (v := (0 : Int32)) g dX9_bucket_104 rfl (by decide) ?_
              cases hM
              exact zr_iret g hr hlk dX9_bucket_105 rfl rfl
            · replace hM := zw_iff c14 hM
              refine zr_aload_n (q := 93) g 0 dX9_bucket_92 rfl rfl rfl ?_
              refine zr_getr (q := 96) (k0 := 18) (j := 37) g (hI 31 (by decide)) zs_31 rfl zf_X9_25 dX9_bucket_93 rfl ?_
              refine zr_bipush (q := 98) (v := (9 : Int32)) g dX9_bucket_96 rfl (by decide) ?_
              refine zr_iload_n (q := 99) g 1 dX9_bucket_98 rfl rfl rfl ?_
              refine zr_iadd (q := 100) g dX9_bucket_99 rfl ?_
              obtain ⟨c15, hM⟩ := zw_gd hM
              refine zr_iald (q := 101) g (hI 37 (by decide)) zs_37 c15 dX9_bucket_100 rfl ?_
              refine zr_goto (tgt := 105) g dX9_bucket_101 rfl ?_
              cases hM
              exact zr_iret g hr hlk dX9_bucket_105 rfl rfl
          · replace hM := zw_iff c12 hM
            by_cases c16 : x2 = (4 : Int32)
            · replace hM := zw_ift c16 hM
              refine zr_tabIn (tgt := 106) (off := 90) g dX9_bucket_16 c16 (by decide) rfl ?_
              refine zr_aload_n (q := 107) g 0 dX9_bucket_106 rfl rfl rfl ?_
              refine zr_getr (q := 110) (k0 := 18) (j := 37) g (hI 31 (by decide)) zs_31 rfl zf_X9_25 dX9_bucket_107 rfl ?_
              refine zr_iconst (q := 111) (v := (5 : Int32)) g dX9_bucket_110 rfl (by decide) ?_
              refine zr_iload_n (q := 112) g 1 dX9_bucket_111 rfl rfl rfl ?_
              refine zr_iadd (q := 113) g dX9_bucket_112 rfl ?_
              obtain ⟨c17, hM⟩ := zw_gd hM
              refine zr_iald (q := 114) g (hI 37 (by decide)) zs_37 c17 dX9_bucket_113 rfl ?_
              refine zr_bipush (q := 116) (v := (9 : Int32)) g dX9_bucket_114 rfl (by decide) ?_
              refine zr_icmp_ne (q := 119) (tgt := 131) g dX9_bucket_116 rfl rfl (fun c18 => ?_) (fun c18 => ?_)
              · replace hM := zw_iff c18 hM
                refine zr_iconst (q := 132) (v := (0 : Int32)) g dX9_bucket_131 rfl (by decide) ?_
                cases hM
                exact zr_iret g hr hlk dX9_bucket_132 rfl rfl
              · replace hM := zw_ift c18 hM
                refine zr_aload_n (q := 120) g 0 dX9_bucket_119 rfl rfl rfl ?_
                refine zr_getr (q := 123) (k0 := 18) (j := 37) g (hI 31 (by decide)) zs_31 rfl zf_X9_25 dX9_bucket_120 rfl ?_
                refine zr_bipush (q := 125) (v := (13 : Int32)) g dX9_bucket_123 rfl (by decide) ?_
                refine zr_iload_n (q := 126) g 1 dX9_bucket_125 rfl rfl rfl ?_
                refine zr_iadd (q := 127) g dX9_bucket_126 rfl ?_
                obtain ⟨c19, hM⟩ := zw_gd hM
                refine zr_iald (q := 128) g (hI 37 (by decide)) zs_37 c19 dX9_bucket_127 rfl ?_
                refine zr_goto (tgt := 132) g dX9_bucket_128 rfl ?_
                cases hM
                exact zr_iret g hr hlk dX9_bucket_132 rfl rfl
            · replace hM := zw_iff c16 hM
              have hx : (x2).toInt < 0 ∨ 4 < (x2).toInt := by
                  have := lv_neT (a := 0) c6 (by decide)
                  have := lv_neT (a := 1) c8 (by decide)
                  have := lv_neT (a := 2) c10 (by decide)
                  have := lv_neT (a := 3) c12 (by decide)
                  have := lv_neT (a := 4) c16 (by decide)
                  omega
              refine zr_tabOut (tgt := 133) g dX9_bucket_16 hx rfl ?_
              refine zr_bipush (q := 135) (v := (-2 : Int32)) g dX9_bucket_133 rfl (by decide) ?_
              cases hM
              exact zr_iret g hr hlk dX9_bucket_135 rfl rfl
  · replace hM := zw_iff c5 hM
    refine zr_iconst (q := 14) (v := (-1 : Int32)) g dX9_bucket_13 rfl (by decide) ?_
    cases hM
    exact zr_iret g hr hlk dX9_bucket_14 rfl rfl
noncomputable def B_X9_note_51 (k51 : (Int32 × zw_Hp) → Option (zw_Hp)) (x1 : Int32) (h : zw_Hp) : Option (zw_Hp) :=
  if (21 : Int32) ≤ x1 then (zw_nm (zw_up h 31 21 ((h.1 31 21) + (1 : Int32))) (fun h12 => some h12)) else (if zw_ok x1 21 = true then (if zw_ok (((21 : Int32) * (h.1 31 21)) + x1) 294 = true then zw_nm (zw_up h 39 ((((21 : Int32) * (h.1 31 21)) + x1)).toNatClampNeg (h.1 37 (x1).toNatClampNeg)) (fun h16 => zw_nm (x1 + (1 : Int32)) (fun y18 => k51 (y18, h16))) else none) else none)
set_option maxRecDepth 100000 in
set_option maxHeartbeats 4000000 in
theorem U_X9_note_51 (ok : zw_Ok E) (hI : ∀ i, i < 48 → i ∈ E.2.2.1) (g : zw_G p E (zw_A E) s m args c RX9 cX9_note 2) (hr : meth.sig.returnType = none) (hlk : meth.locks = false) {k51 : (Int32 × zw_Hp) → Option (zw_Hp)} (eL51 : ∀ (w : Int32 × zw_Hp) (z : zw_Hp), k51 w = some z → zw_V p l e s m args below meth c E mt_X9_note 2 none z 51 [(0, .ref (E.2.1 31)), (1, .int w.1)] [] w.2) :
    ∀ (x1 : Int32) (h : zw_Hp) (z : zw_Hp), B_X9_note_51 k51 x1 h = some z → zw_V p l e s m args below meth c E mt_X9_note 2 none z 51 [(0, .ref (E.2.1 31)), (1, .int x1)] [] h := by
  intro x1 h z hM
  unfold B_X9_note_51 at hM
  refine zr_iload_n (q := 52) g 1 dX9_note_51 rfl rfl rfl ?_
  refine zr_bipush (q := 54) (v := (21 : Int32)) g dX9_note_52 rfl (by decide) ?_
  refine zr_icmp_ge (q := 57) (tgt := 83) g dX9_note_54 rfl rfl (fun c11 => ?_) (fun c11 => ?_)
  · replace hM := zw_ift c11 hM
    refine zr_aload_n (q := 84) g 0 dX9_note_83 rfl rfl rfl ?_
    refine zr_dup (q := 85) g dX9_note_84 rfl rfl ?_
    refine zr_geti (q := 88) (k0 := 21) g (hI 31 (by decide)) zs_31 rfl zf_X9_126 dX9_note_85 rfl ?_
    refine zr_iconst (q := 89) (v := (1 : Int32)) g dX9_note_88 rfl (by decide) ?_
    refine zr_iadd (q := 90) g dX9_note_89 rfl ?_
    obtain ⟨h12, e13, hM⟩ := zw_nm_ex hM
    refine zr_puti (q := 93) (k0 := 21) (h' := h12) g (hI 31 (by decide)) zs_31 rfl zp_X9_126 dX9_note_90 rfl e13 ?_
    cases hM
    exact zr_vret g hr hlk dX9_note_93 rfl rfl
  · replace hM := zw_iff c11 hM
    refine zr_aload_n (q := 58) g 0 dX9_note_57 rfl rfl rfl ?_
    refine zr_getr (q := 61) (k0 := 20) (j := 39) g (hI 31 (by decide)) zs_31 rfl zf_X9_31 dX9_note_58 rfl ?_
    refine zr_bipush (q := 63) (v := (21 : Int32)) g dX9_note_61 rfl (by decide) ?_
    refine zr_aload_n (q := 64) g 0 dX9_note_63 rfl rfl rfl ?_
    refine zr_geti (q := 67) (k0 := 21) g (hI 31 (by decide)) zs_31 rfl zf_X9_126 dX9_note_64 rfl ?_
    refine zr_imul (q := 68) g dX9_note_67 rfl ?_
    refine zr_iload_n (q := 69) g 1 dX9_note_68 rfl rfl rfl ?_
    refine zr_iadd (q := 70) g dX9_note_69 rfl ?_
    refine zr_aload_n (q := 71) g 0 dX9_note_70 rfl rfl rfl ?_
    refine zr_getr (q := 74) (k0 := 18) (j := 37) g (hI 31 (by decide)) zs_31 rfl zf_X9_25 dX9_note_71 rfl ?_
    refine zr_iload_n (q := 75) g 1 dX9_note_74 rfl rfl rfl ?_
    obtain ⟨c14, hM⟩ := zw_gd hM
    refine zr_iald (q := 76) g (hI 37 (by decide)) zs_37 c14 dX9_note_75 rfl ?_
    obtain ⟨c15, hM⟩ := zw_gd hM
    obtain ⟨h16, e17, hM⟩ := zw_nm_ex hM
    refine zr_iast (q := 77) (h' := h16) g (hI 39 (by decide)) zs_39 c15 dX9_note_76 rfl e17 ?_
    obtain ⟨y18, e19, hM⟩ := zw_nm_ex hM
    refine zr_iinc (q := 80) (v := y18) (lv' := [(1, .int y18), (0, .ref (E.2.1 31))]) g 1 dX9_note_77 rfl rfl (by rw [e19]; rfl) (by decide) rfl ?_
    refine zr_goto (tgt := 51) g dX9_note_80 rfl ?_
    refine zr_lv (lv' := [(0, .ref (E.2.1 31)), (1, .int y18)]) [1, 0] rfl ?_
    exact eL51 _ _ hM
noncomputable def L_X9_note_51 (w : Int32 × zw_Hp) : Option (zw_Hp) :=
  zw_it (fun (k51 : (Int32 × zw_Hp) → Option (zw_Hp)) (w : Int32 × zw_Hp) => B_X9_note_51 k51 (w.1) (w.2)) 600 w
theorem UL_X9_note_51 (ok : zw_Ok E) (hI : ∀ i, i < 48 → i ∈ E.2.2.1) (g : zw_G p E (zw_A E) s m args c RX9 cX9_note 2) (hr : meth.sig.returnType = none) (hlk : meth.locks = false) :
    ∀ (w : Int32 × zw_Hp) (z : zw_Hp), L_X9_note_51 w = some z → zw_V p l e s m args below meth c E mt_X9_note 2 none z 51 [(0, .ref (E.2.1 31)), (1, .int w.1)] [] w.2 :=
  fun w z hM => zw_it_ind (P := fun (w : Int32 × zw_Hp) (z : zw_Hp) => zw_V p l e s m args below meth c E mt_X9_note 2 none z 51 [(0, .ref (E.2.1 31)), (1, .int w.1)] [] w.2) (fun k e w z hM => U_X9_note_51 ok hI g hr hlk e _ _ _ hM) 600 w z hM
noncomputable def B_X9_note_49 (h : zw_Hp) : Option (zw_Hp) :=
  L_X9_note_51 ((0 : Int32), h)
set_option maxRecDepth 100000 in
set_option maxHeartbeats 4000000 in
theorem U_X9_note_49 (ok : zw_Ok E) (hI : ∀ i, i < 48 → i ∈ E.2.2.1) (g : zw_G p E (zw_A E) s m args c RX9 cX9_note 2) (hr : meth.sig.returnType = none) (hlk : meth.locks = false) :
    ∀ (h : zw_Hp) (z : zw_Hp), B_X9_note_49 h = some z → zw_V p l e s m args below meth c E mt_X9_note 2 none z 49 [(0, .ref (E.2.1 31))] [] h := by
  intro h z hM
  unfold B_X9_note_49 at hM
  refine zr_iconst (q := 50) (v := (0 : Int32)) g dX9_note_49 rfl (by decide) ?_
  refine zr_istore_n (q := 51) (lv' := [(1, .int (0 : Int32)), (0, .ref (E.2.1 31))]) g dX9_note_50 rfl rfl (by decide) rfl ?_
  refine zr_lv (lv' := [(0, .ref (E.2.1 31)), (1, .int (0 : Int32))]) [1, 0] rfl ?_
  exact UL_X9_note_51 ok hI g hr hlk _ _ hM
noncomputable def B_X9_note_11 (k11 : (Int32 × zw_Hp) → Option (zw_Hp)) (x1 : Int32) (h : zw_Hp) : Option (zw_Hp) :=
  if (273 : Int32) ≤ x1 then (zw_nm (zw_up h 31 21 ((h.1 31 21) - (1 : Int32))) (fun h3 => B_X9_note_49 h3)) else (if zw_ok (x1 + (21 : Int32)) 294 = true then (if zw_ok x1 294 = true then zw_nm (zw_up h 39 (x1).toNatClampNeg (h.1 39 ((x1 + (21 : Int32))).toNatClampNeg)) (fun h7 => zw_nm (x1 + (1 : Int32)) (fun y9 => k11 (y9, h7))) else none) else none)
set_option maxRecDepth 100000 in
set_option maxHeartbeats 4000000 in
theorem U_X9_note_11 (ok : zw_Ok E) (hI : ∀ i, i < 48 → i ∈ E.2.2.1) (g : zw_G p E (zw_A E) s m args c RX9 cX9_note 2) (hr : meth.sig.returnType = none) (hlk : meth.locks = false) {k11 : (Int32 × zw_Hp) → Option (zw_Hp)} (eL11 : ∀ (w : Int32 × zw_Hp) (z : zw_Hp), k11 w = some z → zw_V p l e s m args below meth c E mt_X9_note 2 none z 11 [(0, .ref (E.2.1 31)), (1, .int w.1)] [] w.2) :
    ∀ (x1 : Int32) (h : zw_Hp) (z : zw_Hp), B_X9_note_11 k11 x1 h = some z → zw_V p l e s m args below meth c E mt_X9_note 2 none z 11 [(0, .ref (E.2.1 31)), (1, .int x1)] [] h := by
  intro x1 h z hM
  unfold B_X9_note_11 at hM
  refine zr_iload_n (q := 12) g 1 dX9_note_11 rfl rfl rfl ?_
  refine zr_sipush (q := 15) (v := (273 : Int32)) g dX9_note_12 rfl (by decide) ?_
  refine zr_icmp_ge (q := 18) (tgt := 39) g dX9_note_15 rfl rfl (fun c2 => ?_) (fun c2 => ?_)
  · replace hM := zw_ift c2 hM
    refine zr_aload_n (q := 40) g 0 dX9_note_39 rfl rfl rfl ?_
    refine zr_dup (q := 41) g dX9_note_40 rfl rfl ?_
    refine zr_geti (q := 44) (k0 := 21) g (hI 31 (by decide)) zs_31 rfl zf_X9_126 dX9_note_41 rfl ?_
    refine zr_iconst (q := 45) (v := (1 : Int32)) g dX9_note_44 rfl (by decide) ?_
    refine zr_isub (q := 46) g dX9_note_45 rfl ?_
    obtain ⟨h3, e4, hM⟩ := zw_nm_ex hM
    refine zr_puti (q := 49) (k0 := 21) (h' := h3) g (hI 31 (by decide)) zs_31 rfl zp_X9_126 dX9_note_46 rfl e4 ?_
    refine zr_lv (lv' := [(0, .ref (E.2.1 31))]) [0] rfl ?_
    exact U_X9_note_49 ok hI g hr hlk _ _ hM
  · replace hM := zw_iff c2 hM
    refine zr_aload_n (q := 19) g 0 dX9_note_18 rfl rfl rfl ?_
    refine zr_getr (q := 22) (k0 := 20) (j := 39) g (hI 31 (by decide)) zs_31 rfl zf_X9_31 dX9_note_19 rfl ?_
    refine zr_iload_n (q := 23) g 1 dX9_note_22 rfl rfl rfl ?_
    refine zr_aload_n (q := 24) g 0 dX9_note_23 rfl rfl rfl ?_
    refine zr_getr (q := 27) (k0 := 20) (j := 39) g (hI 31 (by decide)) zs_31 rfl zf_X9_31 dX9_note_24 rfl ?_
    refine zr_iload_n (q := 28) g 1 dX9_note_27 rfl rfl rfl ?_
    refine zr_bipush (q := 30) (v := (21 : Int32)) g dX9_note_28 rfl (by decide) ?_
    refine zr_iadd (q := 31) g dX9_note_30 rfl ?_
    obtain ⟨c5, hM⟩ := zw_gd hM
    refine zr_iald (q := 32) g (hI 39 (by decide)) zs_39 c5 dX9_note_31 rfl ?_
    obtain ⟨c6, hM⟩ := zw_gd hM
    obtain ⟨h7, e8, hM⟩ := zw_nm_ex hM
    refine zr_iast (q := 33) (h' := h7) g (hI 39 (by decide)) zs_39 c6 dX9_note_32 rfl e8 ?_
    obtain ⟨y9, e10, hM⟩ := zw_nm_ex hM
    refine zr_iinc (q := 36) (v := y9) (lv' := [(1, .int y9), (0, .ref (E.2.1 31))]) g 1 dX9_note_33 rfl rfl (by rw [e10]; rfl) (by decide) rfl ?_
    refine zr_goto (tgt := 11) g dX9_note_36 rfl ?_
    refine zr_lv (lv' := [(0, .ref (E.2.1 31)), (1, .int y9)]) [1, 0] rfl ?_
    exact eL11 _ _ hM
noncomputable def L_X9_note_11 (w : Int32 × zw_Hp) : Option (zw_Hp) :=
  zw_it (fun (k11 : (Int32 × zw_Hp) → Option (zw_Hp)) (w : Int32 × zw_Hp) => B_X9_note_11 k11 (w.1) (w.2)) 600 w
theorem UL_X9_note_11 (ok : zw_Ok E) (hI : ∀ i, i < 48 → i ∈ E.2.2.1) (g : zw_G p E (zw_A E) s m args c RX9 cX9_note 2) (hr : meth.sig.returnType = none) (hlk : meth.locks = false) :
    ∀ (w : Int32 × zw_Hp) (z : zw_Hp), L_X9_note_11 w = some z → zw_V p l e s m args below meth c E mt_X9_note 2 none z 11 [(0, .ref (E.2.1 31)), (1, .int w.1)] [] w.2 :=
  fun w z hM => zw_it_ind (P := fun (w : Int32 × zw_Hp) (z : zw_Hp) => zw_V p l e s m args below meth c E mt_X9_note 2 none z 11 [(0, .ref (E.2.1 31)), (1, .int w.1)] [] w.2) (fun k e w z hM => U_X9_note_11 ok hI g hr hlk e _ _ _ hM) 600 w z hM
noncomputable def M_X9_note (h : zw_Hp) : Option (zw_Hp) :=
  if (h.1 31 21) = (14 : Int32) then (L_X9_note_11 ((0 : Int32), h)) else (B_X9_note_49 h)
set_option maxRecDepth 100000 in
set_option maxHeartbeats 4000000 in
theorem R_X9_note (ok : zw_Ok E) (hI : ∀ i, i < 48 → i ∈ E.2.2.1) {h : zw_Hp} {z : zw_Hp} (hM : M_X9_note h = some z) : zw_Ct l E mt_X9_note [.ref (E.2.1 31)] h none z := by
  unfold M_X9_note at hM
  refine zw_ct (lv0 := [(0, .ref (E.2.1 31))]) ok (by decide) rfl (Nat.le_of_ble_eq_true rfl) (fun p e s m args below meth c g hr hlk => ?_)
  replace g : zw_G p E (zw_A E) s m args c RX9 cX9_note 2 := g
  show zw_V p l e s m args below meth c E mt_X9_note 2 none z 0 [(0, .ref (E.2.1 31))] [] h
  refine zr_aload_n (q := 1) g 0 dX9_note_0 rfl rfl rfl ?_
  refine zr_geti (q := 4) (k0 := 21) g (hI 31 (by decide)) zs_31 rfl zf_X9_126 dX9_note_1 rfl ?_
  refine zr_bipush (q := 6) (v := (14 : Int32)) g dX9_note_4 rfl (by decide) ?_
  refine zr_icmp_ne (q := 9) (tgt := 49) g dX9_note_6 rfl rfl (fun c1 => ?_) (fun c1 => ?_)
  · replace hM := zw_iff c1 hM
    exact U_X9_note_49 ok hI g hr hlk _ _ hM
  · replace hM := zw_ift c1 hM
    refine zr_iconst (q := 10) (v := (0 : Int32)) g dX9_note_9 rfl (by decide) ?_
    refine zr_istore_n (q := 11) (lv' := [(1, .int (0 : Int32)), (0, .ref (E.2.1 31))]) g dX9_note_10 rfl rfl (by decide) rfl ?_
    refine zr_lv (lv' := [(0, .ref (E.2.1 31)), (1, .int (0 : Int32))]) [1, 0] rfl ?_
    exact UL_X9_note_11 ok hI g hr hlk _ _ hM
noncomputable def M_X9_beat (h : zw_Hp) : Option (Int32 × zw_Hp) :=
  zw_nm (zw_up h 31 0 (0 : Int32)) (fun h1 => (M_X9_note h1).bind (fun z3 => (M_X9_goBeat 37 (31 : Int32) z3).bind (fun z5 => some (z5.1, z5.2))))
set_option maxRecDepth 100000 in
set_option maxHeartbeats 4000000 in
theorem R_X9_beat (ok : zw_Ok E) (hI : ∀ i, i < 48 → i ∈ E.2.2.1) {h : zw_Hp} {z : Int32 × zw_Hp} (hM : M_X9_beat h = some z) : zw_Ct l E mt_X9_beat [.ref (E.2.1 31)] h (some (.int z.1)) z.2 := by
  unfold M_X9_beat at hM
  refine zw_ct (lv0 := [(0, .ref (E.2.1 31))]) ok (by decide) rfl (Nat.le_of_ble_eq_true rfl) (fun p e s m args below meth c g hr hlk => ?_)
  replace g : zw_G p E (zw_A E) s m args c RX9 cX9_beat 1 := g
  show zw_V p l e s m args below meth c E mt_X9_beat 1 (some (.int z.1)) z.2 0 [(0, .ref (E.2.1 31))] [] h
  refine zr_aload_n (q := 1) g 0 dX9_beat_0 rfl rfl rfl ?_
  refine zr_iconst (q := 2) (v := (0 : Int32)) g dX9_beat_1 rfl (by decide) ?_
  obtain ⟨h1, e2, hM⟩ := zw_nm_ex hM
  refine zr_puti (q := 5) (k0 := 0) (h' := h1) g (hI 31 (by decide)) zs_31 rfl zp_X9_59 dX9_beat_2 rfl e2 ?_
  refine zr_aload_n (q := 6) g 0 dX9_beat_5 rfl rfl rfl ?_
  obtain ⟨z3, q4, hM⟩ := zw_bd hM
  refine zr_callV (q := 9) (As := []) (rest := []) (st' := []) (i := 31) g (R_X9_note ok hI q4) zv_X9_note zl_X9_187 (hI 31 (by decide)) zs_31 zc_X9.1 dX9_beat_6 rfl rfl ⟨Nat.le_of_ble_eq_true rfl, Nat.le_of_ble_eq_true rfl⟩ ⟨Nat.zero_le _, Nat.zero_le _⟩ (Nat.le_of_ble_eq_true rfl) rfl rfl ?_
  refine zr_aload_n (q := 10) g 0 dX9_beat_9 rfl rfl rfl ?_
  refine zr_aload_n (q := 11) g 0 dX9_beat_10 rfl rfl rfl ?_
  refine zr_getr (q := 14) (k0 := 18) (j := 37) g (hI 31 (by decide)) zs_31 rfl zf_X9_25 dX9_beat_11 rfl ?_
  refine zr_bipush (q := 16) (v := (31 : Int32)) g dX9_beat_14 rfl (by decide) ?_
  obtain ⟨z5, q6, hM⟩ := zw_bd hM
  refine zr_callV (q := 19) (As := [.ref (E.2.1 37), .int (31 : Int32)]) (rest := []) (st' := [.int z5.1]) (i := 31) g (R_X9_goBeat (Or.inl rfl) ok hI q6) zv_X9_goBeat zl_X9_190 (hI 31 (by decide)) zs_31 zc_X9.1 dX9_beat_16 rfl rfl ⟨Nat.le_of_ble_eq_true rfl, Nat.le_of_ble_eq_true rfl⟩ ⟨Nat.zero_le _, Nat.zero_le _⟩ (Nat.le_of_ble_eq_true rfl) rfl rfl ?_
  cases hM
  exact zr_iret g hr hlk dX9_beat_19 rfl rfl
noncomputable def M_X9_goChange (pp : Nat) (x2 : Int32) (x3 : Int32) (h : zw_Hp) : Option (zw_Hp) :=
  (M_X9_standOf pp x2 (h.1 31 6) h).bind (fun z1 => (M_X9_standOf pp x3 (h.1 31 6) h).bind (fun z3 => if zw_ok z1 21 = true then zw_nm (zw_up h pp (z1).toNatClampNeg x3) (fun h6 => if zw_ok z3 21 = true then zw_nm (zw_up h6 pp (z3).toNatClampNeg x2) (fun h9 => some h9) else none) else none))
set_option maxRecDepth 100000 in
set_option maxHeartbeats 4000000 in
theorem R_X9_goChange {pp : Nat} (k_pp : pp = 37 ∨ pp = 38) (ok : zw_Ok E) (hI : ∀ i, i < 48 → i ∈ E.2.2.1) {x2 : Int32} {x3 : Int32} {h : zw_Hp} {z : zw_Hp} (hM : M_X9_goChange pp x2 x3 h = some z) : zw_Ct l E mt_X9_goChange [.ref (E.2.1 31), .ref (E.2.1 pp), .int x2, .int x3] h none z := by
  unfold M_X9_goChange at hM
  refine zw_ct (lv0 := [(0, .ref (E.2.1 31)), (1, .ref (E.2.1 pp)), (2, .int x2), (3, .int x3)]) ok (by decide) rfl (Nat.le_of_ble_eq_true rfl) (fun p e s m args below meth c g hr hlk => ?_)
  replace g : zw_G p E (zw_A E) s m args c RX9 cX9_goChange 6 := g
  show zw_V p l e s m args below meth c E mt_X9_goChange 6 none z 0 [(0, .ref (E.2.1 31)), (1, .ref (E.2.1 pp)), (2, .int x2), (3, .int x3)] [] h
  refine zr_aload_n (q := 1) g 1 dX9_goChange_0 rfl rfl rfl ?_
  refine zr_iload_n (q := 2) g 2 dX9_goChange_1 rfl rfl rfl ?_
  refine zr_aload_n (q := 3) g 0 dX9_goChange_2 rfl rfl rfl ?_
  refine zr_geti (q := 6) (k0 := 6) g (hI 31 (by decide)) zs_31 rfl zf_X9_63 dX9_goChange_3 rfl ?_
  obtain ⟨z1, q2, hM⟩ := zw_bd hM
  refine zr_callS (q := 9) (As := [.ref (E.2.1 pp), .int x2, .int (h.1 31 6)]) (rest := []) (st' := [.int z1]) g (R_X9_standOf k_pp ok hI q2) zv_X9_standOf zl_X9_181 dX9_goChange_6 rfl rfl ⟨Nat.le_of_ble_eq_true rfl, Nat.le_of_ble_eq_true rfl⟩ ⟨Nat.zero_le _, Nat.zero_le _⟩ (Nat.le_of_ble_eq_true rfl) rfl rfl ?_
  refine zr_istore (q := 11) (lv' := [(4, .int z1), (0, .ref (E.2.1 31)), (1, .ref (E.2.1 pp)), (2, .int x2), (3, .int x3)]) g dX9_goChange_9 rfl (by decide) rfl ?_
  refine zr_aload_n (q := 12) g 2 dX9_goChange_11 rfl rfl rfl ?_
  refine zr_iload_n (q := 13) g 4 dX9_goChange_12 rfl rfl rfl ?_
  refine zr_aload_n (q := 14) g 1 dX9_goChange_13 rfl rfl rfl ?_
  refine zr_geti (q := 17) (k0 := 6) g (hI 31 (by decide)) zs_31 rfl zf_X9_63 dX9_goChange_14 rfl ?_
  obtain ⟨z3, q4, hM⟩ := zw_bd hM
  refine zr_callS (q := 20) (As := [.ref (E.2.1 pp), .int x3, .int (h.1 31 6)]) (rest := []) (st' := [.int z3]) g (R_X9_standOf k_pp ok hI q4) zv_X9_standOf zl_X9_181 dX9_goChange_17 rfl rfl ⟨Nat.le_of_ble_eq_true rfl, Nat.le_of_ble_eq_true rfl⟩ ⟨Nat.zero_le _, Nat.zero_le _⟩ (Nat.le_of_ble_eq_true rfl) rfl rfl ?_
  refine zr_istore (q := 22) (lv' := [(5, .int z3), (4, .int z1), (0, .ref (E.2.1 31)), (1, .ref (E.2.1 pp)), (2, .int x2), (3, .int x3)]) g dX9_goChange_20 rfl (by decide) rfl ?_
  refine zr_aload_n (q := 23) g 3 dX9_goChange_22 rfl rfl rfl ?_
  refine zr_iload (q := 25) g 1 dX9_goChange_23 rfl rfl ?_
  refine zr_iload_n (q := 26) g 5 dX9_goChange_25 rfl rfl rfl ?_
  obtain ⟨c5, hM⟩ := zw_gd hM
  obtain ⟨h6, e7, hM⟩ := zw_nm_ex hM
  refine zr_iast (q := 27) (h' := h6) g (hI _ (zb_pg0 k_pp)) (zs_pg0 k_pp) c5 dX9_goChange_26 rfl e7 ?_
  refine zr_aload_n (q := 28) g 3 dX9_goChange_27 rfl rfl rfl ?_
  refine zr_iload (q := 30) g 0 dX9_goChange_28 rfl rfl ?_
  refine zr_iload_n (q := 31) g 4 dX9_goChange_30 rfl rfl rfl ?_
  obtain ⟨c8, hM⟩ := zw_gd hM
  obtain ⟨h9, e10, hM⟩ := zw_nm_ex hM
  refine zr_iast (q := 32) (h' := h9) g (hI _ (zb_pg0 k_pp)) (zs_pg0 k_pp) c8 dX9_goChange_31 rfl e10 ?_
  cases hM
  exact zr_vret g hr hlk dX9_goChange_32 rfl rfl
noncomputable def M_X9_change (x1 : Int32) (x2 : Int32) (h : zw_Hp) : Option (Int32 × zw_Hp) :=
  zw_nm (zw_up h 31 0 (0 : Int32)) (fun h1 => (M_X9_noOne x1 h1).bind (fun z3 => if z3 = 0 then ((M_X9_noOne x2 h1).bind (fun z6 => if z6 = 0 then (if x1 = x2 then (some ((-2 : Int32), h1)) else ((M_X9_note h1).bind (fun z10 => (M_X9_goChange 37 x1 x2 z10).bind (fun z12 => (M_X9_standOf 37 x1 (z12.1 31 6) z12).bind (fun z14 => some (z14, z12)))))) else (some ((-1 : Int32), h1)))) else (some ((-1 : Int32), h1))))
set_option maxRecDepth 100000 in
set_option maxHeartbeats 4000000 in
theorem R_X9_change (ok : zw_Ok E) (hI : ∀ i, i < 48 → i ∈ E.2.2.1) {x1 : Int32} {x2 : Int32} {h : zw_Hp} {z : Int32 × zw_Hp} (hM : M_X9_change x1 x2 h = some z) : zw_Ct l E mt_X9_change [.ref (E.2.1 31), .int x1, .int x2] h (some (.int z.1)) z.2 := by
  unfold M_X9_change at hM
  refine zw_ct (lv0 := [(0, .ref (E.2.1 31)), (1, .int x1), (2, .int x2)]) ok (by decide) rfl (Nat.le_of_ble_eq_true rfl) (fun p e s m args below meth c g hr hlk => ?_)
  replace g : zw_G p E (zw_A E) s m args c RX9 cX9_change 3 := g
  show zw_V p l e s m args below meth c E mt_X9_change 3 (some (.int z.1)) z.2 0 [(0, .ref (E.2.1 31)), (1, .int x1), (2, .int x2)] [] h
  refine zr_aload_n (q := 1) g 0 dX9_change_0 rfl rfl rfl ?_
  refine zr_iconst (q := 2) (v := (0 : Int32)) g dX9_change_1 rfl (by decide) ?_
  obtain ⟨h1, e2, hM⟩ := zw_nm_ex hM
  refine zr_puti (q := 5) (k0 := 0) (h' := h1) g (hI 31 (by decide)) zs_31 rfl zp_X9_59 dX9_change_2 rfl e2 ?_
  refine zr_aload_n (q := 6) g 0 dX9_change_5 rfl rfl rfl ?_
  refine zr_iload_n (q := 7) g 1 dX9_change_6 rfl rfl rfl ?_
  obtain ⟨z3, q4, hM⟩ := zw_bd hM
  refine zr_callV (q := 10) (As := [.int x1]) (rest := []) (st' := [.int z3]) (i := 31) g (R_X9_noOne ok hI q4) zv_X9_noOne zl_X9_177 (hI 31 (by decide)) zs_31 zc_X9.1 dX9_change_7 rfl rfl ⟨Nat.le_of_ble_eq_true rfl, Nat.le_of_ble_eq_true rfl⟩ ⟨Nat.zero_le _, Nat.zero_le _⟩ (Nat.le_of_ble_eq_true rfl) rfl rfl ?_
  refine zr_if_ne (q := 13) (tgt := 21) g dX9_change_10 rfl rfl (fun c5 => ?_) (fun c5 => ?_)
  · replace hM := zw_iff c5 hM
    refine zr_iconst (q := 22) (v := (-1 : Int32)) g dX9_change_21 rfl (by decide) ?_
    cases hM
    exact zr_iret g hr hlk dX9_change_22 rfl rfl
  · replace hM := zw_ift c5 hM
    refine zr_aload_n (q := 14) g 0 dX9_change_13 rfl rfl rfl ?_
    refine zr_iload_n (q := 15) g 2 dX9_change_14 rfl rfl rfl ?_
    obtain ⟨z6, q7, hM⟩ := zw_bd hM
    refine zr_callV (q := 18) (As := [.int x2]) (rest := []) (st' := [.int z6]) (i := 31) g (R_X9_noOne ok hI q7) zv_X9_noOne zl_X9_177 (hI 31 (by decide)) zs_31 zc_X9.1 dX9_change_15 rfl rfl ⟨Nat.le_of_ble_eq_true rfl, Nat.le_of_ble_eq_true rfl⟩ ⟨Nat.zero_le _, Nat.zero_le _⟩ (Nat.le_of_ble_eq_true rfl) rfl rfl ?_
    refine zr_if_eq (q := 21) (tgt := 23) g dX9_change_18 rfl rfl (fun c8 => ?_) (fun c8 => ?_)
    · replace hM := zw_ift c8 hM
      refine zr_iload_n (q := 24) g 1 dX9_change_23 rfl rfl rfl ?_
      refine zr_iload_n (q := 25) g 2 dX9_change_24 rfl rfl rfl ?_
      refine zr_icmp_ne (q := 28) (tgt := 31) g dX9_change_25 rfl rfl (fun c9 => ?_) (fun c9 => ?_)
      · replace hM := zw_iff c9 hM
        refine zr_aload_n (q := 32) g 0 dX9_change_31 rfl rfl rfl ?_
        obtain ⟨z10, q11, hM⟩ := zw_bd hM
        refine zr_callV (q := 35) (As := []) (rest := []) (st' := []) (i := 31) g (R_X9_note ok hI q11) zv_X9_note zl_X9_187 (hI 31 (by decide)) zs_31 zc_X9.1 dX9_change_32 rfl rfl ⟨Nat.le_of_ble_eq_true rfl, Nat.le_of_ble_eq_true rfl⟩ ⟨Nat.zero_le _, Nat.zero_le _⟩ (Nat.le_of_ble_eq_true rfl) rfl rfl ?_
        refine zr_aload_n (q := 36) g 0 dX9_change_35 rfl rfl rfl ?_
        refine zr_aload_n (q := 37) g 0 dX9_change_36 rfl rfl rfl ?_
        refine zr_getr (q := 40) (k0 := 18) (j := 37) g (hI 31 (by decide)) zs_31 rfl zf_X9_25 dX9_change_37 rfl ?_
        refine zr_iload_n (q := 41) g 1 dX9_change_40 rfl rfl rfl ?_
        refine zr_iload_n (q := 42) g 2 dX9_change_41 rfl rfl rfl ?_
        obtain ⟨z12, q13, hM⟩ := zw_bd hM
        refine zr_callV (q := 45) (As := [.ref (E.2.1 37), .int x1, .int x2]) (rest := []) (st' := []) (i := 31) g (R_X9_goChange (Or.inl rfl) ok hI q13) zv_X9_goChange zl_X9_193 (hI 31 (by decide)) zs_31 zc_X9.1 dX9_change_42 rfl rfl ⟨Nat.le_of_ble_eq_true rfl, Nat.le_of_ble_eq_true rfl⟩ ⟨Nat.zero_le _, Nat.zero_le _⟩ (Nat.le_of_ble_eq_true rfl) rfl rfl ?_
        refine zr_aload_n (q := 46) g 0 dX9_change_45 rfl rfl rfl ?_
        refine zr_getr (q := 49) (k0 := 18) (j := 37) g (hI 31 (by decide)) zs_31 rfl zf_X9_25 dX9_change_46 rfl ?_
        refine zr_iload_n (q := 50) g 1 dX9_change_49 rfl rfl rfl ?_
        refine zr_aload_n (q := 51) g 0 dX9_change_50 rfl rfl rfl ?_
        refine zr_geti (q := 54) (k0 := 6) g (hI 31 (by decide)) zs_31 rfl zf_X9_63 dX9_change_51 rfl ?_
        obtain ⟨z14, q15, hM⟩ := zw_bd hM
        refine zr_callS (q := 57) (As := [.ref (E.2.1 37), .int x1, .int (z12.1 31 6)]) (rest := []) (st' := [.int z14]) g (R_X9_standOf (Or.inl rfl) ok hI q15) zv_X9_standOf zl_X9_181 dX9_change_54 rfl rfl ⟨Nat.le_of_ble_eq_true rfl, Nat.le_of_ble_eq_true rfl⟩ ⟨Nat.zero_le _, Nat.zero_le _⟩ (Nat.le_of_ble_eq_true rfl) rfl rfl ?_
        cases hM
        exact zr_iret g hr hlk dX9_change_57 rfl rfl
      · replace hM := zw_ift c9 hM
        refine zr_bipush (q := 30) (v := (-2 : Int32)) g dX9_change_28 rfl (by decide) ?_
        cases hM
        exact zr_iret g hr hlk dX9_change_30 rfl rfl
    · replace hM := zw_iff c8 hM
      refine zr_iconst (q := 22) (v := (-1 : Int32)) g dX9_change_21 rfl (by decide) ?_
      cases hM
      exact zr_iret g hr hlk dX9_change_22 rfl rfl
noncomputable def M_X9_mend (x1 : Int32) (h : zw_Hp) : Option (Int32 × zw_Hp) :=
  zw_nm (zw_up h 31 0 (0 : Int32)) (fun h1 => (M_X9_noBucket x1 h1).bind (fun z3 => if z3 = 0 then (if zw_ok (17 : Int32) 21 = true then ((M_X9_has (h1.1 37 ((17 : Int32)).toNatClampNeg) x1 h1).bind (fun z7 => if z7 = 0 then (some ((-3 : Int32), h1)) else ((M_X9_note h1).bind (fun z10 => if zw_ok (17 : Int32) 21 = true then (if zw_ok (17 : Int32) 21 = true then zw_nm (zw_up z10 37 ((17 : Int32)).toNatClampNeg ((z10.1 37 ((17 : Int32)).toNatClampNeg) &&& (((1 : Int32) <<< (x1 &&& 31)) ^^^ (-1 : Int32)))) (fun h14 => if zw_ok (17 : Int32) 21 = true then ((M_X9_many (h14.1 37 ((17 : Int32)).toNatClampNeg) h14).bind (fun z17 => some (z17, h14))) else none) else none) else none)))) else none) else (some ((-1 : Int32), h1))))
set_option maxRecDepth 100000 in
set_option maxHeartbeats 4000000 in
theorem R_X9_mend (ok : zw_Ok E) (hI : ∀ i, i < 48 → i ∈ E.2.2.1) {x1 : Int32} {h : zw_Hp} {z : Int32 × zw_Hp} (hM : M_X9_mend x1 h = some z) : zw_Ct l E mt_X9_mend [.ref (E.2.1 31), .int x1] h (some (.int z.1)) z.2 := by
  unfold M_X9_mend at hM
  refine zw_ct (lv0 := [(0, .ref (E.2.1 31)), (1, .int x1)]) ok (by decide) rfl (Nat.le_of_ble_eq_true rfl) (fun p e s m args below meth c g hr hlk => ?_)
  replace g : zw_G p E (zw_A E) s m args c RX9 cX9_mend 2 := g
  show zw_V p l e s m args below meth c E mt_X9_mend 2 (some (.int z.1)) z.2 0 [(0, .ref (E.2.1 31)), (1, .int x1)] [] h
  refine zr_aload_n (q := 1) g 0 dX9_mend_0 rfl rfl rfl ?_
  refine zr_iconst (q := 2) (v := (0 : Int32)) g dX9_mend_1 rfl (by decide) ?_
  obtain ⟨h1, e2, hM⟩ := zw_nm_ex hM
  refine zr_puti (q := 5) (k0 := 0) (h' := h1) g (hI 31 (by decide)) zs_31 rfl zp_X9_59 dX9_mend_2 rfl e2 ?_
  refine zr_aload_n (q := 6) g 0 dX9_mend_5 rfl rfl rfl ?_
  refine zr_iload_n (q := 7) g 1 dX9_mend_6 rfl rfl rfl ?_
  obtain ⟨z3, q4, hM⟩ := zw_bd hM
  refine zr_callV (q := 10) (As := [.int x1]) (rest := []) (st' := [.int z3]) (i := 31) g (R_X9_noBucket ok hI q4) zv_X9_noBucket zl_X9_184 (hI 31 (by decide)) zs_31 zc_X9.1 dX9_mend_7 rfl rfl ⟨Nat.le_of_ble_eq_true rfl, Nat.le_of_ble_eq_true rfl⟩ ⟨Nat.zero_le _, Nat.zero_le _⟩ (Nat.le_of_ble_eq_true rfl) rfl rfl ?_
  refine zr_if_eq (q := 13) (tgt := 15) g dX9_mend_10 rfl rfl (fun c5 => ?_) (fun c5 => ?_)
  · replace hM := zw_ift c5 hM
    refine zr_aload_n (q := 16) g 0 dX9_mend_15 rfl rfl rfl ?_
    refine zr_getr (q := 19) (k0 := 18) (j := 37) g (hI 31 (by decide)) zs_31 rfl zf_X9_25 dX9_mend_16 rfl ?_
    refine zr_bipush (q := 21) (v := (17 : Int32)) g dX9_mend_19 rfl (by decide) ?_
    obtain ⟨c6, hM⟩ := zw_gd hM
    refine zr_iald (q := 22) g (hI 37 (by decide)) zs_37 c6 dX9_mend_21 rfl ?_
    refine zr_iload_n (q := 23) g 1 dX9_mend_22 rfl rfl rfl ?_
    obtain ⟨z7, q8, hM⟩ := zw_bd hM
    refine zr_callS (q := 26) (As := [.int (h1.1 37 ((17 : Int32)).toNatClampNeg), .int x1]) (rest := []) (st' := [.int z7]) g (R_X9_has ok hI q8) zv_X9_has zl_X9_129 dX9_mend_23 rfl rfl ⟨Nat.le_of_ble_eq_true rfl, Nat.le_of_ble_eq_true rfl⟩ ⟨Nat.zero_le _, Nat.zero_le _⟩ (Nat.le_of_ble_eq_true rfl) rfl rfl ?_
    refine zr_if_ne (q := 29) (tgt := 32) g dX9_mend_26 rfl rfl (fun c9 => ?_) (fun c9 => ?_)
    · replace hM := zw_iff c9 hM
      refine zr_aload_n (q := 33) g 0 dX9_mend_32 rfl rfl rfl ?_
      obtain ⟨z10, q11, hM⟩ := zw_bd hM
      refine zr_callV (q := 36) (As := []) (rest := []) (st' := []) (i := 31) g (R_X9_note ok hI q11) zv_X9_note zl_X9_187 (hI 31 (by decide)) zs_31 zc_X9.1 dX9_mend_33 rfl rfl ⟨Nat.le_of_ble_eq_true rfl, Nat.le_of_ble_eq_true rfl⟩ ⟨Nat.zero_le _, Nat.zero_le _⟩ (Nat.le_of_ble_eq_true rfl) rfl rfl ?_
      refine zr_aload_n (q := 37) g 0 dX9_mend_36 rfl rfl rfl ?_
      refine zr_getr (q := 40) (k0 := 18) (j := 37) g (hI 31 (by decide)) zs_31 rfl zf_X9_25 dX9_mend_37 rfl ?_
      refine zr_bipush (q := 42) (v := (17 : Int32)) g dX9_mend_40 rfl (by decide) ?_
      refine zr_dup2 (q := 43) g dX9_mend_42 rfl rfl rfl ?_
      obtain ⟨c12, hM⟩ := zw_gd hM
      refine zr_iald (q := 44) g (hI 37 (by decide)) zs_37 c12 dX9_mend_43 rfl ?_
      refine zr_iconst (q := 45) (v := (1 : Int32)) g dX9_mend_44 rfl (by decide) ?_
      refine zr_iload_n (q := 46) g 1 dX9_mend_45 rfl rfl rfl ?_
      refine zr_ishl (q := 47) g dX9_mend_46 rfl ?_
      refine zr_iconst (q := 48) (v := (-1 : Int32)) g dX9_mend_47 rfl (by decide) ?_
      refine zr_ixor (q := 49) g dX9_mend_48 rfl ?_
      refine zr_iand (q := 50) g dX9_mend_49 rfl ?_
      obtain ⟨c13, hM⟩ := zw_gd hM
      obtain ⟨h14, e15, hM⟩ := zw_nm_ex hM
      refine zr_iast (q := 51) (h' := h14) g (hI 37 (by decide)) zs_37 c13 dX9_mend_50 rfl e15 ?_
      refine zr_aload_n (q := 52) g 0 dX9_mend_51 rfl rfl rfl ?_
      refine zr_getr (q := 55) (k0 := 18) (j := 37) g (hI 31 (by decide)) zs_31 rfl zf_X9_25 dX9_mend_52 rfl ?_
      refine zr_bipush (q := 57) (v := (17 : Int32)) g dX9_mend_55 rfl (by decide) ?_
      obtain ⟨c16, hM⟩ := zw_gd hM
      refine zr_iald (q := 58) g (hI 37 (by decide)) zs_37 c16 dX9_mend_57 rfl ?_
      obtain ⟨z17, q18, hM⟩ := zw_bd hM
      refine zr_callS (q := 61) (As := [.int (h14.1 37 ((17 : Int32)).toNatClampNeg)]) (rest := []) (st' := [.int z17]) g (R_X9_many ok hI q18) zv_X9_many zl_X9_196 dX9_mend_58 rfl rfl ⟨Nat.le_of_ble_eq_true rfl, Nat.le_of_ble_eq_true rfl⟩ ⟨Nat.zero_le _, Nat.zero_le _⟩ (Nat.le_of_ble_eq_true rfl) rfl rfl ?_
      cases hM
      exact zr_iret g hr hlk dX9_mend_61 rfl rfl
    · replace hM := zw_ift c9 hM
      refine zr_bipush (q := 31) (v := (-3 : Int32)) g dX9_mend_29 rfl (by decide) ?_
      cases hM
      exact zr_iret g hr hlk dX9_mend_31 rfl rfl
  · replace hM := zw_iff c5 hM
    refine zr_iconst (q := 14) (v := (-1 : Int32)) g dX9_mend_13 rfl (by decide) ?_
    cases hM
    exact zr_iret g hr hlk dX9_mend_14 rfl rfl
noncomputable def M_X9_drop (x1 : Int32) (h : zw_Hp) : Option (Int32 × zw_Hp) :=
  zw_nm (zw_up h 31 0 (0 : Int32)) (fun h1 => (M_X9_noBucket x1 h1).bind (fun z3 => if z3 = 0 then (if zw_ok ((5 : Int32) + x1) 21 = true then (if (h1.1 37 (((5 : Int32) + x1)).toNatClampNeg) < (5 : Int32) then ((M_X9_note h1).bind (fun z8 => if zw_ok ((9 : Int32) + x1) 21 = true then (zw_nm (z8.1 37 (((9 : Int32) + x1)).toNatClampNeg) (fun y11 => (M_X9_sendBack 37 x1 z8).bind (fun z13 => some (y11, z13)))) else none)) else (some ((-3 : Int32), h1))) else none) else (some ((-1 : Int32), h1))))
set_option maxRecDepth 100000 in
set_option maxHeartbeats 4000000 in
theorem R_X9_drop (ok : zw_Ok E) (hI : ∀ i, i < 48 → i ∈ E.2.2.1) {x1 : Int32} {h : zw_Hp} {z : Int32 × zw_Hp} (hM : M_X9_drop x1 h = some z) : zw_Ct l E mt_X9_drop [.ref (E.2.1 31), .int x1] h (some (.int z.1)) z.2 := by
  unfold M_X9_drop at hM
  refine zw_ct (lv0 := [(0, .ref (E.2.1 31)), (1, .int x1)]) ok (by decide) rfl (Nat.le_of_ble_eq_true rfl) (fun p e s m args below meth c g hr hlk => ?_)
  replace g : zw_G p E (zw_A E) s m args c RX9 cX9_drop 3 := g
  show zw_V p l e s m args below meth c E mt_X9_drop 3 (some (.int z.1)) z.2 0 [(0, .ref (E.2.1 31)), (1, .int x1)] [] h
  refine zr_aload_n (q := 1) g 0 dX9_drop_0 rfl rfl rfl ?_
  refine zr_iconst (q := 2) (v := (0 : Int32)) g dX9_drop_1 rfl (by decide) ?_
  obtain ⟨h1, e2, hM⟩ := zw_nm_ex hM
  refine zr_puti (q := 5) (k0 := 0) (h' := h1) g (hI 31 (by decide)) zs_31 rfl zp_X9_59 dX9_drop_2 rfl e2 ?_
  refine zr_aload_n (q := 6) g 0 dX9_drop_5 rfl rfl rfl ?_
  refine zr_iload_n (q := 7) g 1 dX9_drop_6 rfl rfl rfl ?_
  obtain ⟨z3, q4, hM⟩ := zw_bd hM
  refine zr_callV (q := 10) (As := [.int x1]) (rest := []) (st' := [.int z3]) (i := 31) g (R_X9_noBucket ok hI q4) zv_X9_noBucket zl_X9_184 (hI 31 (by decide)) zs_31 zc_X9.1 dX9_drop_7 rfl rfl ⟨Nat.le_of_ble_eq_true rfl, Nat.le_of_ble_eq_true rfl⟩ ⟨Nat.zero_le _, Nat.zero_le _⟩ (Nat.le_of_ble_eq_true rfl) rfl rfl ?_
  refine zr_if_eq (q := 13) (tgt := 15) g dX9_drop_10 rfl rfl (fun c5 => ?_) (fun c5 => ?_)
  · replace hM := zw_ift c5 hM
    refine zr_aload_n (q := 16) g 0 dX9_drop_15 rfl rfl rfl ?_
    refine zr_getr (q := 19) (k0 := 18) (j := 37) g (hI 31 (by decide)) zs_31 rfl zf_X9_25 dX9_drop_16 rfl ?_
    refine zr_iconst (q := 20) (v := (5 : Int32)) g dX9_drop_19 rfl (by decide) ?_
    refine zr_iload_n (q := 21) g 1 dX9_drop_20 rfl rfl rfl ?_
    refine zr_iadd (q := 22) g dX9_drop_21 rfl ?_
    obtain ⟨c6, hM⟩ := zw_gd hM
    refine zr_iald (q := 23) g (hI 37 (by decide)) zs_37 c6 dX9_drop_22 rfl ?_
    refine zr_iconst (q := 24) (v := (5 : Int32)) g dX9_drop_23 rfl (by decide) ?_
    refine zr_icmp_lt (q := 27) (tgt := 30) g dX9_drop_24 rfl rfl (fun c7 => ?_) (fun c7 => ?_)
    · replace hM := zw_ift c7 hM
      refine zr_aload_n (q := 31) g 0 dX9_drop_30 rfl rfl rfl ?_
      obtain ⟨z8, q9, hM⟩ := zw_bd hM
      refine zr_callV (q := 34) (As := []) (rest := []) (st' := []) (i := 31) g (R_X9_note ok hI q9) zv_X9_note zl_X9_187 (hI 31 (by decide)) zs_31 zc_X9.1 dX9_drop_31 rfl rfl ⟨Nat.le_of_ble_eq_true rfl, Nat.le_of_ble_eq_true rfl⟩ ⟨Nat.zero_le _, Nat.zero_le _⟩ (Nat.le_of_ble_eq_true rfl) rfl rfl ?_
      refine zr_aload_n (q := 35) g 0 dX9_drop_34 rfl rfl rfl ?_
      refine zr_getr (q := 38) (k0 := 18) (j := 37) g (hI 31 (by decide)) zs_31 rfl zf_X9_25 dX9_drop_35 rfl ?_
      refine zr_bipush (q := 40) (v := (9 : Int32)) g dX9_drop_38 rfl (by decide) ?_
      refine zr_iload_n (q := 41) g 1 dX9_drop_40 rfl rfl rfl ?_
      refine zr_iadd (q := 42) g dX9_drop_41 rfl ?_
      obtain ⟨c10, hM⟩ := zw_gd hM
      refine zr_iald (q := 43) g (hI 37 (by decide)) zs_37 c10 dX9_drop_42 rfl ?_
      obtain ⟨y11, e12, hM⟩ := zw_nm_ex hM
      refine zr_nmi e12 ?_
      refine zr_istore_n (q := 44) (lv' := [(2, .int y11), (0, .ref (E.2.1 31)), (1, .int x1)]) g dX9_drop_43 rfl rfl (by decide) rfl ?_
      refine zr_aload_n (q := 45) g 1 dX9_drop_44 rfl rfl rfl ?_
      refine zr_aload_n (q := 46) g 1 dX9_drop_45 rfl rfl rfl ?_
      refine zr_getr (q := 49) (k0 := 18) (j := 37) g (hI 31 (by decide)) zs_31 rfl zf_X9_25 dX9_drop_46 rfl ?_
      refine zr_iload_n (q := 50) g 2 dX9_drop_49 rfl rfl rfl ?_
      obtain ⟨z13, q14, hM⟩ := zw_bd hM
      refine zr_callV (q := 53) (As := [.ref (E.2.1 37), .int x1]) (rest := []) (st' := []) (i := 31) g (R_X9_sendBack (Or.inl rfl) ok hI q14) zv_X9_sendBack zl_X9_162 (hI 31 (by decide)) zs_31 zc_X9.1 dX9_drop_50 rfl rfl ⟨Nat.le_of_ble_eq_true rfl, Nat.le_of_ble_eq_true rfl⟩ ⟨Nat.zero_le _, Nat.zero_le _⟩ (Nat.le_of_ble_eq_true rfl) rfl rfl ?_
      refine zr_iload_n (q := 54) g 0 dX9_drop_53 rfl rfl rfl ?_
      cases hM
      exact zr_iret g hr hlk dX9_drop_54 rfl rfl
    · replace hM := zw_iff c7 hM
      refine zr_bipush (q := 29) (v := (-3 : Int32)) g dX9_drop_27 rfl (by decide) ?_
      cases hM
      exact zr_iret g hr hlk dX9_drop_29 rfl rfl
  · replace hM := zw_iff c5 hM
    refine zr_iconst (q := 14) (v := (-1 : Int32)) g dX9_drop_13 rfl (by decide) ?_
    cases hM
    exact zr_iret g hr hlk dX9_drop_14 rfl rfl
noncomputable def B_X9_undo_27 (k27 : (Int32 × zw_Hp) → Option (Int32 × zw_Hp)) (x1 : Int32) (h : zw_Hp) : Option (Int32 × zw_Hp) :=
  if (21 : Int32) ≤ x1 then (some ((h.1 31 21), h)) else (if zw_ok (((21 : Int32) * (h.1 31 21)) + x1) 294 = true then (if zw_ok x1 21 = true then zw_nm (zw_up h 37 (x1).toNatClampNeg (h.1 39 ((((21 : Int32) * (h.1 31 21)) + x1)).toNatClampNeg)) (fun h9 => zw_nm (x1 + (1 : Int32)) (fun y11 => k27 (y11, h9))) else none) else none)
set_option maxRecDepth 100000 in
set_option maxHeartbeats 4000000 in
theorem U_X9_undo_27 (ok : zw_Ok E) (hI : ∀ i, i < 48 → i ∈ E.2.2.1) (g : zw_G p E (zw_A E) s m args c RX9 cX9_undo 2) (hr : meth.sig.returnType = some .int) (hlk : meth.locks = false) {k27 : (Int32 × zw_Hp) → Option (Int32 × zw_Hp)} (eL27 : ∀ (w : Int32 × zw_Hp) (z : Int32 × zw_Hp), k27 w = some z → zw_V p l e s m args below meth c E mt_X9_undo 2 (some (.int z.1)) z.2 27 [(0, .ref (E.2.1 31)), (1, .int w.1)] [] w.2) :
    ∀ (x1 : Int32) (h : zw_Hp) (z : Int32 × zw_Hp), B_X9_undo_27 k27 x1 h = some z → zw_V p l e s m args below meth c E mt_X9_undo 2 (some (.int z.1)) z.2 27 [(0, .ref (E.2.1 31)), (1, .int x1)] [] h := by
  intro x1 h z hM
  unfold B_X9_undo_27 at hM
  refine zr_iload_n (q := 28) g 1 dX9_undo_27 rfl rfl rfl ?_
  refine zr_bipush (q := 30) (v := (21 : Int32)) g dX9_undo_28 rfl (by decide) ?_
  refine zr_icmp_ge (q := 33) (tgt := 59) g dX9_undo_30 rfl rfl (fun c6 => ?_) (fun c6 => ?_)
  · replace hM := zw_ift c6 hM
    refine zr_aload_n (q := 60) g 0 dX9_undo_59 rfl rfl rfl ?_
    refine zr_geti (q := 63) (k0 := 21) g (hI 31 (by decide)) zs_31 rfl zf_X9_126 dX9_undo_60 rfl ?_
    cases hM
    exact zr_iret g hr hlk dX9_undo_63 rfl rfl
  · replace hM := zw_iff c6 hM
    refine zr_aload_n (q := 34) g 0 dX9_undo_33 rfl rfl rfl ?_
    refine zr_getr (q := 37) (k0 := 18) (j := 37) g (hI 31 (by decide)) zs_31 rfl zf_X9_25 dX9_undo_34 rfl ?_
    refine zr_iload_n (q := 38) g 1 dX9_undo_37 rfl rfl rfl ?_
    refine zr_aload_n (q := 39) g 0 dX9_undo_38 rfl rfl rfl ?_
    refine zr_getr (q := 42) (k0 := 20) (j := 39) g (hI 31 (by decide)) zs_31 rfl zf_X9_31 dX9_undo_39 rfl ?_
    refine zr_bipush (q := 44) (v := (21 : Int32)) g dX9_undo_42 rfl (by decide) ?_
    refine zr_aload_n (q := 45) g 0 dX9_undo_44 rfl rfl rfl ?_
    refine zr_geti (q := 48) (k0 := 21) g (hI 31 (by decide)) zs_31 rfl zf_X9_126 dX9_undo_45 rfl ?_
    refine zr_imul (q := 49) g dX9_undo_48 rfl ?_
    refine zr_iload_n (q := 50) g 1 dX9_undo_49 rfl rfl rfl ?_
    refine zr_iadd (q := 51) g dX9_undo_50 rfl ?_
    obtain ⟨c7, hM⟩ := zw_gd hM
    refine zr_iald (q := 52) g (hI 39 (by decide)) zs_39 c7 dX9_undo_51 rfl ?_
    obtain ⟨c8, hM⟩ := zw_gd hM
    obtain ⟨h9, e10, hM⟩ := zw_nm_ex hM
    refine zr_iast (q := 53) (h' := h9) g (hI 37 (by decide)) zs_37 c8 dX9_undo_52 rfl e10 ?_
    obtain ⟨y11, e12, hM⟩ := zw_nm_ex hM
    refine zr_iinc (q := 56) (v := y11) (lv' := [(1, .int y11), (0, .ref (E.2.1 31))]) g 1 dX9_undo_53 rfl rfl (by rw [e12]; rfl) (by decide) rfl ?_
    refine zr_goto (tgt := 27) g dX9_undo_56 rfl ?_
    refine zr_lv (lv' := [(0, .ref (E.2.1 31)), (1, .int y11)]) [1, 0] rfl ?_
    exact eL27 _ _ hM
noncomputable def L_X9_undo_27 (w : Int32 × zw_Hp) : Option (Int32 × zw_Hp) :=
  zw_it (fun (k27 : (Int32 × zw_Hp) → Option (Int32 × zw_Hp)) (w : Int32 × zw_Hp) => B_X9_undo_27 k27 (w.1) (w.2)) 600 w
theorem UL_X9_undo_27 (ok : zw_Ok E) (hI : ∀ i, i < 48 → i ∈ E.2.2.1) (g : zw_G p E (zw_A E) s m args c RX9 cX9_undo 2) (hr : meth.sig.returnType = some .int) (hlk : meth.locks = false) :
    ∀ (w : Int32 × zw_Hp) (z : Int32 × zw_Hp), L_X9_undo_27 w = some z → zw_V p l e s m args below meth c E mt_X9_undo 2 (some (.int z.1)) z.2 27 [(0, .ref (E.2.1 31)), (1, .int w.1)] [] w.2 :=
  fun w z hM => zw_it_ind (P := fun (w : Int32 × zw_Hp) (z : Int32 × zw_Hp) => zw_V p l e s m args below meth c E mt_X9_undo 2 (some (.int z.1)) z.2 27 [(0, .ref (E.2.1 31)), (1, .int w.1)] [] w.2) (fun k e w z hM => U_X9_undo_27 ok hI g hr hlk e _ _ _ hM) 600 w z hM
noncomputable def M_X9_undo (h : zw_Hp) : Option (Int32 × zw_Hp) :=
  zw_nm (zw_up h 31 0 (0 : Int32)) (fun h1 => if (h1.1 31 21) = 0 then (some ((-3 : Int32), h1)) else (zw_nm (zw_up h1 31 21 ((h1.1 31 21) - (1 : Int32))) (fun h4 => L_X9_undo_27 ((0 : Int32), h4))))
set_option maxRecDepth 100000 in
set_option maxHeartbeats 4000000 in
theorem R_X9_undo (ok : zw_Ok E) (hI : ∀ i, i < 48 → i ∈ E.2.2.1) {h : zw_Hp} {z : Int32 × zw_Hp} (hM : M_X9_undo h = some z) : zw_Ct l E mt_X9_undo [.ref (E.2.1 31)] h (some (.int z.1)) z.2 := by
  unfold M_X9_undo at hM
  refine zw_ct (lv0 := [(0, .ref (E.2.1 31))]) ok (by decide) rfl (Nat.le_of_ble_eq_true rfl) (fun p e s m args below meth c g hr hlk => ?_)
  replace g : zw_G p E (zw_A E) s m args c RX9 cX9_undo 2 := g
  show zw_V p l e s m args below meth c E mt_X9_undo 2 (some (.int z.1)) z.2 0 [(0, .ref (E.2.1 31))] [] h
  refine zr_aload_n (q := 1) g 0 dX9_undo_0 rfl rfl rfl ?_
  refine zr_iconst (q := 2) (v := (0 : Int32)) g dX9_undo_1 rfl (by decide) ?_
  obtain ⟨h1, e2, hM⟩ := zw_nm_ex hM
  refine zr_puti (q := 5) (k0 := 0) (h' := h1) g (hI 31 (by decide)) zs_31 rfl zp_X9_59 dX9_undo_2 rfl e2 ?_
  refine zr_aload_n (q := 6) g 0 dX9_undo_5 rfl rfl rfl ?_
  refine zr_geti (q := 9) (k0 := 21) g (hI 31 (by decide)) zs_31 rfl zf_X9_126 dX9_undo_6 rfl ?_
  refine zr_if_ne (q := 12) (tgt := 15) g dX9_undo_9 rfl rfl (fun c3 => ?_) (fun c3 => ?_)
  · replace hM := zw_iff c3 hM
    refine zr_aload_n (q := 16) g 0 dX9_undo_15 rfl rfl rfl ?_
    refine zr_dup (q := 17) g dX9_undo_16 rfl rfl ?_
    refine zr_geti (q := 20) (k0 := 21) g (hI 31 (by decide)) zs_31 rfl zf_X9_126 dX9_undo_17 rfl ?_
    refine zr_iconst (q := 21) (v := (1 : Int32)) g dX9_undo_20 rfl (by decide) ?_
    refine zr_isub (q := 22) g dX9_undo_21 rfl ?_
    obtain ⟨h4, e5, hM⟩ := zw_nm_ex hM
    refine zr_puti (q := 25) (k0 := 21) (h' := h4) g (hI 31 (by decide)) zs_31 rfl zp_X9_126 dX9_undo_22 rfl e5 ?_
    refine zr_iconst (q := 26) (v := (0 : Int32)) g dX9_undo_25 rfl (by decide) ?_
    refine zr_istore_n (q := 27) (lv' := [(1, .int (0 : Int32)), (0, .ref (E.2.1 31))]) g dX9_undo_26 rfl rfl (by decide) rfl ?_
    refine zr_lv (lv' := [(0, .ref (E.2.1 31)), (1, .int (0 : Int32))]) [1, 0] rfl ?_
    exact UL_X9_undo_27 ok hI g hr hlk _ _ hM
  · replace hM := zw_ift c3 hM
    refine zr_bipush (q := 14) (v := (-3 : Int32)) g dX9_undo_12 rfl (by decide) ?_
    cases hM
    exact zr_iret g hr hlk dX9_undo_14 rfl rfl
noncomputable def B_X9_begin_2 (k2 : (Int32 × zw_Hp) → Option (zw_Hp)) (x1 : Int32) (h : zw_Hp) : Option (zw_Hp) :=
  if (21 : Int32) ≤ x1 then (some h) else (if zw_ok x1 21 = true then (if zw_ok x1 21 = true then zw_nm (zw_up h 38 (x1).toNatClampNeg (h.1 37 (x1).toNatClampNeg)) (fun h4 => zw_nm (x1 + (1 : Int32)) (fun y6 => k2 (y6, h4))) else none) else none)
set_option maxRecDepth 100000 in
set_option maxHeartbeats 4000000 in
theorem U_X9_begin_2 (ok : zw_Ok E) (hI : ∀ i, i < 48 → i ∈ E.2.2.1) (g : zw_G p E (zw_A E) s m args c RX9 cX9_begin 2) (hr : meth.sig.returnType = none) (hlk : meth.locks = false) {k2 : (Int32 × zw_Hp) → Option (zw_Hp)} (eL2 : ∀ (w : Int32 × zw_Hp) (z : zw_Hp), k2 w = some z → zw_V p l e s m args below meth c E mt_X9_begin 2 none z 2 [(0, .ref (E.2.1 31)), (1, .int w.1)] [] w.2) :
    ∀ (x1 : Int32) (h : zw_Hp) (z : zw_Hp), B_X9_begin_2 k2 x1 h = some z → zw_V p l e s m args below meth c E mt_X9_begin 2 none z 2 [(0, .ref (E.2.1 31)), (1, .int x1)] [] h := by
  intro x1 h z hM
  unfold B_X9_begin_2 at hM
  refine zr_iload_n (q := 3) g 1 dX9_begin_2 rfl rfl rfl ?_
  refine zr_bipush (q := 5) (v := (21 : Int32)) g dX9_begin_3 rfl (by decide) ?_
  refine zr_icmp_ge (q := 8) (tgt := 26) g dX9_begin_5 rfl rfl (fun c1 => ?_) (fun c1 => ?_)
  · replace hM := zw_ift c1 hM
    cases hM
    exact zr_vret g hr hlk dX9_begin_26 rfl rfl
  · replace hM := zw_iff c1 hM
    refine zr_aload_n (q := 9) g 0 dX9_begin_8 rfl rfl rfl ?_
    refine zr_getr (q := 12) (k0 := 19) (j := 38) g (hI 31 (by decide)) zs_31 rfl zf_X9_28 dX9_begin_9 rfl ?_
    refine zr_iload_n (q := 13) g 1 dX9_begin_12 rfl rfl rfl ?_
    refine zr_aload_n (q := 14) g 0 dX9_begin_13 rfl rfl rfl ?_
    refine zr_getr (q := 17) (k0 := 18) (j := 37) g (hI 31 (by decide)) zs_31 rfl zf_X9_25 dX9_begin_14 rfl ?_
    refine zr_iload_n (q := 18) g 1 dX9_begin_17 rfl rfl rfl ?_
    obtain ⟨c2, hM⟩ := zw_gd hM
    refine zr_iald (q := 19) g (hI 37 (by decide)) zs_37 c2 dX9_begin_18 rfl ?_
    obtain ⟨c3, hM⟩ := zw_gd hM
    obtain ⟨h4, e5, hM⟩ := zw_nm_ex hM
    refine zr_iast (q := 20) (h' := h4) g (hI 38 (by decide)) zs_38 c3 dX9_begin_19 rfl e5 ?_
    obtain ⟨y6, e7, hM⟩ := zw_nm_ex hM
    refine zr_iinc (q := 23) (v := y6) (lv' := [(1, .int y6), (0, .ref (E.2.1 31))]) g 1 dX9_begin_20 rfl rfl (by rw [e7]; rfl) (by decide) rfl ?_
    refine zr_goto (tgt := 2) g dX9_begin_23 rfl ?_
    refine zr_lv (lv' := [(0, .ref (E.2.1 31)), (1, .int y6)]) [1, 0] rfl ?_
    exact eL2 _ _ hM
noncomputable def L_X9_begin_2 (w : Int32 × zw_Hp) : Option (zw_Hp) :=
  zw_it (fun (k2 : (Int32 × zw_Hp) → Option (zw_Hp)) (w : Int32 × zw_Hp) => B_X9_begin_2 k2 (w.1) (w.2)) 600 w
theorem UL_X9_begin_2 (ok : zw_Ok E) (hI : ∀ i, i < 48 → i ∈ E.2.2.1) (g : zw_G p E (zw_A E) s m args c RX9 cX9_begin 2) (hr : meth.sig.returnType = none) (hlk : meth.locks = false) :
    ∀ (w : Int32 × zw_Hp) (z : zw_Hp), L_X9_begin_2 w = some z → zw_V p l e s m args below meth c E mt_X9_begin 2 none z 2 [(0, .ref (E.2.1 31)), (1, .int w.1)] [] w.2 :=
  fun w z hM => zw_it_ind (P := fun (w : Int32 × zw_Hp) (z : zw_Hp) => zw_V p l e s m args below meth c E mt_X9_begin 2 none z 2 [(0, .ref (E.2.1 31)), (1, .int w.1)] [] w.2) (fun k e w z hM => U_X9_begin_2 ok hI g hr hlk e _ _ _ hM) 600 w z hM
noncomputable def M_X9_begin (h : zw_Hp) : Option (zw_Hp) :=
  L_X9_begin_2 ((0 : Int32), h)
set_option maxRecDepth 100000 in
set_option maxHeartbeats 4000000 in
theorem R_X9_begin (ok : zw_Ok E) (hI : ∀ i, i < 48 → i ∈ E.2.2.1) {h : zw_Hp} {z : zw_Hp} (hM : M_X9_begin h = some z) : zw_Ct l E mt_X9_begin [.ref (E.2.1 31)] h none z := by
  unfold M_X9_begin at hM
  refine zw_ct (lv0 := [(0, .ref (E.2.1 31))]) ok (by decide) rfl (Nat.le_of_ble_eq_true rfl) (fun p e s m args below meth c g hr hlk => ?_)
  replace g : zw_G p E (zw_A E) s m args c RX9 cX9_begin 2 := g
  show zw_V p l e s m args below meth c E mt_X9_begin 2 none z 0 [(0, .ref (E.2.1 31))] [] h
  refine zr_iconst (q := 1) (v := (0 : Int32)) g dX9_begin_0 rfl (by decide) ?_
  refine zr_istore_n (q := 2) (lv' := [(1, .int (0 : Int32)), (0, .ref (E.2.1 31))]) g dX9_begin_1 rfl rfl (by decide) rfl ?_
  refine zr_lv (lv' := [(0, .ref (E.2.1 31)), (1, .int (0 : Int32))]) [1, 0] rfl ?_
  exact UL_X9_begin_2 ok hI g hr hlk _ _ hM
noncomputable def B_X9_goBeats_2 (k2 : (Int32 × Int32 × Int32 × zw_Hp) → Option (zw_Hp)) (x1 : Int32) (x2 : Int32) (x3 : Int32) (h : zw_Hp) : Option (zw_Hp) :=
  if x1 ≤ x3 then (some h) else ((M_X9_goBeat 38 x2 h).bind (fun z2 => zw_nm (x3 + (1 : Int32)) (fun y4 => k2 (x1, x2, y4, z2.2))))
set_option maxRecDepth 100000 in
set_option maxHeartbeats 4000000 in
theorem U_X9_goBeats_2 (ok : zw_Ok E) (hI : ∀ i, i < 48 → i ∈ E.2.2.1) (g : zw_G p E (zw_A E) s m args c RX9 cX9_goBeats 4) (hr : meth.sig.returnType = none) (hlk : meth.locks = false) {k2 : (Int32 × Int32 × Int32 × zw_Hp) → Option (zw_Hp)} (eL2 : ∀ (w : Int32 × Int32 × Int32 × zw_Hp) (z : zw_Hp), k2 w = some z → zw_V p l e s m args below meth c E mt_X9_goBeats 4 none z 2 [(0, .ref (E.2.1 31)), (1, .int w.1), (2, .int w.2.1), (3, .int w.2.2.1)] [] w.2.2.2) :
    ∀ (x1 : Int32) (x2 : Int32) (x3 : Int32) (h : zw_Hp) (z : zw_Hp), B_X9_goBeats_2 k2 x1 x2 x3 h = some z → zw_V p l e s m args below meth c E mt_X9_goBeats 4 none z 2 [(0, .ref (E.2.1 31)), (1, .int x1), (2, .int x2), (3, .int x3)] [] h := by
  intro x1 x2 x3 h z hM
  unfold B_X9_goBeats_2 at hM
  refine zr_iload_n (q := 3) g 3 dX9_goBeats_2 rfl rfl rfl ?_
  refine zr_iload_n (q := 4) g 1 dX9_goBeats_3 rfl rfl rfl ?_
  refine zr_icmp_ge (q := 7) (tgt := 23) g dX9_goBeats_4 rfl rfl (fun c1 => ?_) (fun c1 => ?_)
  · replace hM := zw_ift c1 hM
    cases hM
    exact zr_vret g hr hlk dX9_goBeats_23 rfl rfl
  · replace hM := zw_iff c1 hM
    refine zr_aload_n (q := 8) g 0 dX9_goBeats_7 rfl rfl rfl ?_
    refine zr_aload_n (q := 9) g 0 dX9_goBeats_8 rfl rfl rfl ?_
    refine zr_getr (q := 12) (k0 := 19) (j := 38) g (hI 31 (by decide)) zs_31 rfl zf_X9_28 dX9_goBeats_9 rfl ?_
    refine zr_iload_n (q := 13) g 2 dX9_goBeats_12 rfl rfl rfl ?_
    obtain ⟨z2, q3, hM⟩ := zw_bd hM
    refine zr_callV (q := 16) (As := [.ref (E.2.1 38), .int x2]) (rest := []) (st' := [.int z2.1]) (i := 31) g (R_X9_goBeat (Or.inr rfl) ok hI q3) zv_X9_goBeat zl_X9_190 (hI 31 (by decide)) zs_31 zc_X9.1 dX9_goBeats_13 rfl rfl ⟨Nat.le_of_ble_eq_true rfl, Nat.le_of_ble_eq_true rfl⟩ ⟨Nat.zero_le _, Nat.zero_le _⟩ (Nat.le_of_ble_eq_true rfl) rfl rfl ?_
    refine zr_pop (q := 17) g dX9_goBeats_16 rfl rfl ?_
    obtain ⟨y4, e5, hM⟩ := zw_nm_ex hM
    refine zr_iinc (q := 20) (v := y4) (lv' := [(3, .int y4), (0, .ref (E.2.1 31)), (1, .int x1), (2, .int x2)]) g 3 dX9_goBeats_17 rfl rfl (by rw [e5]; rfl) (by decide) rfl ?_
    refine zr_goto (tgt := 2) g dX9_goBeats_20 rfl ?_
    refine zr_lv (lv' := [(0, .ref (E.2.1 31)), (1, .int x1), (2, .int x2), (3, .int y4)]) [1, 2, 3, 0] rfl ?_
    exact eL2 _ _ hM
noncomputable def L_X9_goBeats_2 (w : Int32 × Int32 × Int32 × zw_Hp) : Option (zw_Hp) :=
  zw_it (fun (k2 : (Int32 × Int32 × Int32 × zw_Hp) → Option (zw_Hp)) (w : Int32 × Int32 × Int32 × zw_Hp) => B_X9_goBeats_2 k2 (w.1) (w.2.1) (w.2.2.1) (w.2.2.2)) 600 w
theorem UL_X9_goBeats_2 (ok : zw_Ok E) (hI : ∀ i, i < 48 → i ∈ E.2.2.1) (g : zw_G p E (zw_A E) s m args c RX9 cX9_goBeats 4) (hr : meth.sig.returnType = none) (hlk : meth.locks = false) :
    ∀ (w : Int32 × Int32 × Int32 × zw_Hp) (z : zw_Hp), L_X9_goBeats_2 w = some z → zw_V p l e s m args below meth c E mt_X9_goBeats 4 none z 2 [(0, .ref (E.2.1 31)), (1, .int w.1), (2, .int w.2.1), (3, .int w.2.2.1)] [] w.2.2.2 :=
  fun w z hM => zw_it_ind (P := fun (w : Int32 × Int32 × Int32 × zw_Hp) (z : zw_Hp) => zw_V p l e s m args below meth c E mt_X9_goBeats 4 none z 2 [(0, .ref (E.2.1 31)), (1, .int w.1), (2, .int w.2.1), (3, .int w.2.2.1)] [] w.2.2.2) (fun k e w z hM => U_X9_goBeats_2 ok hI g hr hlk e _ _ _ _ _ hM) 600 w z hM
noncomputable def M_X9_goBeats (x1 : Int32) (x2 : Int32) (h : zw_Hp) : Option (zw_Hp) :=
  L_X9_goBeats_2 (x1, x2, (0 : Int32), h)
set_option maxRecDepth 100000 in
set_option maxHeartbeats 4000000 in
theorem R_X9_goBeats (ok : zw_Ok E) (hI : ∀ i, i < 48 → i ∈ E.2.2.1) {x1 : Int32} {x2 : Int32} {h : zw_Hp} {z : zw_Hp} (hM : M_X9_goBeats x1 x2 h = some z) : zw_Ct l E mt_X9_goBeats [.ref (E.2.1 31), .int x1, .int x2] h none z := by
  unfold M_X9_goBeats at hM
  refine zw_ct (lv0 := [(0, .ref (E.2.1 31)), (1, .int x1), (2, .int x2)]) ok (by decide) rfl (Nat.le_of_ble_eq_true rfl) (fun p e s m args below meth c g hr hlk => ?_)
  replace g : zw_G p E (zw_A E) s m args c RX9 cX9_goBeats 4 := g
  show zw_V p l e s m args below meth c E mt_X9_goBeats 4 none z 0 [(0, .ref (E.2.1 31)), (1, .int x1), (2, .int x2)] [] h
  refine zr_iconst (q := 1) (v := (0 : Int32)) g dX9_goBeats_0 rfl (by decide) ?_
  refine zr_istore_n (q := 2) (lv' := [(3, .int (0 : Int32)), (0, .ref (E.2.1 31)), (1, .int x1), (2, .int x2)]) g dX9_goBeats_1 rfl rfl (by decide) rfl ?_
  refine zr_lv (lv' := [(0, .ref (E.2.1 31)), (1, .int x1), (2, .int x2), (3, .int (0 : Int32))]) [1, 2, 3, 0] rfl ?_
  exact UL_X9_goBeats_2 ok hI g hr hlk _ _ hM
noncomputable def B_X9_later_56 (s0 : Int32) (h : zw_Hp) : Option (Int32 × zw_Hp) :=
  if zw_ok s0 21 = true then (some ((h.1 38 (s0).toNatClampNeg), h)) else none
set_option maxRecDepth 100000 in
set_option maxHeartbeats 4000000 in
theorem U_X9_later_56 (ok : zw_Ok E) (hI : ∀ i, i < 48 → i ∈ E.2.2.1) (g : zw_G p E (zw_A E) s m args c RX9 cX9_later 3) (hr : meth.sig.returnType = some .int) (hlk : meth.locks = false) :
    ∀ (s0 : Int32) (h : zw_Hp) (z : Int32 × zw_Hp), B_X9_later_56 s0 h = some z → zw_V p l e s m args below meth c E mt_X9_later 3 (some (.int z.1)) z.2 56 [] [.int s0, .ref (E.2.1 38)] h := by
  intro s0 h z hM
  unfold B_X9_later_56 at hM
  obtain ⟨c14, hM⟩ := zw_gd hM
  refine zr_iald (q := 57) g (hI 38 (by decide)) zs_38 c14 dX9_later_56 rfl ?_
  cases hM
  exact zr_iret g hr hlk dX9_later_57 rfl rfl
noncomputable def M_X9_later (x1 : Int32) (x2 : Int32) (h : zw_Hp) : Option (Int32 × zw_Hp) :=
  zw_nm (zw_up h 31 0 (0 : Int32)) (fun h1 => (M_X9_in (x1).toInt64 (0 : Int64) (40 : Int64) h1).bind (fun z3 => if z3 = 0 then (some ((-2 : Int32), h1)) else ((M_X9_in (x2).toInt64 (0 : Int64) (1 : Int64) h1).bind (fun z6 => if z6 = 0 then (some ((-2 : Int32), h1)) else ((M_X9_begin h1).bind (fun z9 => (M_X9_goBeats x1 (31 : Int32) z9).bind (fun z11 => if x2 = 0 then (B_X9_later_56 (18 : Int32) z11) else (B_X9_later_56 (19 : Int32) z11))))))))
set_option maxRecDepth 100000 in
set_option maxHeartbeats 4000000 in
theorem R_X9_later (ok : zw_Ok E) (hI : ∀ i, i < 48 → i ∈ E.2.2.1) {x1 : Int32} {x2 : Int32} {h : zw_Hp} {z : Int32 × zw_Hp} (hM : M_X9_later x1 x2 h = some z) : zw_Ct l E mt_X9_later [.ref (E.2.1 31), .int x1, .int x2] h (some (.int z.1)) z.2 := by
  unfold M_X9_later at hM
  refine zw_ct (lv0 := [(0, .ref (E.2.1 31)), (1, .int x1), (2, .int x2)]) ok (by decide) rfl (Nat.le_of_ble_eq_true rfl) (fun p e s m args below meth c g hr hlk => ?_)
  replace g : zw_G p E (zw_A E) s m args c RX9 cX9_later 3 := g
  show zw_V p l e s m args below meth c E mt_X9_later 3 (some (.int z.1)) z.2 0 [(0, .ref (E.2.1 31)), (1, .int x1), (2, .int x2)] [] h
  refine zr_aload_n (q := 1) g 0 dX9_later_0 rfl rfl rfl ?_
  refine zr_iconst (q := 2) (v := (0 : Int32)) g dX9_later_1 rfl (by decide) ?_
  obtain ⟨h1, e2, hM⟩ := zw_nm_ex hM
  refine zr_puti (q := 5) (k0 := 0) (h' := h1) g (hI 31 (by decide)) zs_31 rfl zp_X9_59 dX9_later_2 rfl e2 ?_
  refine zr_iload_n (q := 6) g 1 dX9_later_5 rfl rfl rfl ?_
  refine zr_i2l (q := 7) g dX9_later_6 rfl ?_
  refine zr_lconst (q := 8) (v := (0 : Int64)) g dX9_later_7 rfl (by decide) ?_
  refine zr_ldc2 (q := 11) (v := (40 : Int64)) g dX9_later_8 rfl zk_X9_200 ?_
  obtain ⟨z3, q4, hM⟩ := zw_bd hM
  refine zr_callS (q := 14) (As := [.long (x1).toInt64, .long (0 : Int64), .long (40 : Int64)]) (rest := []) (st' := [.int z3]) g (R_X9_in ok hI q4) zv_X9_in zl_X9_66 dX9_later_11 rfl rfl ⟨Nat.le_of_ble_eq_true rfl, Nat.le_of_ble_eq_true rfl⟩ ⟨Nat.zero_le _, Nat.zero_le _⟩ (Nat.le_of_ble_eq_true rfl) rfl rfl ?_
  refine zr_if_eq (q := 17) (tgt := 27) g dX9_later_14 rfl rfl (fun c5 => ?_) (fun c5 => ?_)
  · replace hM := zw_ift c5 hM
    refine zr_bipush (q := 29) (v := (-2 : Int32)) g dX9_later_27 rfl (by decide) ?_
    cases hM
    exact zr_iret g hr hlk dX9_later_29 rfl rfl
  · replace hM := zw_iff c5 hM
    refine zr_iload_n (q := 18) g 2 dX9_later_17 rfl rfl rfl ?_
    refine zr_i2l (q := 19) g dX9_later_18 rfl ?_
    refine zr_lconst (q := 20) (v := (0 : Int64)) g dX9_later_19 rfl (by decide) ?_
    refine zr_lconst (q := 21) (v := (1 : Int64)) g dX9_later_20 rfl (by decide) ?_
    obtain ⟨z6, q7, hM⟩ := zw_bd hM
    refine zr_callS (q := 24) (As := [.long (x2).toInt64, .long (0 : Int64), .long (1 : Int64)]) (rest := []) (st' := [.int z6]) g (R_X9_in ok hI q7) zv_X9_in zl_X9_66 dX9_later_21 rfl rfl ⟨Nat.le_of_ble_eq_true rfl, Nat.le_of_ble_eq_true rfl⟩ ⟨Nat.zero_le _, Nat.zero_le _⟩ (Nat.le_of_ble_eq_true rfl) rfl rfl ?_
    refine zr_if_ne (q := 27) (tgt := 30) g dX9_later_24 rfl rfl (fun c8 => ?_) (fun c8 => ?_)
    · replace hM := zw_iff c8 hM
      refine zr_aload_n (q := 31) g 0 dX9_later_30 rfl rfl rfl ?_
      obtain ⟨z9, q10, hM⟩ := zw_bd hM
      refine zr_callV (q := 34) (As := []) (rest := []) (st' := []) (i := 31) g (R_X9_begin ok hI q10) zv_X9_begin zl_X9_202 (hI 31 (by decide)) zs_31 zc_X9.1 dX9_later_31 rfl rfl ⟨Nat.le_of_ble_eq_true rfl, Nat.le_of_ble_eq_true rfl⟩ ⟨Nat.zero_le _, Nat.zero_le _⟩ (Nat.le_of_ble_eq_true rfl) rfl rfl ?_
      refine zr_aload_n (q := 35) g 0 dX9_later_34 rfl rfl rfl ?_
      refine zr_iload_n (q := 36) g 1 dX9_later_35 rfl rfl rfl ?_
      refine zr_bipush (q := 38) (v := (31 : Int32)) g dX9_later_36 rfl (by decide) ?_
      obtain ⟨z11, q12, hM⟩ := zw_bd hM
      refine zr_callV (q := 41) (As := [.int x1, .int (31 : Int32)]) (rest := []) (st' := []) (i := 31) g (R_X9_goBeats ok hI q12) zv_X9_goBeats zl_X9_205 (hI 31 (by decide)) zs_31 zc_X9.1 dX9_later_38 rfl rfl ⟨Nat.le_of_ble_eq_true rfl, Nat.le_of_ble_eq_true rfl⟩ ⟨Nat.zero_le _, Nat.zero_le _⟩ (Nat.le_of_ble_eq_true rfl) rfl rfl ?_
      refine zr_aload_n (q := 42) g 0 dX9_later_41 rfl rfl rfl ?_
      refine zr_getr (q := 45) (k0 := 19) (j := 38) g (hI 31 (by decide)) zs_31 rfl zf_X9_28 dX9_later_42 rfl ?_
      refine zr_iload_n (q := 46) g 2 dX9_later_45 rfl rfl rfl ?_
      refine zr_if_ne (q := 49) (tgt := 54) g dX9_later_46 rfl rfl (fun c13 => ?_) (fun c13 => ?_)
      · replace hM := zw_iff c13 hM
        refine zr_bipush (q := 56) (v := (19 : Int32)) g dX9_later_54 rfl (by decide) ?_
        refine zr_lv (lv' := []) [] rfl ?_
        exact U_X9_later_56 ok hI g hr hlk _ _ _ hM
      · replace hM := zw_ift c13 hM
        refine zr_bipush (q := 51) (v := (18 : Int32)) g dX9_later_49 rfl (by decide) ?_
        refine zr_goto (tgt := 56) g dX9_later_51 rfl ?_
        refine zr_lv (lv' := []) [] rfl ?_
        exact U_X9_later_56 ok hI g hr hlk _ _ _ hM
    · replace hM := zw_ift c8 hM
      refine zr_bipush (q := 29) (v := (-2 : Int32)) g dX9_later_27 rfl (by decide) ?_
      cases hM
      exact zr_iret g hr hlk dX9_later_29 rfl rfl
noncomputable def B_X9_out_11 (k11 : (Int32 × zw_Hp) → Option (Int32 × zw_Hp)) (x1 : Int32) (h : zw_Hp) : Option (Int32 × zw_Hp) :=
  if (60 : Int32) < x1 then (some ((-9 : Int32), h)) else (if zw_ok (18 : Int32) 21 = true then (if (h.1 38 ((18 : Int32)).toNatClampNeg) = 0 then (some (x1, h)) else ((M_X9_goBeat 38 (31 : Int32) h).bind (fun z8 => zw_nm (x1 + (1 : Int32)) (fun y10 => k11 (y10, z8.2))))) else none)
set_option maxRecDepth 100000 in
set_option maxHeartbeats 4000000 in
theorem U_X9_out_11 (ok : zw_Ok E) (hI : ∀ i, i < 48 → i ∈ E.2.2.1) (g : zw_G p E (zw_A E) s m args c RX9 cX9_out 2) (hr : meth.sig.returnType = some .int) (hlk : meth.locks = false) {k11 : (Int32 × zw_Hp) → Option (Int32 × zw_Hp)} (eL11 : ∀ (w : Int32 × zw_Hp) (z : Int32 × zw_Hp), k11 w = some z → zw_V p l e s m args below meth c E mt_X9_out 2 (some (.int z.1)) z.2 11 [(0, .ref (E.2.1 31)), (1, .int w.1)] [] w.2) :
    ∀ (x1 : Int32) (h : zw_Hp) (z : Int32 × zw_Hp), B_X9_out_11 k11 x1 h = some z → zw_V p l e s m args below meth c E mt_X9_out 2 (some (.int z.1)) z.2 11 [(0, .ref (E.2.1 31)), (1, .int x1)] [] h := by
  intro x1 h z hM
  unfold B_X9_out_11 at hM
  refine zr_iload_n (q := 12) g 1 dX9_out_11 rfl rfl rfl ?_
  refine zr_bipush (q := 14) (v := (60 : Int32)) g dX9_out_12 rfl (by decide) ?_
  refine zr_icmp_gt (q := 17) (tgt := 46) g dX9_out_14 rfl rfl (fun c5 => ?_) (fun c5 => ?_)
  · replace hM := zw_ift c5 hM
    refine zr_bipush (q := 48) (v := (-9 : Int32)) g dX9_out_46 rfl (by decide) ?_
    cases hM
    exact zr_iret g hr hlk dX9_out_48 rfl rfl
  · replace hM := zw_iff c5 hM
    refine zr_aload_n (q := 18) g 0 dX9_out_17 rfl rfl rfl ?_
    refine zr_getr (q := 21) (k0 := 19) (j := 38) g (hI 31 (by decide)) zs_31 rfl zf_X9_28 dX9_out_18 rfl ?_
    refine zr_bipush (q := 23) (v := (18 : Int32)) g dX9_out_21 rfl (by decide) ?_
    obtain ⟨c6, hM⟩ := zw_gd hM
    refine zr_iald (q := 24) g (hI 38 (by decide)) zs_38 c6 dX9_out_23 rfl ?_
    refine zr_if_ne (q := 27) (tgt := 29) g dX9_out_24 rfl rfl (fun c7 => ?_) (fun c7 => ?_)
    · replace hM := zw_iff c7 hM
      refine zr_aload_n (q := 30) g 0 dX9_out_29 rfl rfl rfl ?_
      refine zr_aload_n (q := 31) g 0 dX9_out_30 rfl rfl rfl ?_
      refine zr_getr (q := 34) (k0 := 19) (j := 38) g (hI 31 (by decide)) zs_31 rfl zf_X9_28 dX9_out_31 rfl ?_
      refine zr_bipush (q := 36) (v := (31 : Int32)) g dX9_out_34 rfl (by decide) ?_
      obtain ⟨z8, q9, hM⟩ := zw_bd hM
      refine zr_callV (q := 39) (As := [.ref (E.2.1 38), .int (31 : Int32)]) (rest := []) (st' := [.int z8.1]) (i := 31) g (R_X9_goBeat (Or.inr rfl) ok hI q9) zv_X9_goBeat zl_X9_190 (hI 31 (by decide)) zs_31 zc_X9.1 dX9_out_36 rfl rfl ⟨Nat.le_of_ble_eq_true rfl, Nat.le_of_ble_eq_true rfl⟩ ⟨Nat.zero_le _, Nat.zero_le _⟩ (Nat.le_of_ble_eq_true rfl) rfl rfl ?_
      refine zr_pop (q := 40) g dX9_out_39 rfl rfl ?_
      obtain ⟨y10, e11, hM⟩ := zw_nm_ex hM
      refine zr_iinc (q := 43) (v := y10) (lv' := [(1, .int y10), (0, .ref (E.2.1 31))]) g 1 dX9_out_40 rfl rfl (by rw [e11]; rfl) (by decide) rfl ?_
      refine zr_goto (tgt := 11) g dX9_out_43 rfl ?_
      refine zr_lv (lv' := [(0, .ref (E.2.1 31)), (1, .int y10)]) [1, 0] rfl ?_
      exact eL11 _ _ hM
    · replace hM := zw_ift c7 hM
      refine zr_iload_n (q := 28) g 1 dX9_out_27 rfl rfl rfl ?_
      cases hM
      exact zr_iret g hr hlk dX9_out_28 rfl rfl
noncomputable def L_X9_out_11 (w : Int32 × zw_Hp) : Option (Int32 × zw_Hp) :=
  zw_it (fun (k11 : (Int32 × zw_Hp) → Option (Int32 × zw_Hp)) (w : Int32 × zw_Hp) => B_X9_out_11 k11 (w.1) (w.2)) 600 w
theorem UL_X9_out_11 (ok : zw_Ok E) (hI : ∀ i, i < 48 → i ∈ E.2.2.1) (g : zw_G p E (zw_A E) s m args c RX9 cX9_out 2) (hr : meth.sig.returnType = some .int) (hlk : meth.locks = false) :
    ∀ (w : Int32 × zw_Hp) (z : Int32 × zw_Hp), L_X9_out_11 w = some z → zw_V p l e s m args below meth c E mt_X9_out 2 (some (.int z.1)) z.2 11 [(0, .ref (E.2.1 31)), (1, .int w.1)] [] w.2 :=
  fun w z hM => zw_it_ind (P := fun (w : Int32 × zw_Hp) (z : Int32 × zw_Hp) => zw_V p l e s m args below meth c E mt_X9_out 2 (some (.int z.1)) z.2 11 [(0, .ref (E.2.1 31)), (1, .int w.1)] [] w.2) (fun k e w z hM => U_X9_out_11 ok hI g hr hlk e _ _ _ hM) 600 w z hM
noncomputable def M_X9_out (h : zw_Hp) : Option (Int32 × zw_Hp) :=
  zw_nm (zw_up h 31 0 (0 : Int32)) (fun h1 => (M_X9_begin h1).bind (fun z3 => L_X9_out_11 ((0 : Int32), z3)))
set_option maxRecDepth 100000 in
set_option maxHeartbeats 4000000 in
theorem R_X9_out (ok : zw_Ok E) (hI : ∀ i, i < 48 → i ∈ E.2.2.1) {h : zw_Hp} {z : Int32 × zw_Hp} (hM : M_X9_out h = some z) : zw_Ct l E mt_X9_out [.ref (E.2.1 31)] h (some (.int z.1)) z.2 := by
  unfold M_X9_out at hM
  refine zw_ct (lv0 := [(0, .ref (E.2.1 31))]) ok (by decide) rfl (Nat.le_of_ble_eq_true rfl) (fun p e s m args below meth c g hr hlk => ?_)
  replace g : zw_G p E (zw_A E) s m args c RX9 cX9_out 2 := g
  show zw_V p l e s m args below meth c E mt_X9_out 2 (some (.int z.1)) z.2 0 [(0, .ref (E.2.1 31))] [] h
  refine zr_aload_n (q := 1) g 0 dX9_out_0 rfl rfl rfl ?_
  refine zr_iconst (q := 2) (v := (0 : Int32)) g dX9_out_1 rfl (by decide) ?_
  obtain ⟨h1, e2, hM⟩ := zw_nm_ex hM
  refine zr_puti (q := 5) (k0 := 0) (h' := h1) g (hI 31 (by decide)) zs_31 rfl zp_X9_59 dX9_out_2 rfl e2 ?_
  refine zr_aload_n (q := 6) g 0 dX9_out_5 rfl rfl rfl ?_
  obtain ⟨z3, q4, hM⟩ := zw_bd hM
  refine zr_callV (q := 9) (As := []) (rest := []) (st' := []) (i := 31) g (R_X9_begin ok hI q4) zv_X9_begin zl_X9_202 (hI 31 (by decide)) zs_31 zc_X9.1 dX9_out_6 rfl rfl ⟨Nat.le_of_ble_eq_true rfl, Nat.le_of_ble_eq_true rfl⟩ ⟨Nat.zero_le _, Nat.zero_le _⟩ (Nat.le_of_ble_eq_true rfl) rfl rfl ?_
  refine zr_iconst (q := 10) (v := (0 : Int32)) g dX9_out_9 rfl (by decide) ?_
  refine zr_istore_n (q := 11) (lv' := [(1, .int (0 : Int32)), (0, .ref (E.2.1 31))]) g dX9_out_10 rfl rfl (by decide) rfl ?_
  refine zr_lv (lv' := [(0, .ref (E.2.1 31)), (1, .int (0 : Int32))]) [1, 0] rfl ?_
  exact UL_X9_out_11 ok hI g hr hlk _ _ hM
noncomputable def B_X9_swap_140 (k60 : (Int32 × Int32 × Int32 × zw_Hp) → Option (Int32 × zw_Hp)) (k73 : (Int32 × Int32 × Int32 × Int32 × zw_Hp) → Option (Int32 × zw_Hp)) (x1 : Int32) (x2 : Int32) (x3 : Int32) (x4 : Int32) (h : zw_Hp) : Option (Int32 × zw_Hp) :=
  zw_nm (x4 + (1 : Int32)) (fun y38 => k73 (x1, x2, x3, y38, h))
set_option maxRecDepth 100000 in
set_option maxHeartbeats 4000000 in
theorem U_X9_swap_140 (ok : zw_Ok E) (hI : ∀ i, i < 48 → i ∈ E.2.2.1) (g : zw_G p E (zw_A E) s m args c RX9 cX9_swap 5) (hr : meth.sig.returnType = some .int) (hlk : meth.locks = false) {k60 : (Int32 × Int32 × Int32 × zw_Hp) → Option (Int32 × zw_Hp)} (eL60 : ∀ (w : Int32 × Int32 × Int32 × zw_Hp) (z : Int32 × zw_Hp), k60 w = some z → zw_V p l e s m args below meth c E mt_X9_swap 5 (some (.int z.1)) z.2 60 [(0, .ref (E.2.1 31)), (1, .int w.1), (2, .int w.2.1), (3, .int w.2.2.1)] [] w.2.2.2) {k73 : (Int32 × Int32 × Int32 × Int32 × zw_Hp) → Option (Int32 × zw_Hp)} (eL73 : ∀ (w : Int32 × Int32 × Int32 × Int32 × zw_Hp) (z : Int32 × zw_Hp), k73 w = some z → zw_V p l e s m args below meth c E mt_X9_swap 5 (some (.int z.1)) z.2 73 [(0, .ref (E.2.1 31)), (1, .int w.1), (2, .int w.2.1), (3, .int w.2.2.1), (4, .int w.2.2.2.1)] [] w.2.2.2.2) :
    ∀ (x1 : Int32) (x2 : Int32) (x3 : Int32) (x4 : Int32) (h : zw_Hp) (z : Int32 × zw_Hp), B_X9_swap_140 k60 k73 x1 x2 x3 x4 h = some z → zw_V p l e s m args below meth c E mt_X9_swap 5 (some (.int z.1)) z.2 140 [(0, .ref (E.2.1 31)), (1, .int x1), (2, .int x2), (3, .int x3), (4, .int x4)] [] h := by
  intro x1 x2 x3 x4 h z hM
  unfold B_X9_swap_140 at hM
  obtain ⟨y38, e39, hM⟩ := zw_nm_ex hM
  refine zr_iinc (q := 143) (v := y38) (lv' := [(4, .int y38), (0, .ref (E.2.1 31)), (1, .int x1), (2, .int x2), (3, .int x3)]) g 4 dX9_swap_140 rfl rfl (by rw [e39]; rfl) (by decide) rfl ?_
  refine zr_goto (tgt := 73) g dX9_swap_143 rfl ?_
  refine zr_lv (lv' := [(0, .ref (E.2.1 31)), (1, .int x1), (2, .int x2), (3, .int x3), (4, .int y38)]) [1, 2, 3, 4, 0] rfl ?_
  exact eL73 _ _ hM
noncomputable def B_X9_swap_73 (k60 : (Int32 × Int32 × Int32 × zw_Hp) → Option (Int32 × zw_Hp)) (k73 : (Int32 × Int32 × Int32 × Int32 × zw_Hp) → Option (Int32 × zw_Hp)) (x1 : Int32) (x2 : Int32) (x3 : Int32) (x4 : Int32) (h : zw_Hp) : Option (Int32 × zw_Hp) :=
  if (h.1 31 6) ≤ x4 then (zw_nm (x3 + (1 : Int32)) (fun y23 => k60 (x1, x2, y23, h))) else ((M_X9_begin h).bind (fun z25 => (M_X9_goChange 38 x3 x4 z25).bind (fun z27 => (M_X9_goBeats x1 (31 : Int32) z27).bind (fun z29 => if zw_ok (19 : Int32) 21 = true then (if (z29.1 38 ((19 : Int32)).toNatClampNeg) ≤ (z29.1 31 29) then (B_X9_swap_140 k60 k73 x1 x2 x3 x4 z29) else (if zw_ok (19 : Int32) 21 = true then (zw_nm (zw_up z29 31 29 (z29.1 38 ((19 : Int32)).toNatClampNeg)) (fun h34 => zw_nm (zw_up h34 31 30 (((10 : Int32) * x3) + x4)) (fun h36 => B_X9_swap_140 k60 k73 x1 x2 x3 x4 h36))) else none)) else none))))
set_option maxRecDepth 100000 in
set_option maxHeartbeats 4000000 in
theorem U_X9_swap_73 (ok : zw_Ok E) (hI : ∀ i, i < 48 → i ∈ E.2.2.1) (g : zw_G p E (zw_A E) s m args c RX9 cX9_swap 5) (hr : meth.sig.returnType = some .int) (hlk : meth.locks = false) {k60 : (Int32 × Int32 × Int32 × zw_Hp) → Option (Int32 × zw_Hp)} (eL60 : ∀ (w : Int32 × Int32 × Int32 × zw_Hp) (z : Int32 × zw_Hp), k60 w = some z → zw_V p l e s m args below meth c E mt_X9_swap 5 (some (.int z.1)) z.2 60 [(0, .ref (E.2.1 31)), (1, .int w.1), (2, .int w.2.1), (3, .int w.2.2.1)] [] w.2.2.2) {k73 : (Int32 × Int32 × Int32 × Int32 × zw_Hp) → Option (Int32 × zw_Hp)} (eL73 : ∀ (w : Int32 × Int32 × Int32 × Int32 × zw_Hp) (z : Int32 × zw_Hp), k73 w = some z → zw_V p l e s m args below meth c E mt_X9_swap 5 (some (.int z.1)) z.2 73 [(0, .ref (E.2.1 31)), (1, .int w.1), (2, .int w.2.1), (3, .int w.2.2.1), (4, .int w.2.2.2.1)] [] w.2.2.2.2) :
    ∀ (x1 : Int32) (x2 : Int32) (x3 : Int32) (x4 : Int32) (h : zw_Hp) (z : Int32 × zw_Hp), B_X9_swap_73 k60 k73 x1 x2 x3 x4 h = some z → zw_V p l e s m args below meth c E mt_X9_swap 5 (some (.int z.1)) z.2 73 [(0, .ref (E.2.1 31)), (1, .int x1), (2, .int x2), (3, .int x3), (4, .int x4)] [] h := by
  intro x1 x2 x3 x4 h z hM
  unfold B_X9_swap_73 at hM
  refine zr_iload (q := 75) g 4 dX9_swap_73 rfl rfl ?_
  refine zr_aload_n (q := 76) g 0 dX9_swap_75 rfl rfl rfl ?_
  refine zr_geti (q := 79) (k0 := 6) g (hI 31 (by decide)) zs_31 rfl zf_X9_63 dX9_swap_76 rfl ?_
  refine zr_icmp_ge (q := 82) (tgt := 146) g dX9_swap_79 rfl rfl (fun c22 => ?_) (fun c22 => ?_)
  · replace hM := zw_ift c22 hM
    obtain ⟨y23, e24, hM⟩ := zw_nm_ex hM
    refine zr_iinc (q := 149) (v := y23) (lv' := [(3, .int y23), (0, .ref (E.2.1 31)), (1, .int x1), (2, .int x2), (4, .int x4)]) g 3 dX9_swap_146 rfl rfl (by rw [e24]; rfl) (by decide) rfl ?_
    refine zr_goto (tgt := 60) g dX9_swap_149 rfl ?_
    refine zr_lv (lv' := [(0, .ref (E.2.1 31)), (1, .int x1), (2, .int x2), (3, .int y23)]) [1, 2, 3, 0] rfl ?_
    exact eL60 _ _ hM
  · replace hM := zw_iff c22 hM
    refine zr_aload_n (q := 83) g 0 dX9_swap_82 rfl rfl rfl ?_
    obtain ⟨z25, q26, hM⟩ := zw_bd hM
    refine zr_callV (q := 86) (As := []) (rest := []) (st' := []) (i := 31) g (R_X9_begin ok hI q26) zv_X9_begin zl_X9_202 (hI 31 (by decide)) zs_31 zc_X9.1 dX9_swap_83 rfl rfl ⟨Nat.le_of_ble_eq_true rfl, Nat.le_of_ble_eq_true rfl⟩ ⟨Nat.zero_le _, Nat.zero_le _⟩ (Nat.le_of_ble_eq_true rfl) rfl rfl ?_
    refine zr_aload_n (q := 87) g 0 dX9_swap_86 rfl rfl rfl ?_
    refine zr_aload_n (q := 88) g 0 dX9_swap_87 rfl rfl rfl ?_
    refine zr_getr (q := 91) (k0 := 19) (j := 38) g (hI 31 (by decide)) zs_31 rfl zf_X9_28 dX9_swap_88 rfl ?_
    refine zr_iload_n (q := 92) g 3 dX9_swap_91 rfl rfl rfl ?_
    refine zr_iload (q := 94) g 4 dX9_swap_92 rfl rfl ?_
    obtain ⟨z27, q28, hM⟩ := zw_bd hM
    refine zr_callV (q := 97) (As := [.ref (E.2.1 38), .int x3, .int x4]) (rest := []) (st' := []) (i := 31) g (R_X9_goChange (Or.inr rfl) ok hI q28) zv_X9_goChange zl_X9_193 (hI 31 (by decide)) zs_31 zc_X9.1 dX9_swap_94 rfl rfl ⟨Nat.le_of_ble_eq_true rfl, Nat.le_of_ble_eq_true rfl⟩ ⟨Nat.zero_le _, Nat.zero_le _⟩ (Nat.le_of_ble_eq_true rfl) rfl rfl ?_
    refine zr_aload_n (q := 98) g 0 dX9_swap_97 rfl rfl rfl ?_
    refine zr_iload_n (q := 99) g 1 dX9_swap_98 rfl rfl rfl ?_
    refine zr_bipush (q := 101) (v := (31 : Int32)) g dX9_swap_99 rfl (by decide) ?_
    obtain ⟨z29, q30, hM⟩ := zw_bd hM
    refine zr_callV (q := 104) (As := [.int x1, .int (31 : Int32)]) (rest := []) (st' := []) (i := 31) g (R_X9_goBeats ok hI q30) zv_X9_goBeats zl_X9_205 (hI 31 (by decide)) zs_31 zc_X9.1 dX9_swap_101 rfl rfl ⟨Nat.le_of_ble_eq_true rfl, Nat.le_of_ble_eq_true rfl⟩ ⟨Nat.zero_le _, Nat.zero_le _⟩ (Nat.le_of_ble_eq_true rfl) rfl rfl ?_
    refine zr_aload_n (q := 105) g 0 dX9_swap_104 rfl rfl rfl ?_
    refine zr_getr (q := 108) (k0 := 19) (j := 38) g (hI 31 (by decide)) zs_31 rfl zf_X9_28 dX9_swap_105 rfl ?_
    refine zr_bipush (q := 110) (v := (19 : Int32)) g dX9_swap_108 rfl (by decide) ?_
    obtain ⟨c31, hM⟩ := zw_gd hM
    refine zr_iald (q := 111) g (hI 38 (by decide)) zs_38 c31 dX9_swap_110 rfl ?_
    refine zr_aload_n (q := 112) g 0 dX9_swap_111 rfl rfl rfl ?_
    refine zr_geti (q := 115) (k0 := 29) g (hI 31 (by decide)) zs_31 rfl zf_X9_211 dX9_swap_112 rfl ?_
    refine zr_icmp_le (q := 118) (tgt := 140) g dX9_swap_115 rfl rfl (fun c32 => ?_) (fun c32 => ?_)
    · replace hM := zw_ift c32 hM
      exact U_X9_swap_140 ok hI g hr hlk eL60 eL73 _ _ _ _ _ _ hM
    · replace hM := zw_iff c32 hM
      refine zr_aload_n (q := 119) g 0 dX9_swap_118 rfl rfl rfl ?_
      refine zr_aload_n (q := 120) g 0 dX9_swap_119 rfl rfl rfl ?_
      refine zr_getr (q := 123) (k0 := 19) (j := 38) g (hI 31 (by decide)) zs_31 rfl zf_X9_28 dX9_swap_120 rfl ?_
      refine zr_bipush (q := 125) (v := (19 : Int32)) g dX9_swap_123 rfl (by decide) ?_
      obtain ⟨c33, hM⟩ := zw_gd hM
      refine zr_iald (q := 126) g (hI 38 (by decide)) zs_38 c33 dX9_swap_125 rfl ?_
      obtain ⟨h34, e35, hM⟩ := zw_nm_ex hM
      refine zr_puti (q := 129) (k0 := 29) (h' := h34) g (hI 31 (by decide)) zs_31 rfl zp_X9_211 dX9_swap_126 rfl e35 ?_
      refine zr_aload_n (q := 130) g 0 dX9_swap_129 rfl rfl rfl ?_
      refine zr_bipush (q := 132) (v := (10 : Int32)) g dX9_swap_130 rfl (by decide) ?_
      refine zr_iload_n (q := 133) g 3 dX9_swap_132 rfl rfl rfl ?_
      refine zr_imul (q := 134) g dX9_swap_133 rfl ?_
      refine zr_iload (q := 136) g 4 dX9_swap_134 rfl rfl ?_
      refine zr_iadd (q := 137) g dX9_swap_136 rfl ?_
      obtain ⟨h36, e37, hM⟩ := zw_nm_ex hM
      refine zr_puti (q := 140) (k0 := 30) (h' := h36) g (hI 31 (by decide)) zs_31 rfl zp_X9_214 dX9_swap_137 rfl e37 ?_
      exact U_X9_swap_140 ok hI g hr hlk eL60 eL73 _ _ _ _ _ _ hM
noncomputable def L_X9_swap_73 (k60 : (Int32 × Int32 × Int32 × zw_Hp) → Option (Int32 × zw_Hp)) (w : Int32 × Int32 × Int32 × Int32 × zw_Hp) : Option (Int32 × zw_Hp) :=
  zw_it (fun (k73 : (Int32 × Int32 × Int32 × Int32 × zw_Hp) → Option (Int32 × zw_Hp)) (w : Int32 × Int32 × Int32 × Int32 × zw_Hp) => B_X9_swap_73 k60 k73 (w.1) (w.2.1) (w.2.2.1) (w.2.2.2.1) (w.2.2.2.2)) 600 w
theorem UL_X9_swap_73 (ok : zw_Ok E) (hI : ∀ i, i < 48 → i ∈ E.2.2.1) (g : zw_G p E (zw_A E) s m args c RX9 cX9_swap 5) (hr : meth.sig.returnType = some .int) (hlk : meth.locks = false) {k60 : (Int32 × Int32 × Int32 × zw_Hp) → Option (Int32 × zw_Hp)} (eL60 : ∀ (w : Int32 × Int32 × Int32 × zw_Hp) (z : Int32 × zw_Hp), k60 w = some z → zw_V p l e s m args below meth c E mt_X9_swap 5 (some (.int z.1)) z.2 60 [(0, .ref (E.2.1 31)), (1, .int w.1), (2, .int w.2.1), (3, .int w.2.2.1)] [] w.2.2.2) :
    ∀ (w : Int32 × Int32 × Int32 × Int32 × zw_Hp) (z : Int32 × zw_Hp), L_X9_swap_73 k60 w = some z → zw_V p l e s m args below meth c E mt_X9_swap 5 (some (.int z.1)) z.2 73 [(0, .ref (E.2.1 31)), (1, .int w.1), (2, .int w.2.1), (3, .int w.2.2.1), (4, .int w.2.2.2.1)] [] w.2.2.2.2 :=
  fun w z hM => zw_it_ind (P := fun (w : Int32 × Int32 × Int32 × Int32 × zw_Hp) (z : Int32 × zw_Hp) => zw_V p l e s m args below meth c E mt_X9_swap 5 (some (.int z.1)) z.2 73 [(0, .ref (E.2.1 31)), (1, .int w.1), (2, .int w.2.1), (3, .int w.2.2.1), (4, .int w.2.2.2.1)] [] w.2.2.2.2) (fun k e w z hM => U_X9_swap_73 ok hI g hr hlk eL60 e _ _ _ _ _ _ hM) 600 w z hM
noncomputable def B_X9_swap_60 (k60 : (Int32 × Int32 × Int32 × zw_Hp) → Option (Int32 × zw_Hp)) (x1 : Int32) (x2 : Int32) (x3 : Int32) (h : zw_Hp) : Option (Int32 × zw_Hp) :=
  if (h.1 31 6) ≤ x3 then (if x2 = 0 then (some ((h.1 31 29), h)) else (some ((h.1 31 30), h))) else (zw_nm (x3 + (1 : Int32)) (fun y20 => L_X9_swap_73 k60 (x1, x2, x3, y20, h)))
set_option maxRecDepth 100000 in
set_option maxHeartbeats 4000000 in
theorem U_X9_swap_60 (ok : zw_Ok E) (hI : ∀ i, i < 48 → i ∈ E.2.2.1) (g : zw_G p E (zw_A E) s m args c RX9 cX9_swap 5) (hr : meth.sig.returnType = some .int) (hlk : meth.locks = false) {k60 : (Int32 × Int32 × Int32 × zw_Hp) → Option (Int32 × zw_Hp)} (eL60 : ∀ (w : Int32 × Int32 × Int32 × zw_Hp) (z : Int32 × zw_Hp), k60 w = some z → zw_V p l e s m args below meth c E mt_X9_swap 5 (some (.int z.1)) z.2 60 [(0, .ref (E.2.1 31)), (1, .int w.1), (2, .int w.2.1), (3, .int w.2.2.1)] [] w.2.2.2) :
    ∀ (x1 : Int32) (x2 : Int32) (x3 : Int32) (h : zw_Hp) (z : Int32 × zw_Hp), B_X9_swap_60 k60 x1 x2 x3 h = some z → zw_V p l e s m args below meth c E mt_X9_swap 5 (some (.int z.1)) z.2 60 [(0, .ref (E.2.1 31)), (1, .int x1), (2, .int x2), (3, .int x3)] [] h := by
  intro x1 x2 x3 h z hM
  unfold B_X9_swap_60 at hM
  refine zr_iload_n (q := 61) g 3 dX9_swap_60 rfl rfl rfl ?_
  refine zr_aload_n (q := 62) g 0 dX9_swap_61 rfl rfl rfl ?_
  refine zr_geti (q := 65) (k0 := 6) g (hI 31 (by decide)) zs_31 rfl zf_X9_63 dX9_swap_62 rfl ?_
  refine zr_icmp_ge (q := 68) (tgt := 152) g dX9_swap_65 rfl rfl (fun c18 => ?_) (fun c18 => ?_)
  · replace hM := zw_ift c18 hM
    refine zr_iload_n (q := 153) g 2 dX9_swap_152 rfl rfl rfl ?_
    refine zr_if_ne (q := 156) (tgt := 163) g dX9_swap_153 rfl rfl (fun c19 => ?_) (fun c19 => ?_)
    · replace hM := zw_iff c19 hM
      refine zr_aload_n (q := 164) g 0 dX9_swap_163 rfl rfl rfl ?_
      refine zr_geti (q := 167) (k0 := 30) g (hI 31 (by decide)) zs_31 rfl zf_X9_214 dX9_swap_164 rfl ?_
      cases hM
      exact zr_iret g hr hlk dX9_swap_167 rfl rfl
    · replace hM := zw_ift c19 hM
      refine zr_aload_n (q := 157) g 0 dX9_swap_156 rfl rfl rfl ?_
      refine zr_geti (q := 160) (k0 := 29) g (hI 31 (by decide)) zs_31 rfl zf_X9_211 dX9_swap_157 rfl ?_
      refine zr_goto (tgt := 167) g dX9_swap_160 rfl ?_
      cases hM
      exact zr_iret g hr hlk dX9_swap_167 rfl rfl
  · replace hM := zw_iff c18 hM
    refine zr_iload_n (q := 69) g 3 dX9_swap_68 rfl rfl rfl ?_
    refine zr_iconst (q := 70) (v := (1 : Int32)) g dX9_swap_69 rfl (by decide) ?_
    refine zr_iadd (q := 71) g dX9_swap_70 rfl ?_
    obtain ⟨y20, e21, hM⟩ := zw_nm_ex hM
    refine zr_nmi e21 ?_
    refine zr_istore (q := 73) (lv' := [(4, .int y20), (0, .ref (E.2.1 31)), (1, .int x1), (2, .int x2), (3, .int x3)]) g dX9_swap_71 rfl (by decide) rfl ?_
    refine zr_lv (lv' := [(0, .ref (E.2.1 31)), (1, .int x1), (2, .int x2), (3, .int x3), (4, .int y20)]) [1, 2, 3, 4, 0] rfl ?_
    exact UL_X9_swap_73 ok hI g hr hlk eL60 _ _ hM
noncomputable def L_X9_swap_60 (w : Int32 × Int32 × Int32 × zw_Hp) : Option (Int32 × zw_Hp) :=
  zw_it (fun (k60 : (Int32 × Int32 × Int32 × zw_Hp) → Option (Int32 × zw_Hp)) (w : Int32 × Int32 × Int32 × zw_Hp) => B_X9_swap_60 k60 (w.1) (w.2.1) (w.2.2.1) (w.2.2.2)) 600 w
theorem UL_X9_swap_60 (ok : zw_Ok E) (hI : ∀ i, i < 48 → i ∈ E.2.2.1) (g : zw_G p E (zw_A E) s m args c RX9 cX9_swap 5) (hr : meth.sig.returnType = some .int) (hlk : meth.locks = false) :
    ∀ (w : Int32 × Int32 × Int32 × zw_Hp) (z : Int32 × zw_Hp), L_X9_swap_60 w = some z → zw_V p l e s m args below meth c E mt_X9_swap 5 (some (.int z.1)) z.2 60 [(0, .ref (E.2.1 31)), (1, .int w.1), (2, .int w.2.1), (3, .int w.2.2.1)] [] w.2.2.2 :=
  fun w z hM => zw_it_ind (P := fun (w : Int32 × Int32 × Int32 × zw_Hp) (z : Int32 × zw_Hp) => zw_V p l e s m args below meth c E mt_X9_swap 5 (some (.int z.1)) z.2 60 [(0, .ref (E.2.1 31)), (1, .int w.1), (2, .int w.2.1), (3, .int w.2.2.1)] [] w.2.2.2) (fun k e w z hM => U_X9_swap_60 ok hI g hr hlk e _ _ _ _ _ hM) 600 w z hM
noncomputable def M_X9_swap (x1 : Int32) (x2 : Int32) (h : zw_Hp) : Option (Int32 × zw_Hp) :=
  zw_nm (zw_up h 31 0 (0 : Int32)) (fun h1 => (M_X9_in (x1).toInt64 (1 : Int64) (20 : Int64) h1).bind (fun z3 => if z3 = 0 then (some ((-2 : Int32), h1)) else ((M_X9_in (x2).toInt64 (0 : Int64) (1 : Int64) h1).bind (fun z6 => if z6 = 0 then (some ((-2 : Int32), h1)) else ((M_X9_begin h1).bind (fun z9 => (M_X9_goBeats x1 (31 : Int32) z9).bind (fun z11 => if zw_ok (19 : Int32) 21 = true then (zw_nm (zw_up z11 31 29 (z11.1 38 ((19 : Int32)).toNatClampNeg)) (fun h14 => zw_nm (zw_up h14 31 30 (99 : Int32)) (fun h16 => L_X9_swap_60 (x1, x2, (0 : Int32), h16)))) else none)))))))
set_option maxRecDepth 100000 in
set_option maxHeartbeats 4000000 in
theorem R_X9_swap (ok : zw_Ok E) (hI : ∀ i, i < 48 → i ∈ E.2.2.1) {x1 : Int32} {x2 : Int32} {h : zw_Hp} {z : Int32 × zw_Hp} (hM : M_X9_swap x1 x2 h = some z) : zw_Ct l E mt_X9_swap [.ref (E.2.1 31), .int x1, .int x2] h (some (.int z.1)) z.2 := by
  unfold M_X9_swap at hM
  refine zw_ct (lv0 := [(0, .ref (E.2.1 31)), (1, .int x1), (2, .int x2)]) ok (by decide) rfl (Nat.le_of_ble_eq_true rfl) (fun p e s m args below meth c g hr hlk => ?_)
  replace g : zw_G p E (zw_A E) s m args c RX9 cX9_swap 5 := g
  show zw_V p l e s m args below meth c E mt_X9_swap 5 (some (.int z.1)) z.2 0 [(0, .ref (E.2.1 31)), (1, .int x1), (2, .int x2)] [] h
  refine zr_aload_n (q := 1) g 0 dX9_swap_0 rfl rfl rfl ?_
  refine zr_iconst (q := 2) (v := (0 : Int32)) g dX9_swap_1 rfl (by decide) ?_
  obtain ⟨h1, e2, hM⟩ := zw_nm_ex hM
  refine zr_puti (q := 5) (k0 := 0) (h' := h1) g (hI 31 (by decide)) zs_31 rfl zp_X9_59 dX9_swap_2 rfl e2 ?_
  refine zr_iload_n (q := 6) g 1 dX9_swap_5 rfl rfl rfl ?_
  refine zr_i2l (q := 7) g dX9_swap_6 rfl ?_
  refine zr_lconst (q := 8) (v := (1 : Int64)) g dX9_swap_7 rfl (by decide) ?_
  refine zr_ldc2 (q := 11) (v := (20 : Int64)) g dX9_swap_8 rfl zk_X9_209 ?_
  obtain ⟨z3, q4, hM⟩ := zw_bd hM
  refine zr_callS (q := 14) (As := [.long (x1).toInt64, .long (1 : Int64), .long (20 : Int64)]) (rest := []) (st' := [.int z3]) g (R_X9_in ok hI q4) zv_X9_in zl_X9_66 dX9_swap_11 rfl rfl ⟨Nat.le_of_ble_eq_true rfl, Nat.le_of_ble_eq_true rfl⟩ ⟨Nat.zero_le _, Nat.zero_le _⟩ (Nat.le_of_ble_eq_true rfl) rfl rfl ?_
  refine zr_if_eq (q := 17) (tgt := 27) g dX9_swap_14 rfl rfl (fun c5 => ?_) (fun c5 => ?_)
  · replace hM := zw_ift c5 hM
    refine zr_bipush (q := 29) (v := (-2 : Int32)) g dX9_swap_27 rfl (by decide) ?_
    cases hM
    exact zr_iret g hr hlk dX9_swap_29 rfl rfl
  · replace hM := zw_iff c5 hM
    refine zr_iload_n (q := 18) g 2 dX9_swap_17 rfl rfl rfl ?_
    refine zr_i2l (q := 19) g dX9_swap_18 rfl ?_
    refine zr_lconst (q := 20) (v := (0 : Int64)) g dX9_swap_19 rfl (by decide) ?_
    refine zr_lconst (q := 21) (v := (1 : Int64)) g dX9_swap_20 rfl (by decide) ?_
    obtain ⟨z6, q7, hM⟩ := zw_bd hM
    refine zr_callS (q := 24) (As := [.long (x2).toInt64, .long (0 : Int64), .long (1 : Int64)]) (rest := []) (st' := [.int z6]) g (R_X9_in ok hI q7) zv_X9_in zl_X9_66 dX9_swap_21 rfl rfl ⟨Nat.le_of_ble_eq_true rfl, Nat.le_of_ble_eq_true rfl⟩ ⟨Nat.zero_le _, Nat.zero_le _⟩ (Nat.le_of_ble_eq_true rfl) rfl rfl ?_
    refine zr_if_ne (q := 27) (tgt := 30) g dX9_swap_24 rfl rfl (fun c8 => ?_) (fun c8 => ?_)
    · replace hM := zw_iff c8 hM
      refine zr_aload_n (q := 31) g 0 dX9_swap_30 rfl rfl rfl ?_
      obtain ⟨z9, q10, hM⟩ := zw_bd hM
      refine zr_callV (q := 34) (As := []) (rest := []) (st' := []) (i := 31) g (R_X9_begin ok hI q10) zv_X9_begin zl_X9_202 (hI 31 (by decide)) zs_31 zc_X9.1 dX9_swap_31 rfl rfl ⟨Nat.le_of_ble_eq_true rfl, Nat.le_of_ble_eq_true rfl⟩ ⟨Nat.zero_le _, Nat.zero_le _⟩ (Nat.le_of_ble_eq_true rfl) rfl rfl ?_
      refine zr_aload_n (q := 35) g 0 dX9_swap_34 rfl rfl rfl ?_
      refine zr_iload_n (q := 36) g 1 dX9_swap_35 rfl rfl rfl ?_
      refine zr_bipush (q := 38) (v := (31 : Int32)) g dX9_swap_36 rfl (by decide) ?_
      obtain ⟨z11, q12, hM⟩ := zw_bd hM
      refine zr_callV (q := 41) (As := [.int x1, .int (31 : Int32)]) (rest := []) (st' := []) (i := 31) g (R_X9_goBeats ok hI q12) zv_X9_goBeats zl_X9_205 (hI 31 (by decide)) zs_31 zc_X9.1 dX9_swap_38 rfl rfl ⟨Nat.le_of_ble_eq_true rfl, Nat.le_of_ble_eq_true rfl⟩ ⟨Nat.zero_le _, Nat.zero_le _⟩ (Nat.le_of_ble_eq_true rfl) rfl rfl ?_
      refine zr_aload_n (q := 42) g 0 dX9_swap_41 rfl rfl rfl ?_
      refine zr_aload_n (q := 43) g 0 dX9_swap_42 rfl rfl rfl ?_
      refine zr_getr (q := 46) (k0 := 19) (j := 38) g (hI 31 (by decide)) zs_31 rfl zf_X9_28 dX9_swap_43 rfl ?_
      refine zr_bipush (q := 48) (v := (19 : Int32)) g dX9_swap_46 rfl (by decide) ?_
      obtain ⟨c13, hM⟩ := zw_gd hM
      refine zr_iald (q := 49) g (hI 38 (by decide)) zs_38 c13 dX9_swap_48 rfl ?_
      obtain ⟨h14, e15, hM⟩ := zw_nm_ex hM
      refine zr_puti (q := 52) (k0 := 29) (h' := h14) g (hI 31 (by decide)) zs_31 rfl zp_X9_211 dX9_swap_49 rfl e15 ?_
      refine zr_aload_n (q := 53) g 0 dX9_swap_52 rfl rfl rfl ?_
      refine zr_bipush (q := 55) (v := (99 : Int32)) g dX9_swap_53 rfl (by decide) ?_
      obtain ⟨h16, e17, hM⟩ := zw_nm_ex hM
      refine zr_puti (q := 58) (k0 := 30) (h' := h16) g (hI 31 (by decide)) zs_31 rfl zp_X9_214 dX9_swap_55 rfl e17 ?_
      refine zr_iconst (q := 59) (v := (0 : Int32)) g dX9_swap_58 rfl (by decide) ?_
      refine zr_istore_n (q := 60) (lv' := [(3, .int (0 : Int32)), (0, .ref (E.2.1 31)), (1, .int x1), (2, .int x2)]) g dX9_swap_59 rfl rfl (by decide) rfl ?_
      refine zr_lv (lv' := [(0, .ref (E.2.1 31)), (1, .int x1), (2, .int x2), (3, .int (0 : Int32))]) [1, 2, 3, 0] rfl ?_
      exact UL_X9_swap_60 ok hI g hr hlk _ _ hM
    · replace hM := zw_ift c8 hM
      refine zr_bipush (q := 29) (v := (-2 : Int32)) g dX9_swap_27 rfl (by decide) ?_
      cases hM
      exact zr_iret g hr hlk dX9_swap_29 rfl rfl
noncomputable def M_X9_turnLine (x1 : Int32) (x2 : Int32) (h : zw_Hp) : Option (zw_Hp) :=
  if zw_ok x1 5 = true then (zw_nm (h.1 47 (x1).toNatClampNeg) (fun y2 => if zw_ok x2 5 = true then (if zw_ok x1 5 = true then zw_nm (zw_up h 47 (x1).toNatClampNeg (h.1 47 (x2).toNatClampNeg)) (fun h6 => if zw_ok x2 5 = true then zw_nm (zw_up h6 47 (x2).toNatClampNeg y2) (fun h9 => some h9) else none) else none) else none)) else none
set_option maxRecDepth 100000 in
set_option maxHeartbeats 4000000 in
theorem R_X9_turnLine (ok : zw_Ok E) (hI : ∀ i, i < 48 → i ∈ E.2.2.1) {x1 : Int32} {x2 : Int32} {h : zw_Hp} {z : zw_Hp} (hM : M_X9_turnLine x1 x2 h = some z) : zw_Ct l E mt_X9_turnLine [.ref (E.2.1 31), .int x1, .int x2] h none z := by
  unfold M_X9_turnLine at hM
  refine zw_ct (lv0 := [(0, .ref (E.2.1 31)), (1, .int x1), (2, .int x2)]) ok (by decide) rfl (Nat.le_of_ble_eq_true rfl) (fun p e s m args below meth c g hr hlk => ?_)
  replace g : zw_G p E (zw_A E) s m args c RX9 cX9_turnLine 4 := g
  show zw_V p l e s m args below meth c E mt_X9_turnLine 4 none z 0 [(0, .ref (E.2.1 31)), (1, .int x1), (2, .int x2)] [] h
  refine zr_aload_n (q := 1) g 0 dX9_turnLine_0 rfl rfl rfl ?_
  refine zr_getr (q := 4) (k0 := 37) (j := 47) g (hI 31 (by decide)) zs_31 rfl zf_X9_56 dX9_turnLine_1 rfl ?_
  refine zr_iload_n (q := 5) g 1 dX9_turnLine_4 rfl rfl rfl ?_
  obtain ⟨c1, hM⟩ := zw_gd hM
  refine zr_iald (q := 6) g (hI 47 (by decide)) zs_47 c1 dX9_turnLine_5 rfl ?_
  obtain ⟨y2, e3, hM⟩ := zw_nm_ex hM
  refine zr_nmi e3 ?_
  refine zr_istore_n (q := 7) (lv' := [(3, .int y2), (0, .ref (E.2.1 31)), (1, .int x1), (2, .int x2)]) g dX9_turnLine_6 rfl rfl (by decide) rfl ?_
  refine zr_aload_n (q := 8) g 1 dX9_turnLine_7 rfl rfl rfl ?_
  refine zr_getr (q := 11) (k0 := 37) (j := 47) g (hI 31 (by decide)) zs_31 rfl zf_X9_56 dX9_turnLine_8 rfl ?_
  refine zr_iload_n (q := 12) g 2 dX9_turnLine_11 rfl rfl rfl ?_
  refine zr_aload_n (q := 13) g 1 dX9_turnLine_12 rfl rfl rfl ?_
  refine zr_getr (q := 16) (k0 := 37) (j := 47) g (hI 31 (by decide)) zs_31 rfl zf_X9_56 dX9_turnLine_13 rfl ?_
  refine zr_iload_n (q := 17) g 3 dX9_turnLine_16 rfl rfl rfl ?_
  obtain ⟨c4, hM⟩ := zw_gd hM
  refine zr_iald (q := 18) g (hI 47 (by decide)) zs_47 c4 dX9_turnLine_17 rfl ?_
  obtain ⟨c5, hM⟩ := zw_gd hM
  obtain ⟨h6, e7, hM⟩ := zw_nm_ex hM
  refine zr_iast (q := 19) (h' := h6) g (hI 47 (by decide)) zs_47 c5 dX9_turnLine_18 rfl e7 ?_
  refine zr_aload_n (q := 20) g 1 dX9_turnLine_19 rfl rfl rfl ?_
  refine zr_getr (q := 23) (k0 := 37) (j := 47) g (hI 31 (by decide)) zs_31 rfl zf_X9_56 dX9_turnLine_20 rfl ?_
  refine zr_iload_n (q := 24) g 3 dX9_turnLine_23 rfl rfl rfl ?_
  refine zr_iload_n (q := 25) g 0 dX9_turnLine_24 rfl rfl rfl ?_
  obtain ⟨c8, hM⟩ := zw_gd hM
  obtain ⟨h9, e10, hM⟩ := zw_nm_ex hM
  refine zr_iast (q := 26) (h' := h9) g (hI 47 (by decide)) zs_47 c8 dX9_turnLine_25 rfl e10 ?_
  cases hM
  exact zr_vret g hr hlk dX9_turnLine_26 rfl rfl
noncomputable def B_X9_nextLine_86 (k86 : (Int32 × Int32 × zw_Hp) → Option (Int32 × zw_Hp)) (x3 : Int32) (x4 : Int32) (h : zw_Hp) : Option (Int32 × zw_Hp) :=
  if x4 ≤ x3 then (some ((1 : Int32), h)) else ((M_X9_turnLine x3 x4 h).bind (fun z24 => zw_nm (x3 + (1 : Int32)) (fun y26 => zw_nm (x4 + (-1 : Int32)) (fun y28 => k86 (y26, y28, z24)))))
set_option maxRecDepth 100000 in
set_option maxHeartbeats 4000000 in
theorem U_X9_nextLine_86 (ok : zw_Ok E) (hI : ∀ i, i < 48 → i ∈ E.2.2.1) (g : zw_G p E (zw_A E) s m args c RX9 cX9_nextLine 5) (hr : meth.sig.returnType = some .boolean) (hlk : meth.locks = false) {k86 : (Int32 × Int32 × zw_Hp) → Option (Int32 × zw_Hp)} (eL86 : ∀ (w : Int32 × Int32 × zw_Hp) (z : Int32 × zw_Hp), k86 w = some z → zw_V p l e s m args below meth c E mt_X9_nextLine 5 (some (.int z.1)) z.2 86 [(0, .ref (E.2.1 31)), (3, .int w.1), (4, .int w.2.1)] [] w.2.2) :
    ∀ (x3 : Int32) (x4 : Int32) (h : zw_Hp) (z : Int32 × zw_Hp), B_X9_nextLine_86 k86 x3 x4 h = some z → zw_V p l e s m args below meth c E mt_X9_nextLine 5 (some (.int z.1)) z.2 86 [(0, .ref (E.2.1 31)), (3, .int x3), (4, .int x4)] [] h := by
  intro x3 x4 h z hM
  unfold B_X9_nextLine_86 at hM
  refine zr_iload_n (q := 87) g 1 dX9_nextLine_86 rfl rfl rfl ?_
  refine zr_iload (q := 89) g 2 dX9_nextLine_87 rfl rfl ?_
  refine zr_icmp_ge (q := 92) (tgt := 108) g dX9_nextLine_89 rfl rfl (fun c23 => ?_) (fun c23 => ?_)
  · replace hM := zw_ift c23 hM
    refine zr_iconst (q := 109) (v := (1 : Int32)) g dX9_nextLine_108 rfl (by decide) ?_
    cases hM
    exact zr_zret g hr hlk (by decide) dX9_nextLine_109 rfl rfl
  · replace hM := zw_iff c23 hM
    refine zr_aload_n (q := 93) g 0 dX9_nextLine_92 rfl rfl rfl ?_
    refine zr_iload_n (q := 94) g 1 dX9_nextLine_93 rfl rfl rfl ?_
    refine zr_iload (q := 96) g 2 dX9_nextLine_94 rfl rfl ?_
    obtain ⟨z24, q25, hM⟩ := zw_bd hM
    refine zr_callV (q := 99) (As := [.int x3, .int x4]) (rest := []) (st' := []) (i := 31) g (R_X9_turnLine ok hI q25) zv_X9_turnLine zl_X9_217 (hI 31 (by decide)) zs_31 zc_X9.1 dX9_nextLine_96 rfl rfl ⟨Nat.le_of_ble_eq_true rfl, Nat.le_of_ble_eq_true rfl⟩ ⟨Nat.zero_le _, Nat.zero_le _⟩ (Nat.le_of_ble_eq_true rfl) rfl rfl ?_
    obtain ⟨y26, e27, hM⟩ := zw_nm_ex hM
    refine zr_iinc (q := 102) (v := y26) (lv' := [(3, .int y26), (0, .ref (E.2.1 31)), (4, .int x4)]) g 1 dX9_nextLine_99 rfl rfl (by rw [e27]; rfl) (by decide) rfl ?_
    obtain ⟨y28, e29, hM⟩ := zw_nm_ex hM
    refine zr_iinc (q := 105) (v := y28) (lv' := [(4, .int y28), (3, .int y26), (0, .ref (E.2.1 31))]) g 2 dX9_nextLine_102 rfl rfl (by rw [e29]; rfl) (by decide) rfl ?_
    refine zr_goto (tgt := 86) g dX9_nextLine_105 rfl ?_
    refine zr_lv (lv' := [(0, .ref (E.2.1 31)), (3, .int y26), (4, .int y28)]) [2, 1, 0] rfl ?_
    exact eL86 _ _ hM
noncomputable def L_X9_nextLine_86 (w : Int32 × Int32 × zw_Hp) : Option (Int32 × zw_Hp) :=
  zw_it (fun (k86 : (Int32 × Int32 × zw_Hp) → Option (Int32 × zw_Hp)) (w : Int32 × Int32 × zw_Hp) => B_X9_nextLine_86 k86 (w.1) (w.2.1) (w.2.2)) 600 w
theorem UL_X9_nextLine_86 (ok : zw_Ok E) (hI : ∀ i, i < 48 → i ∈ E.2.2.1) (g : zw_G p E (zw_A E) s m args c RX9 cX9_nextLine 5) (hr : meth.sig.returnType = some .boolean) (hlk : meth.locks = false) :
    ∀ (w : Int32 × Int32 × zw_Hp) (z : Int32 × zw_Hp), L_X9_nextLine_86 w = some z → zw_V p l e s m args below meth c E mt_X9_nextLine 5 (some (.int z.1)) z.2 86 [(0, .ref (E.2.1 31)), (3, .int w.1), (4, .int w.2.1)] [] w.2.2 :=
  fun w z hM => zw_it_ind (P := fun (w : Int32 × Int32 × zw_Hp) (z : Int32 × zw_Hp) => zw_V p l e s m args below meth c E mt_X9_nextLine 5 (some (.int z.1)) z.2 86 [(0, .ref (E.2.1 31)), (3, .int w.1), (4, .int w.2.1)] [] w.2.2) (fun k e w z hM => U_X9_nextLine_86 ok hI g hr hlk e _ _ _ _ hM) 600 w z hM
noncomputable def B_X9_nextLine_47 (k47 : (Int32 × Int32 × zw_Hp) → Option (Int32 × zw_Hp)) (x1 : Int32) (x2 : Int32) (h : zw_Hp) : Option (Int32 × zw_Hp) :=
  if zw_ok x2 5 = true then (if zw_ok x1 5 = true then (if (h.1 47 (x1).toNatClampNeg) ≤ (h.1 47 (x2).toNatClampNeg) then ((M_X9_turnLine x1 x2 h).bind (fun z15 => zw_nm (x1 + (1 : Int32)) (fun y17 => zw_nm ((z15.1 31 6) - (1 : Int32)) (fun y19 => L_X9_nextLine_86 (y17, y19, z15))))) else (zw_nm (x2 + (-1 : Int32)) (fun y21 => k47 (x1, y21, h)))) else none) else none
set_option maxRecDepth 100000 in
set_option maxHeartbeats 4000000 in
theorem U_X9_nextLine_47 (ok : zw_Ok E) (hI : ∀ i, i < 48 → i ∈ E.2.2.1) (g : zw_G p E (zw_A E) s m args c RX9 cX9_nextLine 5) (hr : meth.sig.returnType = some .boolean) (hlk : meth.locks = false) {k47 : (Int32 × Int32 × zw_Hp) → Option (Int32 × zw_Hp)} (eL47 : ∀ (w : Int32 × Int32 × zw_Hp) (z : Int32 × zw_Hp), k47 w = some z → zw_V p l e s m args below meth c E mt_X9_nextLine 5 (some (.int z.1)) z.2 47 [(0, .ref (E.2.1 31)), (1, .int w.1), (2, .int w.2.1)] [] w.2.2) :
    ∀ (x1 : Int32) (x2 : Int32) (h : zw_Hp) (z : Int32 × zw_Hp), B_X9_nextLine_47 k47 x1 x2 h = some z → zw_V p l e s m args below meth c E mt_X9_nextLine 5 (some (.int z.1)) z.2 47 [(0, .ref (E.2.1 31)), (1, .int x1), (2, .int x2)] [] h := by
  intro x1 x2 h z hM
  unfold B_X9_nextLine_47 at hM
  refine zr_aload_n (q := 48) g 0 dX9_nextLine_47 rfl rfl rfl ?_
  refine zr_getr (q := 51) (k0 := 37) (j := 47) g (hI 31 (by decide)) zs_31 rfl zf_X9_56 dX9_nextLine_48 rfl ?_
  refine zr_iload_n (q := 52) g 2 dX9_nextLine_51 rfl rfl rfl ?_
  obtain ⟨c12, hM⟩ := zw_gd hM
  refine zr_iald (q := 53) g (hI 47 (by decide)) zs_47 c12 dX9_nextLine_52 rfl ?_
  refine zr_aload_n (q := 54) g 0 dX9_nextLine_53 rfl rfl rfl ?_
  refine zr_getr (q := 57) (k0 := 37) (j := 47) g (hI 31 (by decide)) zs_31 rfl zf_X9_56 dX9_nextLine_54 rfl ?_
  refine zr_iload_n (q := 58) g 1 dX9_nextLine_57 rfl rfl rfl ?_
  obtain ⟨c13, hM⟩ := zw_gd hM
  refine zr_iald (q := 59) g (hI 47 (by decide)) zs_47 c13 dX9_nextLine_58 rfl ?_
  refine zr_icmp_ge (q := 62) (tgt := 68) g dX9_nextLine_59 rfl rfl (fun c14 => ?_) (fun c14 => ?_)
  · replace hM := zw_ift c14 hM
    refine zr_aload_n (q := 69) g 0 dX9_nextLine_68 rfl rfl rfl ?_
    refine zr_iload_n (q := 70) g 1 dX9_nextLine_69 rfl rfl rfl ?_
    refine zr_iload_n (q := 71) g 2 dX9_nextLine_70 rfl rfl rfl ?_
    obtain ⟨z15, q16, hM⟩ := zw_bd hM
    refine zr_callV (q := 74) (As := [.int x1, .int x2]) (rest := []) (st' := []) (i := 31) g (R_X9_turnLine ok hI q16) zv_X9_turnLine zl_X9_217 (hI 31 (by decide)) zs_31 zc_X9.1 dX9_nextLine_71 rfl rfl ⟨Nat.le_of_ble_eq_true rfl, Nat.le_of_ble_eq_true rfl⟩ ⟨Nat.zero_le _, Nat.zero_le _⟩ (Nat.le_of_ble_eq_true rfl) rfl rfl ?_
    refine zr_iload_n (q := 75) g 1 dX9_nextLine_74 rfl rfl rfl ?_
    refine zr_iconst (q := 76) (v := (1 : Int32)) g dX9_nextLine_75 rfl (by decide) ?_
    refine zr_iadd (q := 77) g dX9_nextLine_76 rfl ?_
    obtain ⟨y17, e18, hM⟩ := zw_nm_ex hM
    refine zr_nmi e18 ?_
    refine zr_istore_n (q := 78) (lv' := [(3, .int y17), (0, .ref (E.2.1 31)), (1, .int x1), (2, .int x2)]) g dX9_nextLine_77 rfl rfl (by decide) rfl ?_
    refine zr_aload_n (q := 79) g 1 dX9_nextLine_78 rfl rfl rfl ?_
    refine zr_geti (q := 82) (k0 := 6) g (hI 31 (by decide)) zs_31 rfl zf_X9_63 dX9_nextLine_79 rfl ?_
    refine zr_iconst (q := 83) (v := (1 : Int32)) g dX9_nextLine_82 rfl (by decide) ?_
    refine zr_isub (q := 84) g dX9_nextLine_83 rfl ?_
    obtain ⟨y19, e20, hM⟩ := zw_nm_ex hM
    refine zr_nmi e20 ?_
    refine zr_istore (q := 86) (lv' := [(4, .int y19), (3, .int y17), (0, .ref (E.2.1 31)), (1, .int x1), (2, .int x2)]) g dX9_nextLine_84 rfl (by decide) rfl ?_
    refine zr_lv (lv' := [(0, .ref (E.2.1 31)), (3, .int y17), (4, .int y19)]) [2, 1, 0] rfl ?_
    exact UL_X9_nextLine_86 ok hI g hr hlk _ _ hM
  · replace hM := zw_iff c14 hM
    obtain ⟨y21, e22, hM⟩ := zw_nm_ex hM
    refine zr_iinc (q := 65) (v := y21) (lv' := [(2, .int y21), (0, .ref (E.2.1 31)), (1, .int x1)]) g 2 dX9_nextLine_62 rfl rfl (by rw [e22]; rfl) (by decide) rfl ?_
    refine zr_goto (tgt := 47) g dX9_nextLine_65 rfl ?_
    refine zr_lv (lv' := [(0, .ref (E.2.1 31)), (1, .int x1), (2, .int y21)]) [1, 2, 0] rfl ?_
    exact eL47 _ _ hM
noncomputable def L_X9_nextLine_47 (w : Int32 × Int32 × zw_Hp) : Option (Int32 × zw_Hp) :=
  zw_it (fun (k47 : (Int32 × Int32 × zw_Hp) → Option (Int32 × zw_Hp)) (w : Int32 × Int32 × zw_Hp) => B_X9_nextLine_47 k47 (w.1) (w.2.1) (w.2.2)) 600 w
theorem UL_X9_nextLine_47 (ok : zw_Ok E) (hI : ∀ i, i < 48 → i ∈ E.2.2.1) (g : zw_G p E (zw_A E) s m args c RX9 cX9_nextLine 5) (hr : meth.sig.returnType = some .boolean) (hlk : meth.locks = false) :
    ∀ (w : Int32 × Int32 × zw_Hp) (z : Int32 × zw_Hp), L_X9_nextLine_47 w = some z → zw_V p l e s m args below meth c E mt_X9_nextLine 5 (some (.int z.1)) z.2 47 [(0, .ref (E.2.1 31)), (1, .int w.1), (2, .int w.2.1)] [] w.2.2 :=
  fun w z hM => zw_it_ind (P := fun (w : Int32 × Int32 × zw_Hp) (z : Int32 × zw_Hp) => zw_V p l e s m args below meth c E mt_X9_nextLine 5 (some (.int z.1)) z.2 47 [(0, .ref (E.2.1 31)), (1, .int w.1), (2, .int w.2.1)] [] w.2.2) (fun k e w z hM => U_X9_nextLine_47 ok hI g hr hlk e _ _ _ _ hM) 600 w z hM
noncomputable def B_X9_nextLine_34 (x1 : Int32) (h : zw_Hp) : Option (Int32 × zw_Hp) :=
  if 0 ≤ x1 then (zw_nm ((h.1 31 6) - (1 : Int32)) (fun y10 => L_X9_nextLine_47 (x1, y10, h))) else (some ((0 : Int32), h))
set_option maxRecDepth 100000 in
set_option maxHeartbeats 4000000 in
theorem U_X9_nextLine_34 (ok : zw_Ok E) (hI : ∀ i, i < 48 → i ∈ E.2.2.1) (g : zw_G p E (zw_A E) s m args c RX9 cX9_nextLine 5) (hr : meth.sig.returnType = some .boolean) (hlk : meth.locks = false) :
    ∀ (x1 : Int32) (h : zw_Hp) (z : Int32 × zw_Hp), B_X9_nextLine_34 x1 h = some z → zw_V p l e s m args below meth c E mt_X9_nextLine 5 (some (.int z.1)) z.2 34 [(0, .ref (E.2.1 31)), (1, .int x1)] [] h := by
  intro x1 h z hM
  unfold B_X9_nextLine_34 at hM
  refine zr_iload_n (q := 35) g 1 dX9_nextLine_34 rfl rfl rfl ?_
  refine zr_if_ge (q := 38) (tgt := 40) g dX9_nextLine_35 rfl rfl (fun c9 => ?_) (fun c9 => ?_)
  · replace hM := zw_ift c9 hM
    refine zr_aload_n (q := 41) g 0 dX9_nextLine_40 rfl rfl rfl ?_
    refine zr_geti (q := 44) (k0 := 6) g (hI 31 (by decide)) zs_31 rfl zf_X9_63 dX9_nextLine_41 rfl ?_
    refine zr_iconst (q := 45) (v := (1 : Int32)) g dX9_nextLine_44 rfl (by decide) ?_
    refine zr_isub (q := 46) g dX9_nextLine_45 rfl ?_
    obtain ⟨y10, e11, hM⟩ := zw_nm_ex hM
    refine zr_nmi e11 ?_
    refine zr_istore_n (q := 47) (lv' := [(2, .int y10), (0, .ref (E.2.1 31)), (1, .int x1)]) g dX9_nextLine_46 rfl rfl (by decide) rfl ?_
    refine zr_lv (lv' := [(0, .ref (E.2.1 31)), (1, .int x1), (2, .int y10)]) [1, 2, 0] rfl ?_
    exact UL_X9_nextLine_47 ok hI g hr hlk _ _ hM
  · replace hM := zw_iff c9 hM
    refine zr_iconst (q := 39) (v := (0 : Int32)) g dX9_nextLine_38 rfl (by decide) ?_
    cases hM
    exact zr_zret g hr hlk (by decide) dX9_nextLine_39 rfl rfl
noncomputable def B_X9_nextLine_7 (k7 : (Int32 × zw_Hp) → Option (Int32 × zw_Hp)) (x1 : Int32) (h : zw_Hp) : Option (Int32 × zw_Hp) :=
  if x1 < 0 then (B_X9_nextLine_34 x1 h) else (if zw_ok x1 5 = true then (if zw_ok (x1 + (1 : Int32)) 5 = true then (if (h.1 47 (x1).toNatClampNeg) ≤ (h.1 47 ((x1 + (1 : Int32))).toNatClampNeg) then (B_X9_nextLine_34 x1 h) else (zw_nm (x1 + (-1 : Int32)) (fun y7 => k7 (y7, h)))) else none) else none)
set_option maxRecDepth 100000 in
set_option maxHeartbeats 4000000 in
theorem U_X9_nextLine_7 (ok : zw_Ok E) (hI : ∀ i, i < 48 → i ∈ E.2.2.1) (g : zw_G p E (zw_A E) s m args c RX9 cX9_nextLine 5) (hr : meth.sig.returnType = some .boolean) (hlk : meth.locks = false) {k7 : (Int32 × zw_Hp) → Option (Int32 × zw_Hp)} (eL7 : ∀ (w : Int32 × zw_Hp) (z : Int32 × zw_Hp), k7 w = some z → zw_V p l e s m args below meth c E mt_X9_nextLine 5 (some (.int z.1)) z.2 7 [(0, .ref (E.2.1 31)), (1, .int w.1)] [] w.2) :
    ∀ (x1 : Int32) (h : zw_Hp) (z : Int32 × zw_Hp), B_X9_nextLine_7 k7 x1 h = some z → zw_V p l e s m args below meth c E mt_X9_nextLine 5 (some (.int z.1)) z.2 7 [(0, .ref (E.2.1 31)), (1, .int x1)] [] h := by
  intro x1 h z hM
  unfold B_X9_nextLine_7 at hM
  refine zr_iload_n (q := 8) g 1 dX9_nextLine_7 rfl rfl rfl ?_
  refine zr_if_lt (q := 11) (tgt := 34) g dX9_nextLine_8 rfl rfl (fun c3 => ?_) (fun c3 => ?_)
  · replace hM := zw_ift c3 hM
    exact U_X9_nextLine_34 ok hI g hr hlk _ _ _ hM
  · replace hM := zw_iff c3 hM
    refine zr_aload_n (q := 12) g 0 dX9_nextLine_11 rfl rfl rfl ?_
    refine zr_getr (q := 15) (k0 := 37) (j := 47) g (hI 31 (by decide)) zs_31 rfl zf_X9_56 dX9_nextLine_12 rfl ?_
    refine zr_iload_n (q := 16) g 1 dX9_nextLine_15 rfl rfl rfl ?_
    obtain ⟨c4, hM⟩ := zw_gd hM
    refine zr_iald (q := 17) g (hI 47 (by decide)) zs_47 c4 dX9_nextLine_16 rfl ?_
    refine zr_aload_n (q := 18) g 0 dX9_nextLine_17 rfl rfl rfl ?_
    refine zr_getr (q := 21) (k0 := 37) (j := 47) g (hI 31 (by decide)) zs_31 rfl zf_X9_56 dX9_nextLine_18 rfl ?_
    refine zr_iload_n (q := 22) g 1 dX9_nextLine_21 rfl rfl rfl ?_
    refine zr_iconst (q := 23) (v := (1 : Int32)) g dX9_nextLine_22 rfl (by decide) ?_
    refine zr_iadd (q := 24) g dX9_nextLine_23 rfl ?_
    obtain ⟨c5, hM⟩ := zw_gd hM
    refine zr_iald (q := 25) g (hI 47 (by decide)) zs_47 c5 dX9_nextLine_24 rfl ?_
    refine zr_icmp_le (q := 28) (tgt := 34) g dX9_nextLine_25 rfl rfl (fun c6 => ?_) (fun c6 => ?_)
    · replace hM := zw_ift c6 hM
      exact U_X9_nextLine_34 ok hI g hr hlk _ _ _ hM
    · replace hM := zw_iff c6 hM
      obtain ⟨y7, e8, hM⟩ := zw_nm_ex hM
      refine zr_iinc (q := 31) (v := y7) (lv' := [(1, .int y7), (0, .ref (E.2.1 31))]) g 1 dX9_nextLine_28 rfl rfl (by rw [e8]; rfl) (by decide) rfl ?_
      refine zr_goto (tgt := 7) g dX9_nextLine_31 rfl ?_
      refine zr_lv (lv' := [(0, .ref (E.2.1 31)), (1, .int y7)]) [1, 0] rfl ?_
      exact eL7 _ _ hM
noncomputable def L_X9_nextLine_7 (w : Int32 × zw_Hp) : Option (Int32 × zw_Hp) :=
  zw_it (fun (k7 : (Int32 × zw_Hp) → Option (Int32 × zw_Hp)) (w : Int32 × zw_Hp) => B_X9_nextLine_7 k7 (w.1) (w.2)) 600 w
theorem UL_X9_nextLine_7 (ok : zw_Ok E) (hI : ∀ i, i < 48 → i ∈ E.2.2.1) (g : zw_G p E (zw_A E) s m args c RX9 cX9_nextLine 5) (hr : meth.sig.returnType = some .boolean) (hlk : meth.locks = false) :
    ∀ (w : Int32 × zw_Hp) (z : Int32 × zw_Hp), L_X9_nextLine_7 w = some z → zw_V p l e s m args below meth c E mt_X9_nextLine 5 (some (.int z.1)) z.2 7 [(0, .ref (E.2.1 31)), (1, .int w.1)] [] w.2 :=
  fun w z hM => zw_it_ind (P := fun (w : Int32 × zw_Hp) (z : Int32 × zw_Hp) => zw_V p l e s m args below meth c E mt_X9_nextLine 5 (some (.int z.1)) z.2 7 [(0, .ref (E.2.1 31)), (1, .int w.1)] [] w.2) (fun k e w z hM => U_X9_nextLine_7 ok hI g hr hlk e _ _ _ hM) 600 w z hM
noncomputable def M_X9_nextLine (h : zw_Hp) : Option (Int32 × zw_Hp) :=
  zw_nm ((h.1 31 6) - (2 : Int32)) (fun y1 => L_X9_nextLine_7 (y1, h))
set_option maxRecDepth 100000 in
set_option maxHeartbeats 4000000 in
theorem R_X9_nextLine (ok : zw_Ok E) (hI : ∀ i, i < 48 → i ∈ E.2.2.1) {h : zw_Hp} {z : Int32 × zw_Hp} (hM : M_X9_nextLine h = some z) : zw_Ct l E mt_X9_nextLine [.ref (E.2.1 31)] h (some (.int z.1)) z.2 := by
  unfold M_X9_nextLine at hM
  refine zw_ct (lv0 := [(0, .ref (E.2.1 31))]) ok (by decide) rfl (Nat.le_of_ble_eq_true rfl) (fun p e s m args below meth c g hr hlk => ?_)
  replace g : zw_G p E (zw_A E) s m args c RX9 cX9_nextLine 5 := g
  show zw_V p l e s m args below meth c E mt_X9_nextLine 5 (some (.int z.1)) z.2 0 [(0, .ref (E.2.1 31))] [] h
  refine zr_aload_n (q := 1) g 0 dX9_nextLine_0 rfl rfl rfl ?_
  refine zr_geti (q := 4) (k0 := 6) g (hI 31 (by decide)) zs_31 rfl zf_X9_63 dX9_nextLine_1 rfl ?_
  refine zr_iconst (q := 5) (v := (2 : Int32)) g dX9_nextLine_4 rfl (by decide) ?_
  refine zr_isub (q := 6) g dX9_nextLine_5 rfl ?_
  obtain ⟨y1, e2, hM⟩ := zw_nm_ex hM
  refine zr_nmi e2 ?_
  refine zr_istore_n (q := 7) (lv' := [(1, .int y1), (0, .ref (E.2.1 31))]) g dX9_nextLine_6 rfl rfl (by decide) rfl ?_
  refine zr_lv (lv' := [(0, .ref (E.2.1 31)), (1, .int y1)]) [1, 0] rfl ?_
  exact UL_X9_nextLine_7 ok hI g hr hlk _ _ hM
noncomputable def B_X9_lineFigures_4 (h : zw_Hp) (k4 : (Int32 × Int32) → Option (Int32)) (x1 : Int32) (x2 : Int32) : Option (Int32) :=
  if (h.1 31 6) ≤ x2 then (some x1) else (if zw_ok x2 5 = true then (zw_nm ((((10 : Int32) * x1) + (h.1 47 (x2).toNatClampNeg)) + (1 : Int32)) (fun y3 => zw_nm (x2 + (1 : Int32)) (fun y5 => k4 (y3, y5)))) else none)
set_option maxRecDepth 100000 in
set_option maxHeartbeats 4000000 in
theorem U_X9_lineFigures_4 {h : zw_Hp} (ok : zw_Ok E) (hI : ∀ i, i < 48 → i ∈ E.2.2.1) (g : zw_G p E (zw_A E) s m args c RX9 cX9_lineFigures 3) (hr : meth.sig.returnType = some .int) (hlk : meth.locks = false) {k4 : (Int32 × Int32) → Option (Int32)} (eL4 : ∀ (w : Int32 × Int32) (z : Int32), k4 w = some z → zw_V p l e s m args below meth c E mt_X9_lineFigures 3 (some (.int z)) h 4 [(0, .ref (E.2.1 31)), (1, .int w.1), (2, .int w.2)] [] h) :
    ∀ (x1 : Int32) (x2 : Int32) (z : Int32), B_X9_lineFigures_4 h k4 x1 x2 = some z → zw_V p l e s m args below meth c E mt_X9_lineFigures 3 (some (.int z)) h 4 [(0, .ref (E.2.1 31)), (1, .int x1), (2, .int x2)] [] h := by
  intro x1 x2 z hM
  unfold B_X9_lineFigures_4 at hM
  refine zr_iload_n (q := 5) g 2 dX9_lineFigures_4 rfl rfl rfl ?_
  refine zr_aload_n (q := 6) g 0 dX9_lineFigures_5 rfl rfl rfl ?_
  refine zr_geti (q := 9) (k0 := 6) g (hI 31 (by decide)) zs_31 rfl zf_X9_63 dX9_lineFigures_6 rfl ?_
  refine zr_icmp_ge (q := 12) (tgt := 32) g dX9_lineFigures_9 rfl rfl (fun c1 => ?_) (fun c1 => ?_)
  · replace hM := zw_ift c1 hM
    refine zr_iload_n (q := 33) g 1 dX9_lineFigures_32 rfl rfl rfl ?_
    cases hM
    exact zr_iret g hr hlk dX9_lineFigures_33 rfl rfl
  · replace hM := zw_iff c1 hM
    refine zr_bipush (q := 14) (v := (10 : Int32)) g dX9_lineFigures_12 rfl (by decide) ?_
    refine zr_iload_n (q := 15) g 1 dX9_lineFigures_14 rfl rfl rfl ?_
    refine zr_imul (q := 16) g dX9_lineFigures_15 rfl ?_
    refine zr_aload_n (q := 17) g 0 dX9_lineFigures_16 rfl rfl rfl ?_
    refine zr_getr (q := 20) (k0 := 37) (j := 47) g (hI 31 (by decide)) zs_31 rfl zf_X9_56 dX9_lineFigures_17 rfl ?_
    refine zr_iload_n (q := 21) g 2 dX9_lineFigures_20 rfl rfl rfl ?_
    obtain ⟨c2, hM⟩ := zw_gd hM
    refine zr_iald (q := 22) g (hI 47 (by decide)) zs_47 c2 dX9_lineFigures_21 rfl ?_
    refine zr_iadd (q := 23) g dX9_lineFigures_22 rfl ?_
    refine zr_iconst (q := 24) (v := (1 : Int32)) g dX9_lineFigures_23 rfl (by decide) ?_
    refine zr_iadd (q := 25) g dX9_lineFigures_24 rfl ?_
    obtain ⟨y3, e4, hM⟩ := zw_nm_ex hM
    refine zr_nmi e4 ?_
    refine zr_istore_n (q := 26) (lv' := [(1, .int y3), (0, .ref (E.2.1 31)), (2, .int x2)]) g dX9_lineFigures_25 rfl rfl (by decide) rfl ?_
    obtain ⟨y5, e6, hM⟩ := zw_nm_ex hM
    refine zr_iinc (q := 29) (v := y5) (lv' := [(2, .int y5), (1, .int y3), (0, .ref (E.2.1 31))]) g 2 dX9_lineFigures_26 rfl rfl (by rw [e6]; rfl) (by decide) rfl ?_
    refine zr_goto (tgt := 4) g dX9_lineFigures_29 rfl ?_
    refine zr_lv (lv' := [(0, .ref (E.2.1 31)), (1, .int y3), (2, .int y5)]) [2, 1, 0] rfl ?_
    exact eL4 _ _ hM
noncomputable def L_X9_lineFigures_4 (h : zw_Hp) (w : Int32 × Int32) : Option (Int32) :=
  zw_it (fun (k4 : (Int32 × Int32) → Option (Int32)) (w : Int32 × Int32) => B_X9_lineFigures_4 h k4 (w.1) (w.2)) 600 w
theorem UL_X9_lineFigures_4 {h : zw_Hp} (ok : zw_Ok E) (hI : ∀ i, i < 48 → i ∈ E.2.2.1) (g : zw_G p E (zw_A E) s m args c RX9 cX9_lineFigures 3) (hr : meth.sig.returnType = some .int) (hlk : meth.locks = false) :
    ∀ (w : Int32 × Int32) (z : Int32), L_X9_lineFigures_4 h w = some z → zw_V p l e s m args below meth c E mt_X9_lineFigures 3 (some (.int z)) h 4 [(0, .ref (E.2.1 31)), (1, .int w.1), (2, .int w.2)] [] h :=
  fun w z hM => zw_it_ind (P := fun (w : Int32 × Int32) (z : Int32) => zw_V p l e s m args below meth c E mt_X9_lineFigures 3 (some (.int z)) h 4 [(0, .ref (E.2.1 31)), (1, .int w.1), (2, .int w.2)] [] h) (fun k e w z hM => U_X9_lineFigures_4 ok hI g hr hlk e _ _ _ hM) 600 w z hM
noncomputable def M_X9_lineFigures (h : zw_Hp) : Option (Int32) :=
  L_X9_lineFigures_4 h ((0 : Int32), (0 : Int32))
set_option maxRecDepth 100000 in
set_option maxHeartbeats 4000000 in
theorem R_X9_lineFigures (ok : zw_Ok E) (hI : ∀ i, i < 48 → i ∈ E.2.2.1) {h : zw_Hp} {z : Int32} (hM : M_X9_lineFigures h = some z) : zw_Ct l E mt_X9_lineFigures [.ref (E.2.1 31)] h (some (.int z)) h := by
  unfold M_X9_lineFigures at hM
  refine zw_ct (lv0 := [(0, .ref (E.2.1 31))]) ok (by decide) rfl (Nat.le_of_ble_eq_true rfl) (fun p e s m args below meth c g hr hlk => ?_)
  replace g : zw_G p E (zw_A E) s m args c RX9 cX9_lineFigures 3 := g
  show zw_V p l e s m args below meth c E mt_X9_lineFigures 3 (some (.int z)) h 0 [(0, .ref (E.2.1 31))] [] h
  refine zr_iconst (q := 1) (v := (0 : Int32)) g dX9_lineFigures_0 rfl (by decide) ?_
  refine zr_istore_n (q := 2) (lv' := [(1, .int (0 : Int32)), (0, .ref (E.2.1 31))]) g dX9_lineFigures_1 rfl rfl (by decide) rfl ?_
  refine zr_iconst (q := 3) (v := (0 : Int32)) g dX9_lineFigures_2 rfl (by decide) ?_
  refine zr_istore_n (q := 4) (lv' := [(2, .int (0 : Int32)), (1, .int (0 : Int32)), (0, .ref (E.2.1 31))]) g dX9_lineFigures_3 rfl rfl (by decide) rfl ?_
  refine zr_lv (lv' := [(0, .ref (E.2.1 31)), (1, .int (0 : Int32)), (2, .int (0 : Int32))]) [2, 1, 0] rfl ?_
  exact UL_X9_lineFigures_4 ok hI g hr hlk _ _ hM
end
