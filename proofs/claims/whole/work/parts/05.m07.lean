section
variable {p : Program} {l : Launch} {e : Env} {s : State} {m : MethodId} {args : Array Value} {below : List Frame} {meth : Method} {c : Code} {E : zw_En}
noncomputable def B_X9_line_147 (k67 : (Int32 × Int32 × Int32 × zw_Hp) → Option (Int32 × zw_Hp)) (x1 : Int32) (x2 : Int32) (h : zw_Hp) : Option (Int32 × zw_Hp) :=
  (M_X9_nextLine h).bind (fun z41 => zw_nm z41.1 (fun y43 => k67 (x1, x2, y43, z41.2)))
set_option maxRecDepth 100000 in
set_option maxHeartbeats 4000000 in
theorem U_X9_line_147 (ok : zw_Ok E) (hI : ∀ i, i < 48 → i ∈ E.2.2.1) (g : zw_G p E (zw_A E) s m args c RX9 cX9_line 5) (hr : meth.sig.returnType = some .int) (hlk : meth.locks = false) {k67 : (Int32 × Int32 × Int32 × zw_Hp) → Option (Int32 × zw_Hp)} (eL67 : ∀ (w : Int32 × Int32 × Int32 × zw_Hp) (z : Int32 × zw_Hp), k67 w = some z → zw_V p l e s m args below meth c E mt_X9_line 5 (some (.int z.1)) z.2 67 [(0, .ref (E.2.1 31)), (1, .int w.1), (2, .int w.2.1), (3, .int w.2.2.1)] [] w.2.2.2) :
    ∀ (x1 : Int32) (x2 : Int32) (h : zw_Hp) (z : Int32 × zw_Hp), B_X9_line_147 k67 x1 x2 h = some z → zw_V p l e s m args below meth c E mt_X9_line 5 (some (.int z.1)) z.2 147 [(0, .ref (E.2.1 31)), (1, .int x1), (2, .int x2)] [] h := by
  intro x1 x2 h z hM
  unfold B_X9_line_147 at hM
  refine zr_aload_n (q := 148) g 0 dX9_line_147 rfl rfl rfl ?_
  obtain ⟨z41, q42, hM⟩ := zw_bd hM
  refine zr_callV (q := 151) (As := []) (rest := []) (st' := [.int z41.1]) (i := 31) g (R_X9_nextLine ok hI q42) zv_X9_nextLine zl_X9_223 (hI 31 (by decide)) zs_31 zc_X9.1 dX9_line_148 rfl rfl ⟨Nat.le_of_ble_eq_true rfl, Nat.le_of_ble_eq_true rfl⟩ ⟨Nat.zero_le _, Nat.zero_le _⟩ (Nat.le_of_ble_eq_true rfl) rfl rfl ?_
  obtain ⟨y43, e44, hM⟩ := zw_nm_ex hM
  refine zr_nmi e44 ?_
  refine zr_istore_n (q := 152) (lv' := [(3, .int y43), (0, .ref (E.2.1 31)), (1, .int x1), (2, .int x2)]) g dX9_line_151 rfl rfl (by decide) rfl ?_
  refine zr_goto (tgt := 67) g dX9_line_152 rfl ?_
  refine zr_lv (lv' := [(0, .ref (E.2.1 31)), (1, .int x1), (2, .int x2), (3, .int y43)]) [1, 2, 3, 0] rfl ?_
  exact eL67 _ _ hM
noncomputable def B_X9_line_78 (k67 : (Int32 × Int32 × Int32 × zw_Hp) → Option (Int32 × zw_Hp)) (k78 : (Int32 × Int32 × Int32 × zw_Hp) → Option (Int32 × zw_Hp)) (x1 : Int32) (x2 : Int32) (x4 : Int32) (h : zw_Hp) : Option (Int32 × zw_Hp) :=
  if (h.1 31 6) ≤ x4 then ((M_X9_goBeats x1 (31 : Int32) h).bind (fun z24 => if zw_ok (19 : Int32) 21 = true then (if (z24.1 38 ((19 : Int32)).toNatClampNeg) ≤ (z24.1 31 29) then (B_X9_line_147 k67 x1 x2 z24) else (if zw_ok (19 : Int32) 21 = true then (zw_nm (zw_up z24 31 29 (z24.1 38 ((19 : Int32)).toNatClampNeg)) (fun h29 => (M_X9_lineFigures h29).bind (fun z31 => zw_nm (zw_up h29 31 30 z31) (fun h33 => B_X9_line_147 k67 x1 x2 h33)))) else none)) else none)) else (if zw_ok x4 5 = true then (if zw_ok x4 21 = true then zw_nm (zw_up h 38 (x4).toNatClampNeg (h.1 47 (x4).toNatClampNeg)) (fun h37 => zw_nm (x4 + (1 : Int32)) (fun y39 => k78 (x1, x2, y39, h37))) else none) else none)
set_option maxRecDepth 100000 in
set_option maxHeartbeats 4000000 in
theorem U_X9_line_78 (ok : zw_Ok E) (hI : ∀ i, i < 48 → i ∈ E.2.2.1) (g : zw_G p E (zw_A E) s m args c RX9 cX9_line 5) (hr : meth.sig.returnType = some .int) (hlk : meth.locks = false) {k67 : (Int32 × Int32 × Int32 × zw_Hp) → Option (Int32 × zw_Hp)} (eL67 : ∀ (w : Int32 × Int32 × Int32 × zw_Hp) (z : Int32 × zw_Hp), k67 w = some z → zw_V p l e s m args below meth c E mt_X9_line 5 (some (.int z.1)) z.2 67 [(0, .ref (E.2.1 31)), (1, .int w.1), (2, .int w.2.1), (3, .int w.2.2.1)] [] w.2.2.2) {k78 : (Int32 × Int32 × Int32 × zw_Hp) → Option (Int32 × zw_Hp)} (eL78 : ∀ (w : Int32 × Int32 × Int32 × zw_Hp) (z : Int32 × zw_Hp), k78 w = some z → zw_V p l e s m args below meth c E mt_X9_line 5 (some (.int z.1)) z.2 78 [(0, .ref (E.2.1 31)), (1, .int w.1), (2, .int w.2.1), (4, .int w.2.2.1)] [] w.2.2.2) :
    ∀ (x1 : Int32) (x2 : Int32) (x4 : Int32) (h : zw_Hp) (z : Int32 × zw_Hp), B_X9_line_78 k67 k78 x1 x2 x4 h = some z → zw_V p l e s m args below meth c E mt_X9_line 5 (some (.int z.1)) z.2 78 [(0, .ref (E.2.1 31)), (1, .int x1), (2, .int x2), (4, .int x4)] [] h := by
  intro x1 x2 x4 h z hM
  unfold B_X9_line_78 at hM
  refine zr_iload (q := 80) g 3 dX9_line_78 rfl rfl ?_
  refine zr_aload_n (q := 81) g 0 dX9_line_80 rfl rfl rfl ?_
  refine zr_geti (q := 84) (k0 := 6) g (hI 31 (by decide)) zs_31 rfl zf_X9_63 dX9_line_81 rfl ?_
  refine zr_icmp_ge (q := 87) (tgt := 107) g dX9_line_84 rfl rfl (fun c23 => ?_) (fun c23 => ?_)
  · replace hM := zw_ift c23 hM
    refine zr_aload_n (q := 108) g 0 dX9_line_107 rfl rfl rfl ?_
    refine zr_iload_n (q := 109) g 1 dX9_line_108 rfl rfl rfl ?_
    refine zr_bipush (q := 111) (v := (31 : Int32)) g dX9_line_109 rfl (by decide) ?_
    obtain ⟨z24, q25, hM⟩ := zw_bd hM
    refine zr_callV (q := 114) (As := [.int x1, .int (31 : Int32)]) (rest := []) (st' := []) (i := 31) g (R_X9_goBeats ok hI q25) zv_X9_goBeats zl_X9_205 (hI 31 (by decide)) zs_31 zc_X9.1 dX9_line_111 rfl rfl ⟨Nat.le_of_ble_eq_true rfl, Nat.le_of_ble_eq_true rfl⟩ ⟨Nat.zero_le _, Nat.zero_le _⟩ (Nat.le_of_ble_eq_true rfl) rfl rfl ?_
    refine zr_aload_n (q := 115) g 0 dX9_line_114 rfl rfl rfl ?_
    refine zr_getr (q := 118) (k0 := 19) (j := 38) g (hI 31 (by decide)) zs_31 rfl zf_X9_28 dX9_line_115 rfl ?_
    refine zr_bipush (q := 120) (v := (19 : Int32)) g dX9_line_118 rfl (by decide) ?_
    obtain ⟨c26, hM⟩ := zw_gd hM
    refine zr_iald (q := 121) g (hI 38 (by decide)) zs_38 c26 dX9_line_120 rfl ?_
    refine zr_aload_n (q := 122) g 0 dX9_line_121 rfl rfl rfl ?_
    refine zr_geti (q := 125) (k0 := 29) g (hI 31 (by decide)) zs_31 rfl zf_X9_211 dX9_line_122 rfl ?_
    refine zr_icmp_le (q := 128) (tgt := 147) g dX9_line_125 rfl rfl (fun c27 => ?_) (fun c27 => ?_)
    · replace hM := zw_ift c27 hM
      refine zr_lv (lv' := [(0, .ref (E.2.1 31)), (1, .int x1), (2, .int x2)]) [0, 1, 2] rfl ?_
      exact U_X9_line_147 ok hI g hr hlk eL67 _ _ _ _ hM
    · replace hM := zw_iff c27 hM
      refine zr_aload_n (q := 129) g 0 dX9_line_128 rfl rfl rfl ?_
      refine zr_aload_n (q := 130) g 0 dX9_line_129 rfl rfl rfl ?_
      refine zr_getr (q := 133) (k0 := 19) (j := 38) g (hI 31 (by decide)) zs_31 rfl zf_X9_28 dX9_line_130 rfl ?_
      refine zr_bipush (q := 135) (v := (19 : Int32)) g dX9_line_133 rfl (by decide) ?_
      obtain ⟨c28, hM⟩ := zw_gd hM
      refine zr_iald (q := 136) g (hI 38 (by decide)) zs_38 c28 dX9_line_135 rfl ?_
      obtain ⟨h29, e30, hM⟩ := zw_nm_ex hM
      refine zr_puti (q := 139) (k0 := 29) (h' := h29) g (hI 31 (by decide)) zs_31 rfl zp_X9_211 dX9_line_136 rfl e30 ?_
      refine zr_aload_n (q := 140) g 0 dX9_line_139 rfl rfl rfl ?_
      refine zr_aload_n (q := 141) g 0 dX9_line_140 rfl rfl rfl ?_
      obtain ⟨z31, q32, hM⟩ := zw_bd hM
      refine zr_callV (q := 144) (As := []) (rest := [.ref (E.2.1 31)]) (st' := [.int z31, .ref (E.2.1 31)]) (i := 31) g (R_X9_lineFigures ok hI q32) zv_X9_lineFigures zl_X9_220 (hI 31 (by decide)) zs_31 zc_X9.1 dX9_line_141 rfl rfl ⟨Nat.le_of_ble_eq_true rfl, Nat.le_of_ble_eq_true rfl⟩ ⟨Nat.zero_le _, Nat.zero_le _⟩ (Nat.le_of_ble_eq_true rfl) rfl rfl ?_
      obtain ⟨h33, e34, hM⟩ := zw_nm_ex hM
      refine zr_puti (q := 147) (k0 := 30) (h' := h33) g (hI 31 (by decide)) zs_31 rfl zp_X9_214 dX9_line_144 rfl e34 ?_
      refine zr_lv (lv' := [(0, .ref (E.2.1 31)), (1, .int x1), (2, .int x2)]) [0, 1, 2] rfl ?_
      exact U_X9_line_147 ok hI g hr hlk eL67 _ _ _ _ hM
  · replace hM := zw_iff c23 hM
    refine zr_aload_n (q := 88) g 0 dX9_line_87 rfl rfl rfl ?_
    refine zr_getr (q := 91) (k0 := 19) (j := 38) g (hI 31 (by decide)) zs_31 rfl zf_X9_28 dX9_line_88 rfl ?_
    refine zr_iload (q := 93) g 3 dX9_line_91 rfl rfl ?_
    refine zr_aload_n (q := 94) g 0 dX9_line_93 rfl rfl rfl ?_
    refine zr_getr (q := 97) (k0 := 37) (j := 47) g (hI 31 (by decide)) zs_31 rfl zf_X9_56 dX9_line_94 rfl ?_
    refine zr_iload (q := 99) g 3 dX9_line_97 rfl rfl ?_
    obtain ⟨c35, hM⟩ := zw_gd hM
    refine zr_iald (q := 100) g (hI 47 (by decide)) zs_47 c35 dX9_line_99 rfl ?_
    obtain ⟨c36, hM⟩ := zw_gd hM
    obtain ⟨h37, e38, hM⟩ := zw_nm_ex hM
    refine zr_iast (q := 101) (h' := h37) g (hI 38 (by decide)) zs_38 c36 dX9_line_100 rfl e38 ?_
    obtain ⟨y39, e40, hM⟩ := zw_nm_ex hM
    refine zr_iinc (q := 104) (v := y39) (lv' := [(4, .int y39), (0, .ref (E.2.1 31)), (1, .int x1), (2, .int x2)]) g 3 dX9_line_101 rfl rfl (by rw [e40]; rfl) (by decide) rfl ?_
    refine zr_goto (tgt := 78) g dX9_line_104 rfl ?_
    refine zr_lv (lv' := [(0, .ref (E.2.1 31)), (1, .int x1), (2, .int x2), (4, .int y39)]) [1, 2, 3, 0] rfl ?_
    exact eL78 _ _ hM
noncomputable def L_X9_line_78 (k67 : (Int32 × Int32 × Int32 × zw_Hp) → Option (Int32 × zw_Hp)) (w : Int32 × Int32 × Int32 × zw_Hp) : Option (Int32 × zw_Hp) :=
  zw_it (fun (k78 : (Int32 × Int32 × Int32 × zw_Hp) → Option (Int32 × zw_Hp)) (w : Int32 × Int32 × Int32 × zw_Hp) => B_X9_line_78 k67 k78 (w.1) (w.2.1) (w.2.2.1) (w.2.2.2)) 600 w
theorem UL_X9_line_78 (ok : zw_Ok E) (hI : ∀ i, i < 48 → i ∈ E.2.2.1) (g : zw_G p E (zw_A E) s m args c RX9 cX9_line 5) (hr : meth.sig.returnType = some .int) (hlk : meth.locks = false) {k67 : (Int32 × Int32 × Int32 × zw_Hp) → Option (Int32 × zw_Hp)} (eL67 : ∀ (w : Int32 × Int32 × Int32 × zw_Hp) (z : Int32 × zw_Hp), k67 w = some z → zw_V p l e s m args below meth c E mt_X9_line 5 (some (.int z.1)) z.2 67 [(0, .ref (E.2.1 31)), (1, .int w.1), (2, .int w.2.1), (3, .int w.2.2.1)] [] w.2.2.2) :
    ∀ (w : Int32 × Int32 × Int32 × zw_Hp) (z : Int32 × zw_Hp), L_X9_line_78 k67 w = some z → zw_V p l e s m args below meth c E mt_X9_line 5 (some (.int z.1)) z.2 78 [(0, .ref (E.2.1 31)), (1, .int w.1), (2, .int w.2.1), (4, .int w.2.2.1)] [] w.2.2.2 :=
  fun w z hM => zw_it_ind (P := fun (w : Int32 × Int32 × Int32 × zw_Hp) (z : Int32 × zw_Hp) => zw_V p l e s m args below meth c E mt_X9_line 5 (some (.int z.1)) z.2 78 [(0, .ref (E.2.1 31)), (1, .int w.1), (2, .int w.2.1), (4, .int w.2.2.1)] [] w.2.2.2) (fun k e w z hM => U_X9_line_78 ok hI g hr hlk eL67 e _ _ _ _ _ hM) 600 w z hM
noncomputable def B_X9_line_67 (k67 : (Int32 × Int32 × Int32 × zw_Hp) → Option (Int32 × zw_Hp)) (x1 : Int32) (x2 : Int32) (x3 : Int32) (h : zw_Hp) : Option (Int32 × zw_Hp) :=
  if x3 = 0 then (if x2 = 0 then (some ((h.1 31 29), h)) else (some ((h.1 31 30), h))) else ((M_X9_begin h).bind (fun z21 => L_X9_line_78 k67 (x1, x2, (0 : Int32), z21)))
set_option maxRecDepth 100000 in
set_option maxHeartbeats 4000000 in
theorem U_X9_line_67 (ok : zw_Ok E) (hI : ∀ i, i < 48 → i ∈ E.2.2.1) (g : zw_G p E (zw_A E) s m args c RX9 cX9_line 5) (hr : meth.sig.returnType = some .int) (hlk : meth.locks = false) {k67 : (Int32 × Int32 × Int32 × zw_Hp) → Option (Int32 × zw_Hp)} (eL67 : ∀ (w : Int32 × Int32 × Int32 × zw_Hp) (z : Int32 × zw_Hp), k67 w = some z → zw_V p l e s m args below meth c E mt_X9_line 5 (some (.int z.1)) z.2 67 [(0, .ref (E.2.1 31)), (1, .int w.1), (2, .int w.2.1), (3, .int w.2.2.1)] [] w.2.2.2) :
    ∀ (x1 : Int32) (x2 : Int32) (x3 : Int32) (h : zw_Hp) (z : Int32 × zw_Hp), B_X9_line_67 k67 x1 x2 x3 h = some z → zw_V p l e s m args below meth c E mt_X9_line 5 (some (.int z.1)) z.2 67 [(0, .ref (E.2.1 31)), (1, .int x1), (2, .int x2), (3, .int x3)] [] h := by
  intro x1 x2 x3 h z hM
  unfold B_X9_line_67 at hM
  refine zr_iload_n (q := 68) g 3 dX9_line_67 rfl rfl rfl ?_
  refine zr_if_eq (q := 71) (tgt := 155) g dX9_line_68 rfl rfl (fun c19 => ?_) (fun c19 => ?_)
  · replace hM := zw_ift c19 hM
    refine zr_iload_n (q := 156) g 2 dX9_line_155 rfl rfl rfl ?_
    refine zr_if_ne (q := 159) (tgt := 166) g dX9_line_156 rfl rfl (fun c20 => ?_) (fun c20 => ?_)
    · replace hM := zw_iff c20 hM
      refine zr_aload_n (q := 167) g 0 dX9_line_166 rfl rfl rfl ?_
      refine zr_geti (q := 170) (k0 := 30) g (hI 31 (by decide)) zs_31 rfl zf_X9_214 dX9_line_167 rfl ?_
      cases hM
      exact zr_iret g hr hlk dX9_line_170 rfl rfl
    · replace hM := zw_ift c20 hM
      refine zr_aload_n (q := 160) g 0 dX9_line_159 rfl rfl rfl ?_
      refine zr_geti (q := 163) (k0 := 29) g (hI 31 (by decide)) zs_31 rfl zf_X9_211 dX9_line_160 rfl ?_
      refine zr_goto (tgt := 170) g dX9_line_163 rfl ?_
      cases hM
      exact zr_iret g hr hlk dX9_line_170 rfl rfl
  · replace hM := zw_iff c19 hM
    refine zr_aload_n (q := 72) g 0 dX9_line_71 rfl rfl rfl ?_
    obtain ⟨z21, q22, hM⟩ := zw_bd hM
    refine zr_callV (q := 75) (As := []) (rest := []) (st' := []) (i := 31) g (R_X9_begin ok hI q22) zv_X9_begin zl_X9_202 (hI 31 (by decide)) zs_31 zc_X9.1 dX9_line_72 rfl rfl ⟨Nat.le_of_ble_eq_true rfl, Nat.le_of_ble_eq_true rfl⟩ ⟨Nat.zero_le _, Nat.zero_le _⟩ (Nat.le_of_ble_eq_true rfl) rfl rfl ?_
    refine zr_iconst (q := 76) (v := (0 : Int32)) g dX9_line_75 rfl (by decide) ?_
    refine zr_istore (q := 78) (lv' := [(4, .int (0 : Int32)), (0, .ref (E.2.1 31)), (1, .int x1), (2, .int x2), (3, .int x3)]) g dX9_line_76 rfl (by decide) rfl ?_
    refine zr_lv (lv' := [(0, .ref (E.2.1 31)), (1, .int x1), (2, .int x2), (4, .int (0 : Int32))]) [1, 2, 3, 0] rfl ?_
    exact UL_X9_line_78 ok hI g hr hlk eL67 _ _ hM
noncomputable def L_X9_line_67 (w : Int32 × Int32 × Int32 × zw_Hp) : Option (Int32 × zw_Hp) :=
  zw_it (fun (k67 : (Int32 × Int32 × Int32 × zw_Hp) → Option (Int32 × zw_Hp)) (w : Int32 × Int32 × Int32 × zw_Hp) => B_X9_line_67 k67 (w.1) (w.2.1) (w.2.2.1) (w.2.2.2)) 600 w
theorem UL_X9_line_67 (ok : zw_Ok E) (hI : ∀ i, i < 48 → i ∈ E.2.2.1) (g : zw_G p E (zw_A E) s m args c RX9 cX9_line 5) (hr : meth.sig.returnType = some .int) (hlk : meth.locks = false) :
    ∀ (w : Int32 × Int32 × Int32 × zw_Hp) (z : Int32 × zw_Hp), L_X9_line_67 w = some z → zw_V p l e s m args below meth c E mt_X9_line 5 (some (.int z.1)) z.2 67 [(0, .ref (E.2.1 31)), (1, .int w.1), (2, .int w.2.1), (3, .int w.2.2.1)] [] w.2.2.2 :=
  fun w z hM => zw_it_ind (P := fun (w : Int32 × Int32 × Int32 × zw_Hp) (z : Int32 × zw_Hp) => zw_V p l e s m args below meth c E mt_X9_line 5 (some (.int z.1)) z.2 67 [(0, .ref (E.2.1 31)), (1, .int w.1), (2, .int w.2.1), (3, .int w.2.2.1)] [] w.2.2.2) (fun k e w z hM => U_X9_line_67 ok hI g hr hlk e _ _ _ _ _ hM) 600 w z hM
noncomputable def B_X9_line_32 (k32 : (Int32 × Int32 × Int32 × zw_Hp) → Option (Int32 × zw_Hp)) (x1 : Int32) (x2 : Int32) (x3 : Int32) (h : zw_Hp) : Option (Int32 × zw_Hp) :=
  if (h.1 31 6) ≤ x3 then (zw_nm (zw_up h 31 29 (-9 : Int32)) (fun h10 => zw_nm (zw_up h10 31 30 (-9 : Int32)) (fun h12 => L_X9_line_67 (x1, x2, (1 : Int32), h12)))) else (if zw_ok x3 5 = true then zw_nm (zw_up h 47 (x3).toNatClampNeg x3) (fun h15 => zw_nm (x3 + (1 : Int32)) (fun y17 => k32 (x1, x2, y17, h15))) else none)
set_option maxRecDepth 100000 in
set_option maxHeartbeats 4000000 in
theorem U_X9_line_32 (ok : zw_Ok E) (hI : ∀ i, i < 48 → i ∈ E.2.2.1) (g : zw_G p E (zw_A E) s m args c RX9 cX9_line 5) (hr : meth.sig.returnType = some .int) (hlk : meth.locks = false) {k32 : (Int32 × Int32 × Int32 × zw_Hp) → Option (Int32 × zw_Hp)} (eL32 : ∀ (w : Int32 × Int32 × Int32 × zw_Hp) (z : Int32 × zw_Hp), k32 w = some z → zw_V p l e s m args below meth c E mt_X9_line 5 (some (.int z.1)) z.2 32 [(0, .ref (E.2.1 31)), (1, .int w.1), (2, .int w.2.1), (3, .int w.2.2.1)] [] w.2.2.2) :
    ∀ (x1 : Int32) (x2 : Int32) (x3 : Int32) (h : zw_Hp) (z : Int32 × zw_Hp), B_X9_line_32 k32 x1 x2 x3 h = some z → zw_V p l e s m args below meth c E mt_X9_line 5 (some (.int z.1)) z.2 32 [(0, .ref (E.2.1 31)), (1, .int x1), (2, .int x2), (3, .int x3)] [] h := by
  intro x1 x2 x3 h z hM
  unfold B_X9_line_32 at hM
  refine zr_iload_n (q := 33) g 3 dX9_line_32 rfl rfl rfl ?_
  refine zr_aload_n (q := 34) g 0 dX9_line_33 rfl rfl rfl ?_
  refine zr_geti (q := 37) (k0 := 6) g (hI 31 (by decide)) zs_31 rfl zf_X9_63 dX9_line_34 rfl ?_
  refine zr_icmp_ge (q := 40) (tgt := 53) g dX9_line_37 rfl rfl (fun c9 => ?_) (fun c9 => ?_)
  · replace hM := zw_ift c9 hM
    refine zr_aload_n (q := 54) g 0 dX9_line_53 rfl rfl rfl ?_
    refine zr_bipush (q := 56) (v := (-9 : Int32)) g dX9_line_54 rfl (by decide) ?_
    obtain ⟨h10, e11, hM⟩ := zw_nm_ex hM
    refine zr_puti (q := 59) (k0 := 29) (h' := h10) g (hI 31 (by decide)) zs_31 rfl zp_X9_211 dX9_line_56 rfl e11 ?_
    refine zr_aload_n (q := 60) g 0 dX9_line_59 rfl rfl rfl ?_
    refine zr_bipush (q := 62) (v := (-9 : Int32)) g dX9_line_60 rfl (by decide) ?_
    obtain ⟨h12, e13, hM⟩ := zw_nm_ex hM
    refine zr_puti (q := 65) (k0 := 30) (h' := h12) g (hI 31 (by decide)) zs_31 rfl zp_X9_214 dX9_line_62 rfl e13 ?_
    refine zr_iconst (q := 66) (v := (1 : Int32)) g dX9_line_65 rfl (by decide) ?_
    refine zr_istore_n (q := 67) (lv' := [(3, .int (1 : Int32)), (0, .ref (E.2.1 31)), (1, .int x1), (2, .int x2)]) g dX9_line_66 rfl rfl (by decide) rfl ?_
    refine zr_lv (lv' := [(0, .ref (E.2.1 31)), (1, .int x1), (2, .int x2), (3, .int (1 : Int32))]) [1, 2, 3, 0] rfl ?_
    exact UL_X9_line_67 ok hI g hr hlk _ _ hM
  · replace hM := zw_iff c9 hM
    refine zr_aload_n (q := 41) g 0 dX9_line_40 rfl rfl rfl ?_
    refine zr_getr (q := 44) (k0 := 37) (j := 47) g (hI 31 (by decide)) zs_31 rfl zf_X9_56 dX9_line_41 rfl ?_
    refine zr_iload_n (q := 45) g 3 dX9_line_44 rfl rfl rfl ?_
    refine zr_iload_n (q := 46) g 3 dX9_line_45 rfl rfl rfl ?_
    obtain ⟨c14, hM⟩ := zw_gd hM
    obtain ⟨h15, e16, hM⟩ := zw_nm_ex hM
    refine zr_iast (q := 47) (h' := h15) g (hI 47 (by decide)) zs_47 c14 dX9_line_46 rfl e16 ?_
    obtain ⟨y17, e18, hM⟩ := zw_nm_ex hM
    refine zr_iinc (q := 50) (v := y17) (lv' := [(3, .int y17), (0, .ref (E.2.1 31)), (1, .int x1), (2, .int x2)]) g 3 dX9_line_47 rfl rfl (by rw [e18]; rfl) (by decide) rfl ?_
    refine zr_goto (tgt := 32) g dX9_line_50 rfl ?_
    refine zr_lv (lv' := [(0, .ref (E.2.1 31)), (1, .int x1), (2, .int x2), (3, .int y17)]) [1, 2, 3, 0] rfl ?_
    exact eL32 _ _ hM
noncomputable def L_X9_line_32 (w : Int32 × Int32 × Int32 × zw_Hp) : Option (Int32 × zw_Hp) :=
  zw_it (fun (k32 : (Int32 × Int32 × Int32 × zw_Hp) → Option (Int32 × zw_Hp)) (w : Int32 × Int32 × Int32 × zw_Hp) => B_X9_line_32 k32 (w.1) (w.2.1) (w.2.2.1) (w.2.2.2)) 600 w
theorem UL_X9_line_32 (ok : zw_Ok E) (hI : ∀ i, i < 48 → i ∈ E.2.2.1) (g : zw_G p E (zw_A E) s m args c RX9 cX9_line 5) (hr : meth.sig.returnType = some .int) (hlk : meth.locks = false) :
    ∀ (w : Int32 × Int32 × Int32 × zw_Hp) (z : Int32 × zw_Hp), L_X9_line_32 w = some z → zw_V p l e s m args below meth c E mt_X9_line 5 (some (.int z.1)) z.2 32 [(0, .ref (E.2.1 31)), (1, .int w.1), (2, .int w.2.1), (3, .int w.2.2.1)] [] w.2.2.2 :=
  fun w z hM => zw_it_ind (P := fun (w : Int32 × Int32 × Int32 × zw_Hp) (z : Int32 × zw_Hp) => zw_V p l e s m args below meth c E mt_X9_line 5 (some (.int z.1)) z.2 32 [(0, .ref (E.2.1 31)), (1, .int w.1), (2, .int w.2.1), (3, .int w.2.2.1)] [] w.2.2.2) (fun k e w z hM => U_X9_line_32 ok hI g hr hlk e _ _ _ _ _ hM) 600 w z hM
noncomputable def M_X9_line (x1 : Int32) (x2 : Int32) (h : zw_Hp) : Option (Int32 × zw_Hp) :=
  zw_nm (zw_up h 31 0 (0 : Int32)) (fun h1 => (M_X9_in (x1).toInt64 (1 : Int64) (20 : Int64) h1).bind (fun z3 => if z3 = 0 then (some ((-2 : Int32), h1)) else ((M_X9_in (x2).toInt64 (0 : Int64) (1 : Int64) h1).bind (fun z6 => if z6 = 0 then (some ((-2 : Int32), h1)) else (L_X9_line_32 (x1, x2, (0 : Int32), h1))))))
set_option maxRecDepth 100000 in
set_option maxHeartbeats 4000000 in
theorem R_X9_line (ok : zw_Ok E) (hI : ∀ i, i < 48 → i ∈ E.2.2.1) {x1 : Int32} {x2 : Int32} {h : zw_Hp} {z : Int32 × zw_Hp} (hM : M_X9_line x1 x2 h = some z) : zw_Ct l E mt_X9_line [.ref (E.2.1 31), .int x1, .int x2] h (some (.int z.1)) z.2 := by
  unfold M_X9_line at hM
  refine zw_ct (lv0 := [(0, .ref (E.2.1 31)), (1, .int x1), (2, .int x2)]) ok (by decide) rfl (Nat.le_of_ble_eq_true rfl) (fun p e s m args below meth c g hr hlk => ?_)
  replace g : zw_G p E (zw_A E) s m args c RX9 cX9_line 5 := g
  show zw_V p l e s m args below meth c E mt_X9_line 5 (some (.int z.1)) z.2 0 [(0, .ref (E.2.1 31)), (1, .int x1), (2, .int x2)] [] h
  refine zr_aload_n (q := 1) g 0 dX9_line_0 rfl rfl rfl ?_
  refine zr_iconst (q := 2) (v := (0 : Int32)) g dX9_line_1 rfl (by decide) ?_
  obtain ⟨h1, e2, hM⟩ := zw_nm_ex hM
  refine zr_puti (q := 5) (k0 := 0) (h' := h1) g (hI 31 (by decide)) zs_31 rfl zp_X9_59 dX9_line_2 rfl e2 ?_
  refine zr_iload_n (q := 6) g 1 dX9_line_5 rfl rfl rfl ?_
  refine zr_i2l (q := 7) g dX9_line_6 rfl ?_
  refine zr_lconst (q := 8) (v := (1 : Int64)) g dX9_line_7 rfl (by decide) ?_
  refine zr_ldc2 (q := 11) (v := (20 : Int64)) g dX9_line_8 rfl zk_X9_209 ?_
  obtain ⟨z3, q4, hM⟩ := zw_bd hM
  refine zr_callS (q := 14) (As := [.long (x1).toInt64, .long (1 : Int64), .long (20 : Int64)]) (rest := []) (st' := [.int z3]) g (R_X9_in ok hI q4) zv_X9_in zl_X9_66 dX9_line_11 rfl rfl ⟨Nat.le_of_ble_eq_true rfl, Nat.le_of_ble_eq_true rfl⟩ ⟨Nat.zero_le _, Nat.zero_le _⟩ (Nat.le_of_ble_eq_true rfl) rfl rfl ?_
  refine zr_if_eq (q := 17) (tgt := 27) g dX9_line_14 rfl rfl (fun c5 => ?_) (fun c5 => ?_)
  · replace hM := zw_ift c5 hM
    refine zr_bipush (q := 29) (v := (-2 : Int32)) g dX9_line_27 rfl (by decide) ?_
    cases hM
    exact zr_iret g hr hlk dX9_line_29 rfl rfl
  · replace hM := zw_iff c5 hM
    refine zr_iload_n (q := 18) g 2 dX9_line_17 rfl rfl rfl ?_
    refine zr_i2l (q := 19) g dX9_line_18 rfl ?_
    refine zr_lconst (q := 20) (v := (0 : Int64)) g dX9_line_19 rfl (by decide) ?_
    refine zr_lconst (q := 21) (v := (1 : Int64)) g dX9_line_20 rfl (by decide) ?_
    obtain ⟨z6, q7, hM⟩ := zw_bd hM
    refine zr_callS (q := 24) (As := [.long (x2).toInt64, .long (0 : Int64), .long (1 : Int64)]) (rest := []) (st' := [.int z6]) g (R_X9_in ok hI q7) zv_X9_in zl_X9_66 dX9_line_21 rfl rfl ⟨Nat.le_of_ble_eq_true rfl, Nat.le_of_ble_eq_true rfl⟩ ⟨Nat.zero_le _, Nat.zero_le _⟩ (Nat.le_of_ble_eq_true rfl) rfl rfl ?_
    refine zr_if_ne (q := 27) (tgt := 30) g dX9_line_24 rfl rfl (fun c8 => ?_) (fun c8 => ?_)
    · replace hM := zw_iff c8 hM
      refine zr_iconst (q := 31) (v := (0 : Int32)) g dX9_line_30 rfl (by decide) ?_
      refine zr_istore_n (q := 32) (lv' := [(3, .int (0 : Int32)), (0, .ref (E.2.1 31)), (1, .int x1), (2, .int x2)]) g dX9_line_31 rfl rfl (by decide) rfl ?_
      refine zr_lv (lv' := [(0, .ref (E.2.1 31)), (1, .int x1), (2, .int x2), (3, .int (0 : Int32))]) [1, 2, 3, 0] rfl ?_
      exact UL_X9_line_32 ok hI g hr hlk _ _ hM
    · replace hM := zw_ift c8 hM
      refine zr_bipush (q := 29) (v := (-2 : Int32)) g dX9_line_27 rfl (by decide) ?_
      cases hM
      exact zr_iret g hr hlk dX9_line_29 rfl rfl
noncomputable def B_X9_longPower_5 (h : zw_Hp) (k5 : (Int64 × Int32 × Int64 × Int32) → Option (Int64)) (x0 : Int64) (x2 : Int32) (x3 : Int64) (x5 : Int32) : Option (Int64) :=
  if x2 ≤ x5 then (some x3) else (zw_nm (x3 * x0) (fun y2 => zw_nm (x5 + (1 : Int32)) (fun y4 => k5 (x0, x2, y2, y4))))
set_option maxRecDepth 100000 in
set_option maxHeartbeats 4000000 in
theorem U_X9_longPower_5 {h : zw_Hp} (ok : zw_Ok E) (hI : ∀ i, i < 48 → i ∈ E.2.2.1) (g : zw_G p E (zw_A E) s m args c RX9 cX9_longPower 6) (hr : meth.sig.returnType = some .long) (hlk : meth.locks = false) {k5 : (Int64 × Int32 × Int64 × Int32) → Option (Int64)} (eL5 : ∀ (w : Int64 × Int32 × Int64 × Int32) (z : Int64), k5 w = some z → zw_V p l e s m args below meth c E mt_X9_longPower 6 (some (.long z)) h 5 [(0, .long w.1), (2, .int w.2.1), (3, .long w.2.2.1), (5, .int w.2.2.2)] [] h) :
    ∀ (x0 : Int64) (x2 : Int32) (x3 : Int64) (x5 : Int32) (z : Int64), B_X9_longPower_5 h k5 x0 x2 x3 x5 = some z → zw_V p l e s m args below meth c E mt_X9_longPower 6 (some (.long z)) h 5 [(0, .long x0), (2, .int x2), (3, .long x3), (5, .int x5)] [] h := by
  intro x0 x2 x3 x5 z hM
  unfold B_X9_longPower_5 at hM
  refine zr_iload (q := 7) g 3 dX9_longPower_5 rfl rfl ?_
  refine zr_iload_n (q := 8) g 1 dX9_longPower_7 rfl rfl rfl ?_
  refine zr_icmp_ge (q := 11) (tgt := 21) g dX9_longPower_8 rfl rfl (fun c1 => ?_) (fun c1 => ?_)
  · replace hM := zw_ift c1 hM
    refine zr_lload_n (q := 22) g 2 dX9_longPower_21 rfl rfl rfl ?_
    cases hM
    exact zr_lret g hr hlk dX9_longPower_22 rfl rfl
  · replace hM := zw_iff c1 hM
    refine zr_lload_n (q := 12) g 2 dX9_longPower_11 rfl rfl rfl ?_
    refine zr_lload_n (q := 13) g 0 dX9_longPower_12 rfl rfl rfl ?_
    refine zr_lmul (q := 14) g dX9_longPower_13 rfl ?_
    obtain ⟨y2, e3, hM⟩ := zw_nm_ex hM
    refine zr_nml e3 ?_
    refine zr_lstore_n (q := 15) (lv' := [(3, .long y2), (0, .long x0), (2, .int x2), (5, .int x5)]) g dX9_longPower_14 rfl rfl (by decide) rfl ?_
    obtain ⟨y4, e5, hM⟩ := zw_nm_ex hM
    refine zr_iinc (q := 18) (v := y4) (lv' := [(5, .int y4), (3, .long y2), (0, .long x0), (2, .int x2)]) g 3 dX9_longPower_15 rfl rfl (by rw [e5]; rfl) (by decide) rfl ?_
    refine zr_goto (tgt := 5) g dX9_longPower_18 rfl ?_
    refine zr_lv (lv' := [(0, .long x0), (2, .int x2), (3, .long y2), (5, .int y4)]) [2, 3, 1, 0] rfl ?_
    exact eL5 _ _ hM
noncomputable def L_X9_longPower_5 (h : zw_Hp) (w : Int64 × Int32 × Int64 × Int32) : Option (Int64) :=
  zw_it (fun (k5 : (Int64 × Int32 × Int64 × Int32) → Option (Int64)) (w : Int64 × Int32 × Int64 × Int32) => B_X9_longPower_5 h k5 (w.1) (w.2.1) (w.2.2.1) (w.2.2.2)) 600 w
theorem UL_X9_longPower_5 {h : zw_Hp} (ok : zw_Ok E) (hI : ∀ i, i < 48 → i ∈ E.2.2.1) (g : zw_G p E (zw_A E) s m args c RX9 cX9_longPower 6) (hr : meth.sig.returnType = some .long) (hlk : meth.locks = false) :
    ∀ (w : Int64 × Int32 × Int64 × Int32) (z : Int64), L_X9_longPower_5 h w = some z → zw_V p l e s m args below meth c E mt_X9_longPower 6 (some (.long z)) h 5 [(0, .long w.1), (2, .int w.2.1), (3, .long w.2.2.1), (5, .int w.2.2.2)] [] h :=
  fun w z hM => zw_it_ind (P := fun (w : Int64 × Int32 × Int64 × Int32) (z : Int64) => zw_V p l e s m args below meth c E mt_X9_longPower 6 (some (.long z)) h 5 [(0, .long w.1), (2, .int w.2.1), (3, .long w.2.2.1), (5, .int w.2.2.2)] [] h) (fun k e w z hM => U_X9_longPower_5 ok hI g hr hlk e _ _ _ _ _ hM) 600 w z hM
noncomputable def M_X9_longPower (x0 : Int64) (x2 : Int32) (h : zw_Hp) : Option (Int64) :=
  L_X9_longPower_5 h (x0, x2, (1 : Int64), (0 : Int32))
set_option maxRecDepth 100000 in
set_option maxHeartbeats 4000000 in
theorem R_X9_longPower (ok : zw_Ok E) (hI : ∀ i, i < 48 → i ∈ E.2.2.1) {x0 : Int64} {x2 : Int32} {h : zw_Hp} {z : Int64} (hM : M_X9_longPower x0 x2 h = some z) : zw_Ct l E mt_X9_longPower [.long x0, .int x2] h (some (.long z)) h := by
  unfold M_X9_longPower at hM
  refine zw_ct (lv0 := [(0, .long x0), (2, .int x2)]) ok (by decide) rfl (Nat.le_of_ble_eq_true rfl) (fun p e s m args below meth c g hr hlk => ?_)
  replace g : zw_G p E (zw_A E) s m args c RX9 cX9_longPower 6 := g
  show zw_V p l e s m args below meth c E mt_X9_longPower 6 (some (.long z)) h 0 [(0, .long x0), (2, .int x2)] [] h
  refine zr_lconst (q := 1) (v := (1 : Int64)) g dX9_longPower_0 rfl (by decide) ?_
  refine zr_lstore_n (q := 2) (lv' := [(3, .long (1 : Int64)), (0, .long x0), (2, .int x2)]) g dX9_longPower_1 rfl rfl (by decide) rfl ?_
  refine zr_iconst (q := 3) (v := (0 : Int32)) g dX9_longPower_2 rfl (by decide) ?_
  refine zr_istore (q := 5) (lv' := [(5, .int (0 : Int32)), (3, .long (1 : Int64)), (0, .long x0), (2, .int x2)]) g dX9_longPower_3 rfl (by decide) rfl ?_
  refine zr_lv (lv' := [(0, .long x0), (2, .int x2), (3, .long (1 : Int64)), (5, .int (0 : Int32))]) [2, 3, 1, 0] rfl ?_
  exact UL_X9_longPower_5 ok hI g hr hlk _ _ hM
noncomputable def B_X9_changes_26 (x1 : Int32) (x2 : Int32) (s0 : Int32) (h : zw_Hp) : Option (Int32 × zw_Hp) :=
  if s0 = 0 then (if s0 = 0 ∨ s0 = 1 then some (s0, h) else none) else ((M_X9_goChange 38 x1 x2 h).bind (fun z10 => if s0 = 0 ∨ s0 = 1 then some (s0, z10) else none))
set_option maxRecDepth 100000 in
set_option maxHeartbeats 4000000 in
theorem U_X9_changes_26 (ok : zw_Ok E) (hI : ∀ i, i < 48 → i ∈ E.2.2.1) (g : zw_G p E (zw_A E) s m args c RX9 cX9_changes 4) (hr : meth.sig.returnType = some .boolean) (hlk : meth.locks = false) :
    ∀ (x1 : Int32) (x2 : Int32) (s0 : Int32) (h : zw_Hp) (z : Int32 × zw_Hp), B_X9_changes_26 x1 x2 s0 h = some z → zw_V p l e s m args below meth c E mt_X9_changes 4 (some (.int z.1)) z.2 26 [(0, .ref (E.2.1 31)), (1, .int x1), (2, .int x2)] [.int s0] h := by
  intro x1 x2 s0 h z hM
  unfold B_X9_changes_26 at hM
  refine zr_istore_n (q := 27) (lv' := [(3, .int s0), (0, .ref (E.2.1 31)), (1, .int x1), (2, .int x2)]) g dX9_changes_26 rfl rfl (by decide) rfl ?_
  refine zr_iload_n (q := 28) g 0 dX9_changes_27 rfl rfl rfl ?_
  refine zr_if_eq (q := 31) (tgt := 41) g dX9_changes_28 rfl rfl (fun c8 => ?_) (fun c8 => ?_)
  · replace hM := zw_ift c8 hM
    refine zr_iload_n (q := 42) g 0 dX9_changes_41 rfl rfl rfl ?_
    obtain ⟨c9, hM⟩ := zw_gp hM
    cases hM
    exact zr_zret g hr hlk c9 dX9_changes_42 rfl rfl
  · replace hM := zw_iff c8 hM
    refine zr_aload_n (q := 32) g 1 dX9_changes_31 rfl rfl rfl ?_
    refine zr_aload_n (q := 33) g 1 dX9_changes_32 rfl rfl rfl ?_
    refine zr_getr (q := 36) (k0 := 19) (j := 38) g (hI 31 (by decide)) zs_31 rfl zf_X9_28 dX9_changes_33 rfl ?_
    refine zr_iload_n (q := 37) g 2 dX9_changes_36 rfl rfl rfl ?_
    refine zr_iload_n (q := 38) g 3 dX9_changes_37 rfl rfl rfl ?_
    obtain ⟨z10, q11, hM⟩ := zw_bd hM
    refine zr_callV (q := 41) (As := [.ref (E.2.1 38), .int x1, .int x2]) (rest := []) (st' := []) (i := 31) g (R_X9_goChange (Or.inr rfl) ok hI q11) zv_X9_goChange zl_X9_193 (hI 31 (by decide)) zs_31 zc_X9.1 dX9_changes_38 rfl rfl ⟨Nat.le_of_ble_eq_true rfl, Nat.le_of_ble_eq_true rfl⟩ ⟨Nat.zero_le _, Nat.zero_le _⟩ (Nat.le_of_ble_eq_true rfl) rfl rfl ?_
    refine zr_iload_n (q := 42) g 0 dX9_changes_41 rfl rfl rfl ?_
    obtain ⟨c12, hM⟩ := zw_gp hM
    cases hM
    exact zr_zret g hr hlk c12 dX9_changes_42 rfl rfl
noncomputable def B_X9_changes_25 (x1 : Int32) (x2 : Int32) (h : zw_Hp) : Option (Int32 × zw_Hp) :=
  B_X9_changes_26 x1 x2 (0 : Int32) h
set_option maxRecDepth 100000 in
set_option maxHeartbeats 4000000 in
theorem U_X9_changes_25 (ok : zw_Ok E) (hI : ∀ i, i < 48 → i ∈ E.2.2.1) (g : zw_G p E (zw_A E) s m args c RX9 cX9_changes 4) (hr : meth.sig.returnType = some .boolean) (hlk : meth.locks = false) :
    ∀ (x1 : Int32) (x2 : Int32) (h : zw_Hp) (z : Int32 × zw_Hp), B_X9_changes_25 x1 x2 h = some z → zw_V p l e s m args below meth c E mt_X9_changes 4 (some (.int z.1)) z.2 25 [(0, .ref (E.2.1 31)), (1, .int x1), (2, .int x2)] [] h := by
  intro x1 x2 h z hM
  unfold B_X9_changes_25 at hM
  refine zr_iconst (q := 26) (v := (0 : Int32)) g dX9_changes_25 rfl (by decide) ?_
  exact U_X9_changes_26 ok hI g hr hlk _ _ _ _ _ hM
noncomputable def M_X9_changes (x1 : Int32) (x2 : Int32) (h : zw_Hp) : Option (Int32 × zw_Hp) :=
  (M_X9_noOne x1 h).bind (fun z1 => if z1 = 0 then ((M_X9_noOne x2 h).bind (fun z4 => if z4 = 0 then (if x1 = x2 then (B_X9_changes_25 x1 x2 h) else (B_X9_changes_26 x1 x2 (1 : Int32) h)) else (B_X9_changes_25 x1 x2 h))) else (B_X9_changes_25 x1 x2 h))
set_option maxRecDepth 100000 in
set_option maxHeartbeats 4000000 in
theorem R_X9_changes (ok : zw_Ok E) (hI : ∀ i, i < 48 → i ∈ E.2.2.1) {x1 : Int32} {x2 : Int32} {h : zw_Hp} {z : Int32 × zw_Hp} (hM : M_X9_changes x1 x2 h = some z) : zw_Ct l E mt_X9_changes [.ref (E.2.1 31), .int x1, .int x2] h (some (.int z.1)) z.2 := by
  unfold M_X9_changes at hM
  refine zw_ct (lv0 := [(0, .ref (E.2.1 31)), (1, .int x1), (2, .int x2)]) ok (by decide) rfl (Nat.le_of_ble_eq_true rfl) (fun p e s m args below meth c g hr hlk => ?_)
  replace g : zw_G p E (zw_A E) s m args c RX9 cX9_changes 4 := g
  show zw_V p l e s m args below meth c E mt_X9_changes 4 (some (.int z.1)) z.2 0 [(0, .ref (E.2.1 31)), (1, .int x1), (2, .int x2)] [] h
  refine zr_aload_n (q := 1) g 0 dX9_changes_0 rfl rfl rfl ?_
  refine zr_iload_n (q := 2) g 1 dX9_changes_1 rfl rfl rfl ?_
  obtain ⟨z1, q2, hM⟩ := zw_bd hM
  refine zr_callV (q := 5) (As := [.int x1]) (rest := []) (st' := [.int z1]) (i := 31) g (R_X9_noOne ok hI q2) zv_X9_noOne zl_X9_177 (hI 31 (by decide)) zs_31 zc_X9.1 dX9_changes_2 rfl rfl ⟨Nat.le_of_ble_eq_true rfl, Nat.le_of_ble_eq_true rfl⟩ ⟨Nat.zero_le _, Nat.zero_le _⟩ (Nat.le_of_ble_eq_true rfl) rfl rfl ?_
  refine zr_if_ne (q := 8) (tgt := 25) g dX9_changes_5 rfl rfl (fun c3 => ?_) (fun c3 => ?_)
  · replace hM := zw_iff c3 hM
    exact U_X9_changes_25 ok hI g hr hlk _ _ _ _ hM
  · replace hM := zw_ift c3 hM
    refine zr_aload_n (q := 9) g 0 dX9_changes_8 rfl rfl rfl ?_
    refine zr_iload_n (q := 10) g 2 dX9_changes_9 rfl rfl rfl ?_
    obtain ⟨z4, q5, hM⟩ := zw_bd hM
    refine zr_callV (q := 13) (As := [.int x2]) (rest := []) (st' := [.int z4]) (i := 31) g (R_X9_noOne ok hI q5) zv_X9_noOne zl_X9_177 (hI 31 (by decide)) zs_31 zc_X9.1 dX9_changes_10 rfl rfl ⟨Nat.le_of_ble_eq_true rfl, Nat.le_of_ble_eq_true rfl⟩ ⟨Nat.zero_le _, Nat.zero_le _⟩ (Nat.le_of_ble_eq_true rfl) rfl rfl ?_
    refine zr_if_ne (q := 16) (tgt := 25) g dX9_changes_13 rfl rfl (fun c6 => ?_) (fun c6 => ?_)
    · replace hM := zw_iff c6 hM
      exact U_X9_changes_25 ok hI g hr hlk _ _ _ _ hM
    · replace hM := zw_ift c6 hM
      refine zr_iload_n (q := 17) g 1 dX9_changes_16 rfl rfl rfl ?_
      refine zr_iload_n (q := 18) g 2 dX9_changes_17 rfl rfl rfl ?_
      refine zr_icmp_eq (q := 21) (tgt := 25) g dX9_changes_18 rfl rfl (fun c7 => ?_) (fun c7 => ?_)
      · replace hM := zw_ift c7 hM
        exact U_X9_changes_25 ok hI g hr hlk _ _ _ _ hM
      · replace hM := zw_iff c7 hM
        refine zr_iconst (q := 22) (v := (1 : Int32)) g dX9_changes_21 rfl (by decide) ?_
        refine zr_goto (tgt := 26) g dX9_changes_22 rfl ?_
        exact U_X9_changes_26 ok hI g hr hlk _ _ _ _ _ hM
noncomputable def B_X9_mends_27 (x1 : Int32) (s0 : Int32) (h : zw_Hp) : Option (Int32 × zw_Hp) :=
  if s0 = 0 then (if s0 = 0 ∨ s0 = 1 then some (s0, h) else none) else (if zw_ok (17 : Int32) 21 = true then (if zw_ok (17 : Int32) 21 = true then zw_nm (zw_up h 38 ((17 : Int32)).toNatClampNeg ((h.1 38 ((17 : Int32)).toNatClampNeg) &&& (((1 : Int32) <<< (x1 &&& 31)) ^^^ (-1 : Int32)))) (fun h12 => if s0 = 0 ∨ s0 = 1 then some (s0, h12) else none) else none) else none)
set_option maxRecDepth 100000 in
set_option maxHeartbeats 4000000 in
theorem U_X9_mends_27 (ok : zw_Ok E) (hI : ∀ i, i < 48 → i ∈ E.2.2.1) (g : zw_G p E (zw_A E) s m args c RX9 cX9_mends 3) (hr : meth.sig.returnType = some .boolean) (hlk : meth.locks = false) :
    ∀ (x1 : Int32) (s0 : Int32) (h : zw_Hp) (z : Int32 × zw_Hp), B_X9_mends_27 x1 s0 h = some z → zw_V p l e s m args below meth c E mt_X9_mends 3 (some (.int z.1)) z.2 27 [(0, .ref (E.2.1 31)), (1, .int x1)] [.int s0] h := by
  intro x1 s0 h z hM
  unfold B_X9_mends_27 at hM
  refine zr_istore_n (q := 28) (lv' := [(2, .int s0), (0, .ref (E.2.1 31)), (1, .int x1)]) g dX9_mends_27 rfl rfl (by decide) rfl ?_
  refine zr_iload_n (q := 29) g 0 dX9_mends_28 rfl rfl rfl ?_
  refine zr_if_eq (q := 32) (tgt := 47) g dX9_mends_29 rfl rfl (fun c8 => ?_) (fun c8 => ?_)
  · replace hM := zw_ift c8 hM
    refine zr_iload_n (q := 48) g 0 dX9_mends_47 rfl rfl rfl ?_
    obtain ⟨c9, hM⟩ := zw_gp hM
    cases hM
    exact zr_zret g hr hlk c9 dX9_mends_48 rfl rfl
  · replace hM := zw_iff c8 hM
    refine zr_aload_n (q := 33) g 1 dX9_mends_32 rfl rfl rfl ?_
    refine zr_getr (q := 36) (k0 := 19) (j := 38) g (hI 31 (by decide)) zs_31 rfl zf_X9_28 dX9_mends_33 rfl ?_
    refine zr_bipush (q := 38) (v := (17 : Int32)) g dX9_mends_36 rfl (by decide) ?_
    refine zr_dup2 (q := 39) g dX9_mends_38 rfl rfl rfl ?_
    obtain ⟨c10, hM⟩ := zw_gd hM
    refine zr_iald (q := 40) g (hI 38 (by decide)) zs_38 c10 dX9_mends_39 rfl ?_
    refine zr_iconst (q := 41) (v := (1 : Int32)) g dX9_mends_40 rfl (by decide) ?_
    refine zr_iload_n (q := 42) g 2 dX9_mends_41 rfl rfl rfl ?_
    refine zr_ishl (q := 43) g dX9_mends_42 rfl ?_
    refine zr_iconst (q := 44) (v := (-1 : Int32)) g dX9_mends_43 rfl (by decide) ?_
    refine zr_ixor (q := 45) g dX9_mends_44 rfl ?_
    refine zr_iand (q := 46) g dX9_mends_45 rfl ?_
    obtain ⟨c11, hM⟩ := zw_gd hM
    obtain ⟨h12, e13, hM⟩ := zw_nm_ex hM
    refine zr_iast (q := 47) (h' := h12) g (hI 38 (by decide)) zs_38 c11 dX9_mends_46 rfl e13 ?_
    refine zr_iload_n (q := 48) g 0 dX9_mends_47 rfl rfl rfl ?_
    obtain ⟨c14, hM⟩ := zw_gp hM
    cases hM
    exact zr_zret g hr hlk c14 dX9_mends_48 rfl rfl
noncomputable def B_X9_mends_26 (x1 : Int32) (h : zw_Hp) : Option (Int32 × zw_Hp) :=
  B_X9_mends_27 x1 (0 : Int32) h
set_option maxRecDepth 100000 in
set_option maxHeartbeats 4000000 in
theorem U_X9_mends_26 (ok : zw_Ok E) (hI : ∀ i, i < 48 → i ∈ E.2.2.1) (g : zw_G p E (zw_A E) s m args c RX9 cX9_mends 3) (hr : meth.sig.returnType = some .boolean) (hlk : meth.locks = false) :
    ∀ (x1 : Int32) (h : zw_Hp) (z : Int32 × zw_Hp), B_X9_mends_26 x1 h = some z → zw_V p l e s m args below meth c E mt_X9_mends 3 (some (.int z.1)) z.2 26 [(0, .ref (E.2.1 31)), (1, .int x1)] [] h := by
  intro x1 h z hM
  unfold B_X9_mends_26 at hM
  refine zr_iconst (q := 27) (v := (0 : Int32)) g dX9_mends_26 rfl (by decide) ?_
  exact U_X9_mends_27 ok hI g hr hlk _ _ _ _ hM
noncomputable def M_X9_mends (x1 : Int32) (h : zw_Hp) : Option (Int32 × zw_Hp) :=
  (M_X9_noBucket x1 h).bind (fun z1 => if z1 = 0 then (if zw_ok (17 : Int32) 21 = true then ((M_X9_has (h.1 38 ((17 : Int32)).toNatClampNeg) x1 h).bind (fun z5 => if z5 = 0 then (B_X9_mends_26 x1 h) else (B_X9_mends_27 x1 (1 : Int32) h))) else none) else (B_X9_mends_26 x1 h))
set_option maxRecDepth 100000 in
set_option maxHeartbeats 4000000 in
theorem R_X9_mends (ok : zw_Ok E) (hI : ∀ i, i < 48 → i ∈ E.2.2.1) {x1 : Int32} {h : zw_Hp} {z : Int32 × zw_Hp} (hM : M_X9_mends x1 h = some z) : zw_Ct l E mt_X9_mends [.ref (E.2.1 31), .int x1] h (some (.int z.1)) z.2 := by
  unfold M_X9_mends at hM
  refine zw_ct (lv0 := [(0, .ref (E.2.1 31)), (1, .int x1)]) ok (by decide) rfl (Nat.le_of_ble_eq_true rfl) (fun p e s m args below meth c g hr hlk => ?_)
  replace g : zw_G p E (zw_A E) s m args c RX9 cX9_mends 3 := g
  show zw_V p l e s m args below meth c E mt_X9_mends 3 (some (.int z.1)) z.2 0 [(0, .ref (E.2.1 31)), (1, .int x1)] [] h
  refine zr_aload_n (q := 1) g 0 dX9_mends_0 rfl rfl rfl ?_
  refine zr_iload_n (q := 2) g 1 dX9_mends_1 rfl rfl rfl ?_
  obtain ⟨z1, q2, hM⟩ := zw_bd hM
  refine zr_callV (q := 5) (As := [.int x1]) (rest := []) (st' := [.int z1]) (i := 31) g (R_X9_noBucket ok hI q2) zv_X9_noBucket zl_X9_184 (hI 31 (by decide)) zs_31 zc_X9.1 dX9_mends_2 rfl rfl ⟨Nat.le_of_ble_eq_true rfl, Nat.le_of_ble_eq_true rfl⟩ ⟨Nat.zero_le _, Nat.zero_le _⟩ (Nat.le_of_ble_eq_true rfl) rfl rfl ?_
  refine zr_if_ne (q := 8) (tgt := 26) g dX9_mends_5 rfl rfl (fun c3 => ?_) (fun c3 => ?_)
  · replace hM := zw_iff c3 hM
    exact U_X9_mends_26 ok hI g hr hlk _ _ _ hM
  · replace hM := zw_ift c3 hM
    refine zr_aload_n (q := 9) g 0 dX9_mends_8 rfl rfl rfl ?_
    refine zr_getr (q := 12) (k0 := 19) (j := 38) g (hI 31 (by decide)) zs_31 rfl zf_X9_28 dX9_mends_9 rfl ?_
    refine zr_bipush (q := 14) (v := (17 : Int32)) g dX9_mends_12 rfl (by decide) ?_
    obtain ⟨c4, hM⟩ := zw_gd hM
    refine zr_iald (q := 15) g (hI 38 (by decide)) zs_38 c4 dX9_mends_14 rfl ?_
    refine zr_iload_n (q := 16) g 1 dX9_mends_15 rfl rfl rfl ?_
    obtain ⟨z5, q6, hM⟩ := zw_bd hM
    refine zr_callS (q := 19) (As := [.int (h.1 38 ((17 : Int32)).toNatClampNeg), .int x1]) (rest := []) (st' := [.int z5]) g (R_X9_has ok hI q6) zv_X9_has zl_X9_129 dX9_mends_16 rfl rfl ⟨Nat.le_of_ble_eq_true rfl, Nat.le_of_ble_eq_true rfl⟩ ⟨Nat.zero_le _, Nat.zero_le _⟩ (Nat.le_of_ble_eq_true rfl) rfl rfl ?_
    refine zr_if_eq (q := 22) (tgt := 26) g dX9_mends_19 rfl rfl (fun c7 => ?_) (fun c7 => ?_)
    · replace hM := zw_ift c7 hM
      exact U_X9_mends_26 ok hI g hr hlk _ _ _ hM
    · replace hM := zw_iff c7 hM
      refine zr_iconst (q := 23) (v := (1 : Int32)) g dX9_mends_22 rfl (by decide) ?_
      refine zr_goto (tgt := 27) g dX9_mends_23 rfl ?_
      exact U_X9_mends_27 ok hI g hr hlk _ _ _ _ hM
noncomputable def B_X9_drops_25 (x1 : Int32) (s0 : Int32) (h : zw_Hp) : Option (Int32 × zw_Hp) :=
  if s0 = 0 then (if s0 = 0 ∨ s0 = 1 then some (s0, h) else none) else ((M_X9_sendBack 38 x1 h).bind (fun z8 => if s0 = 0 ∨ s0 = 1 then some (s0, z8) else none))
set_option maxRecDepth 100000 in
set_option maxHeartbeats 4000000 in
theorem U_X9_drops_25 (ok : zw_Ok E) (hI : ∀ i, i < 48 → i ∈ E.2.2.1) (g : zw_G p E (zw_A E) s m args c RX9 cX9_drops 3) (hr : meth.sig.returnType = some .boolean) (hlk : meth.locks = false) :
    ∀ (x1 : Int32) (s0 : Int32) (h : zw_Hp) (z : Int32 × zw_Hp), B_X9_drops_25 x1 s0 h = some z → zw_V p l e s m args below meth c E mt_X9_drops 3 (some (.int z.1)) z.2 25 [(0, .ref (E.2.1 31)), (1, .int x1)] [.int s0] h := by
  intro x1 s0 h z hM
  unfold B_X9_drops_25 at hM
  refine zr_istore_n (q := 26) (lv' := [(2, .int s0), (0, .ref (E.2.1 31)), (1, .int x1)]) g dX9_drops_25 rfl rfl (by decide) rfl ?_
  refine zr_iload_n (q := 27) g 0 dX9_drops_26 rfl rfl rfl ?_
  refine zr_if_eq (q := 30) (tgt := 39) g dX9_drops_27 rfl rfl (fun c6 => ?_) (fun c6 => ?_)
  · replace hM := zw_ift c6 hM
    refine zr_iload_n (q := 40) g 0 dX9_drops_39 rfl rfl rfl ?_
    obtain ⟨c7, hM⟩ := zw_gp hM
    cases hM
    exact zr_zret g hr hlk c7 dX9_drops_40 rfl rfl
  · replace hM := zw_iff c6 hM
    refine zr_aload_n (q := 31) g 1 dX9_drops_30 rfl rfl rfl ?_
    refine zr_aload_n (q := 32) g 1 dX9_drops_31 rfl rfl rfl ?_
    refine zr_getr (q := 35) (k0 := 19) (j := 38) g (hI 31 (by decide)) zs_31 rfl zf_X9_28 dX9_drops_32 rfl ?_
    refine zr_iload_n (q := 36) g 2 dX9_drops_35 rfl rfl rfl ?_
    obtain ⟨z8, q9, hM⟩ := zw_bd hM
    refine zr_callV (q := 39) (As := [.ref (E.2.1 38), .int x1]) (rest := []) (st' := []) (i := 31) g (R_X9_sendBack (Or.inr rfl) ok hI q9) zv_X9_sendBack zl_X9_162 (hI 31 (by decide)) zs_31 zc_X9.1 dX9_drops_36 rfl rfl ⟨Nat.le_of_ble_eq_true rfl, Nat.le_of_ble_eq_true rfl⟩ ⟨Nat.zero_le _, Nat.zero_le _⟩ (Nat.le_of_ble_eq_true rfl) rfl rfl ?_
    refine zr_iload_n (q := 40) g 0 dX9_drops_39 rfl rfl rfl ?_
    obtain ⟨c10, hM⟩ := zw_gp hM
    cases hM
    exact zr_zret g hr hlk c10 dX9_drops_40 rfl rfl
noncomputable def B_X9_drops_24 (x1 : Int32) (h : zw_Hp) : Option (Int32 × zw_Hp) :=
  B_X9_drops_25 x1 (0 : Int32) h
set_option maxRecDepth 100000 in
set_option maxHeartbeats 4000000 in
theorem U_X9_drops_24 (ok : zw_Ok E) (hI : ∀ i, i < 48 → i ∈ E.2.2.1) (g : zw_G p E (zw_A E) s m args c RX9 cX9_drops 3) (hr : meth.sig.returnType = some .boolean) (hlk : meth.locks = false) :
    ∀ (x1 : Int32) (h : zw_Hp) (z : Int32 × zw_Hp), B_X9_drops_24 x1 h = some z → zw_V p l e s m args below meth c E mt_X9_drops 3 (some (.int z.1)) z.2 24 [(0, .ref (E.2.1 31)), (1, .int x1)] [] h := by
  intro x1 h z hM
  unfold B_X9_drops_24 at hM
  refine zr_iconst (q := 25) (v := (0 : Int32)) g dX9_drops_24 rfl (by decide) ?_
  exact U_X9_drops_25 ok hI g hr hlk _ _ _ _ hM
noncomputable def M_X9_drops (x1 : Int32) (h : zw_Hp) : Option (Int32 × zw_Hp) :=
  (M_X9_noBucket x1 h).bind (fun z1 => if z1 = 0 then (if zw_ok ((5 : Int32) + x1) 21 = true then (if (5 : Int32) ≤ (h.1 38 (((5 : Int32) + x1)).toNatClampNeg) then (B_X9_drops_24 x1 h) else (B_X9_drops_25 x1 (1 : Int32) h)) else none) else (B_X9_drops_24 x1 h))
set_option maxRecDepth 100000 in
set_option maxHeartbeats 4000000 in
theorem R_X9_drops (ok : zw_Ok E) (hI : ∀ i, i < 48 → i ∈ E.2.2.1) {x1 : Int32} {h : zw_Hp} {z : Int32 × zw_Hp} (hM : M_X9_drops x1 h = some z) : zw_Ct l E mt_X9_drops [.ref (E.2.1 31), .int x1] h (some (.int z.1)) z.2 := by
  unfold M_X9_drops at hM
  refine zw_ct (lv0 := [(0, .ref (E.2.1 31)), (1, .int x1)]) ok (by decide) rfl (Nat.le_of_ble_eq_true rfl) (fun p e s m args below meth c g hr hlk => ?_)
  replace g : zw_G p E (zw_A E) s m args c RX9 cX9_drops 3 := g
  show zw_V p l e s m args below meth c E mt_X9_drops 3 (some (.int z.1)) z.2 0 [(0, .ref (E.2.1 31)), (1, .int x1)] [] h
  refine zr_aload_n (q := 1) g 0 dX9_drops_0 rfl rfl rfl ?_
  refine zr_iload_n (q := 2) g 1 dX9_drops_1 rfl rfl rfl ?_
  obtain ⟨z1, q2, hM⟩ := zw_bd hM
  refine zr_callV (q := 5) (As := [.int x1]) (rest := []) (st' := [.int z1]) (i := 31) g (R_X9_noBucket ok hI q2) zv_X9_noBucket zl_X9_184 (hI 31 (by decide)) zs_31 zc_X9.1 dX9_drops_2 rfl rfl ⟨Nat.le_of_ble_eq_true rfl, Nat.le_of_ble_eq_true rfl⟩ ⟨Nat.zero_le _, Nat.zero_le _⟩ (Nat.le_of_ble_eq_true rfl) rfl rfl ?_
  refine zr_if_ne (q := 8) (tgt := 24) g dX9_drops_5 rfl rfl (fun c3 => ?_) (fun c3 => ?_)
  · replace hM := zw_iff c3 hM
    exact U_X9_drops_24 ok hI g hr hlk _ _ _ hM
  · replace hM := zw_ift c3 hM
    refine zr_aload_n (q := 9) g 0 dX9_drops_8 rfl rfl rfl ?_
    refine zr_getr (q := 12) (k0 := 19) (j := 38) g (hI 31 (by decide)) zs_31 rfl zf_X9_28 dX9_drops_9 rfl ?_
    refine zr_iconst (q := 13) (v := (5 : Int32)) g dX9_drops_12 rfl (by decide) ?_
    refine zr_iload_n (q := 14) g 1 dX9_drops_13 rfl rfl rfl ?_
    refine zr_iadd (q := 15) g dX9_drops_14 rfl ?_
    obtain ⟨c4, hM⟩ := zw_gd hM
    refine zr_iald (q := 16) g (hI 38 (by decide)) zs_38 c4 dX9_drops_15 rfl ?_
    refine zr_iconst (q := 17) (v := (5 : Int32)) g dX9_drops_16 rfl (by decide) ?_
    refine zr_icmp_ge (q := 20) (tgt := 24) g dX9_drops_17 rfl rfl (fun c5 => ?_) (fun c5 => ?_)
    · replace hM := zw_ift c5 hM
      exact U_X9_drops_24 ok hI g hr hlk _ _ _ hM
    · replace hM := zw_iff c5 hM
      refine zr_iconst (q := 21) (v := (1 : Int32)) g dX9_drops_20 rfl (by decide) ?_
      refine zr_goto (tgt := 25) g dX9_drops_21 rfl ?_
      exact U_X9_drops_25 ok hI g hr hlk _ _ _ _ hM
noncomputable def M_X9_does (x1 : Int32) (h : zw_Hp) : Option (Int32 × zw_Hp) :=
  zw_nm (x1 / (100 : Int32)) (fun y1 => zw_nm ((x1 / (10 : Int32)) - (x1 / (10 : Int32)) / (10 : Int32) * (10 : Int32)) (fun y3 => zw_nm (x1 - x1 / (10 : Int32) * (10 : Int32)) (fun y5 => if x1 = 0 then ((M_X9_goBeat 38 (31 : Int32) h).bind (fun z42 => some ((1 : Int32), z42.2))) else (if y1 = (1 : Int32) then ((M_X9_changes y3 y5 h).bind (fun z12 => if z12.1 = 0 ∨ z12.1 = 1 then some (z12.1, z12.2) else none)) else (if y1 = (2 : Int32) then (if y3 = 0 then ((M_X9_mends y5 h).bind (fun z17 => if z17.1 = 0 then (some ((0 : Int32), z17.2)) else (some ((1 : Int32), z17.2)))) else (some ((0 : Int32), h))) else (if y1 = (3 : Int32) then (if y3 = 0 then ((M_X9_drops y5 h).bind (fun z22 => if z22.1 = 0 then (some ((0 : Int32), z22.2)) else (some ((1 : Int32), z22.2)))) else (some ((0 : Int32), h))) else (if y1 = (4 : Int32) then ((M_X9_noOne y3 h).bind (fun z26 => if z26 = 0 then ((M_X9_noBucket y5 h).bind (fun z29 => if z29 = 0 then (if zw_ok ((5 : Int32) + y5) 21 = true then (if (h.1 38 (((5 : Int32) + y5)).toNatClampNeg) = y3 then (some ((1 : Int32), h)) else (some ((0 : Int32), h))) else none) else (some ((0 : Int32), h)))) else (some ((0 : Int32), h)))) else (if y1 = (5 : Int32) then ((M_X9_noBucket y3 h).bind (fun z35 => if z35 = 0 then (if zw_ok ((5 : Int32) + y3) 21 = true then (if (5 : Int32) ≤ (h.1 38 (((5 : Int32) + y3)).toNatClampNeg) then (some ((0 : Int32), h)) else (if zw_ok ((9 : Int32) + y3) 21 = true then (if (h.1 38 (((9 : Int32) + y3)).toNatClampNeg) < y5 then (some ((0 : Int32), h)) else (some ((1 : Int32), h))) else none)) else none) else (some ((0 : Int32), h)))) else (if y1 = (6 : Int32) then (if zw_ok (18 : Int32) 21 = true then (if (((10 : Int32) * y3) + y5) < (h.1 38 ((18 : Int32)).toNatClampNeg) then (some ((0 : Int32), h)) else (some ((1 : Int32), h))) else none) else (some ((0 : Int32), h)))))))))))
set_option maxRecDepth 100000 in
set_option maxHeartbeats 4000000 in
theorem R_X9_does (ok : zw_Ok E) (hI : ∀ i, i < 48 → i ∈ E.2.2.1) {x1 : Int32} {h : zw_Hp} {z : Int32 × zw_Hp} (hM : M_X9_does x1 h = some z) : zw_Ct l E mt_X9_does [.ref (E.2.1 31), .int x1] h (some (.int z.1)) z.2 := by
  unfold M_X9_does at hM
  refine zw_ct (lv0 := [(0, .ref (E.2.1 31)), (1, .int x1)]) ok (by decide) rfl (Nat.le_of_ble_eq_true rfl) (fun p e s m args below meth c g hr hlk => ?_)
  replace g : zw_G p E (zw_A E) s m args c RX9 cX9_does 5 := g
  show zw_V p l e s m args below meth c E mt_X9_does 5 (some (.int z.1)) z.2 0 [(0, .ref (E.2.1 31)), (1, .int x1)] [] h
  refine zr_iload_n (q := 1) g 1 dX9_does_0 rfl rfl rfl ?_
  refine zr_bipush (q := 3) (v := (100 : Int32)) g dX9_does_1 rfl (by decide) ?_
  refine zr_idiv (q := 4) g dX9_does_3 rfl (by decide) ?_
  obtain ⟨y1, e2, hM⟩ := zw_nm_ex hM
  refine zr_nmi e2 ?_
  refine zr_istore_n (q := 5) (lv' := [(2, .int y1), (0, .ref (E.2.1 31)), (1, .int x1)]) g dX9_does_4 rfl rfl (by decide) rfl ?_
  refine zr_iload_n (q := 6) g 2 dX9_does_5 rfl rfl rfl ?_
  refine zr_bipush (q := 8) (v := (10 : Int32)) g dX9_does_6 rfl (by decide) ?_
  refine zr_idiv (q := 9) g dX9_does_8 rfl (by decide) ?_
  refine zr_bipush (q := 11) (v := (10 : Int32)) g dX9_does_9 rfl (by decide) ?_
  refine zr_irem (q := 12) g dX9_does_11 rfl (by decide) ?_
  obtain ⟨y3, e4, hM⟩ := zw_nm_ex hM
  refine zr_nmi e4 ?_
  refine zr_istore_n (q := 13) (lv' := [(3, .int y3), (2, .int y1), (0, .ref (E.2.1 31)), (1, .int x1)]) g dX9_does_12 rfl rfl (by decide) rfl ?_
  refine zr_iload_n (q := 14) g 3 dX9_does_13 rfl rfl rfl ?_
  refine zr_bipush (q := 16) (v := (10 : Int32)) g dX9_does_14 rfl (by decide) ?_
  refine zr_irem (q := 17) g dX9_does_16 rfl (by decide) ?_
  obtain ⟨y5, e6, hM⟩ := zw_nm_ex hM
  refine zr_nmi e6 ?_
  refine zr_istore (q := 19) (lv' := [(4, .int y5), (3, .int y3), (2, .int y1), (0, .ref (E.2.1 31)), (1, .int x1)]) g dX9_does_17 rfl (by decide) rfl ?_
  refine zr_iload_n (q := 20) g 4 dX9_does_19 rfl rfl rfl ?_
  refine zr_if_ne (q := 23) (tgt := 36) g dX9_does_20 rfl rfl (fun c7 => ?_) (fun c7 => ?_)
  · replace hM := zw_iff c7 hM
    refine zr_iload_n (q := 37) g 2 dX9_does_36 rfl rfl rfl ?_
    by_cases c11 : y1 = (1 : Int32)
    · replace hM := zw_ift c11 hM
      refine zr_tabIn (tgt := 72) (off := 35) g dX9_does_37 c11 (by decide) rfl ?_
      refine zr_aload_n (q := 73) g 3 dX9_does_72 rfl rfl rfl ?_
      refine zr_iload_n (q := 74) g 1 dX9_does_73 rfl rfl rfl ?_
      refine zr_iload (q := 76) g 0 dX9_does_74 rfl rfl ?_
      obtain ⟨z12, q13, hM⟩ := zw_bd hM
      refine zr_callV (q := 79) (As := [.int y3, .int y5]) (rest := []) (st' := [.int z12.1]) (i := 31) g (R_X9_changes ok hI q13) zv_X9_changes zl_X9_226 (hI 31 (by decide)) zs_31 zc_X9.1 dX9_does_76 rfl rfl ⟨Nat.le_of_ble_eq_true rfl, Nat.le_of_ble_eq_true rfl⟩ ⟨Nat.zero_le _, Nat.zero_le _⟩ (Nat.le_of_ble_eq_true rfl) rfl rfl ?_
      obtain ⟨c14, hM⟩ := zw_gp hM
      cases hM
      exact zr_zret g hr hlk c14 dX9_does_79 rfl rfl
    · replace hM := zw_iff c11 hM
      by_cases c15 : y1 = (2 : Int32)
      · replace hM := zw_ift c15 hM
        refine zr_tabIn (tgt := 80) (off := 43) g dX9_does_37 c15 (by decide) rfl ?_
        refine zr_iload_n (q := 81) g 1 dX9_does_80 rfl rfl rfl ?_
        refine zr_if_ne (q := 84) (tgt := 97) g dX9_does_81 rfl rfl (fun c16 => ?_) (fun c16 => ?_)
        · replace hM := zw_iff c16 hM
          refine zr_iconst (q := 98) (v := (0 : Int32)) g dX9_does_97 rfl (by decide) ?_
          cases hM
          exact zr_zret g hr hlk (by decide) dX9_does_98 rfl rfl
        · replace hM := zw_ift c16 hM
          refine zr_aload_n (q := 85) g 3 dX9_does_84 rfl rfl rfl ?_
          refine zr_iload (q := 87) g 0 dX9_does_85 rfl rfl ?_
          obtain ⟨z17, q18, hM⟩ := zw_bd hM
          refine zr_callV (q := 90) (As := [.int y5]) (rest := []) (st' := [.int z17.1]) (i := 31) g (R_X9_mends ok hI q18) zv_X9_mends zl_X9_229 (hI 31 (by decide)) zs_31 zc_X9.1 dX9_does_87 rfl rfl ⟨Nat.le_of_ble_eq_true rfl, Nat.le_of_ble_eq_true rfl⟩ ⟨Nat.zero_le _, Nat.zero_le _⟩ (Nat.le_of_ble_eq_true rfl) rfl rfl ?_
          refine zr_if_eq (q := 93) (tgt := 97) g dX9_does_90 rfl rfl (fun c19 => ?_) (fun c19 => ?_)
          · replace hM := zw_ift c19 hM
            refine zr_iconst (q := 98) (v := (0 : Int32)) g dX9_does_97 rfl (by decide) ?_
            cases hM
            exact zr_zret g hr hlk (by decide) dX9_does_98 rfl rfl
          · replace hM := zw_iff c19 hM
            refine zr_iconst (q := 94) (v := (1 : Int32)) g dX9_does_93 rfl (by decide) ?_
            refine zr_goto (tgt := 98) g dX9_does_94 rfl ?_
            cases hM
            exact zr_zret g hr hlk (by decide) dX9_does_98 rfl rfl
      · replace hM := zw_iff c15 hM
        by_cases c20 : y1 = (3 : Int32)
        · replace hM := zw_ift c20 hM
          refine zr_tabIn (tgt := 99) (off := 62) g dX9_does_37 c20 (by decide) rfl ?_
          refine zr_iload_n (q := 100) g 1 dX9_does_99 rfl rfl rfl ?_
          refine zr_if_ne (q := 103) (tgt := 116) g dX9_does_100 rfl rfl (fun c21 => ?_) (fun c21 => ?_)
          · replace hM := zw_iff c21 hM
            refine zr_iconst (q := 117) (v := (0 : Int32)) g dX9_does_116 rfl (by decide) ?_
            cases hM
            exact zr_zret g hr hlk (by decide) dX9_does_117 rfl rfl
          · replace hM := zw_ift c21 hM
            refine zr_aload_n (q := 104) g 3 dX9_does_103 rfl rfl rfl ?_
            refine zr_iload (q := 106) g 0 dX9_does_104 rfl rfl ?_
            obtain ⟨z22, q23, hM⟩ := zw_bd hM
            refine zr_callV (q := 109) (As := [.int y5]) (rest := []) (st' := [.int z22.1]) (i := 31) g (R_X9_drops ok hI q23) zv_X9_drops zl_X9_232 (hI 31 (by decide)) zs_31 zc_X9.1 dX9_does_106 rfl rfl ⟨Nat.le_of_ble_eq_true rfl, Nat.le_of_ble_eq_true rfl⟩ ⟨Nat.zero_le _, Nat.zero_le _⟩ (Nat.le_of_ble_eq_true rfl) rfl rfl ?_
            refine zr_if_eq (q := 112) (tgt := 116) g dX9_does_109 rfl rfl (fun c24 => ?_) (fun c24 => ?_)
            · replace hM := zw_ift c24 hM
              refine zr_iconst (q := 117) (v := (0 : Int32)) g dX9_does_116 rfl (by decide) ?_
              cases hM
              exact zr_zret g hr hlk (by decide) dX9_does_117 rfl rfl
            · replace hM := zw_iff c24 hM
              refine zr_iconst (q := 113) (v := (1 : Int32)) g dX9_does_112 rfl (by decide) ?_
              refine zr_goto (tgt := 117) g dX9_does_113 rfl ?_
              cases hM
              exact zr_zret g hr hlk (by decide) dX9_does_117 rfl rfl
        · replace hM := zw_iff c20 hM
          by_cases c25 : y1 = (4 : Int32)
          · replace hM := zw_ift c25 hM
            refine zr_tabIn (tgt := 118) (off := 81) g dX9_does_37 c25 (by decide) rfl ?_
            refine zr_aload_n (q := 119) g 3 dX9_does_118 rfl rfl rfl ?_
            refine zr_iload_n (q := 120) g 1 dX9_does_119 rfl rfl rfl ?_
            obtain ⟨z26, q27, hM⟩ := zw_bd hM
            refine zr_callV (q := 123) (As := [.int y3]) (rest := []) (st' := [.int z26]) (i := 31) g (R_X9_noOne ok hI q27) zv_X9_noOne zl_X9_177 (hI 31 (by decide)) zs_31 zc_X9.1 dX9_does_120 rfl rfl ⟨Nat.le_of_ble_eq_true rfl, Nat.le_of_ble_eq_true rfl⟩ ⟨Nat.zero_le _, Nat.zero_le _⟩ (Nat.le_of_ble_eq_true rfl) rfl rfl ?_
            refine zr_if_ne (q := 126) (tgt := 152) g dX9_does_123 rfl rfl (fun c28 => ?_) (fun c28 => ?_)
            · replace hM := zw_iff c28 hM
              refine zr_iconst (q := 153) (v := (0 : Int32)) g dX9_does_152 rfl (by decide) ?_
              cases hM
              exact zr_zret g hr hlk (by decide) dX9_does_153 rfl rfl
            · replace hM := zw_ift c28 hM
              refine zr_aload_n (q := 127) g 3 dX9_does_126 rfl rfl rfl ?_
              refine zr_iload (q := 129) g 0 dX9_does_127 rfl rfl ?_
              obtain ⟨z29, q30, hM⟩ := zw_bd hM
              refine zr_callV (q := 132) (As := [.int y5]) (rest := []) (st' := [.int z29]) (i := 31) g (R_X9_noBucket ok hI q30) zv_X9_noBucket zl_X9_184 (hI 31 (by decide)) zs_31 zc_X9.1 dX9_does_129 rfl rfl ⟨Nat.le_of_ble_eq_true rfl, Nat.le_of_ble_eq_true rfl⟩ ⟨Nat.zero_le _, Nat.zero_le _⟩ (Nat.le_of_ble_eq_true rfl) rfl rfl ?_
              refine zr_if_ne (q := 135) (tgt := 152) g dX9_does_132 rfl rfl (fun c31 => ?_) (fun c31 => ?_)
              · replace hM := zw_iff c31 hM
                refine zr_iconst (q := 153) (v := (0 : Int32)) g dX9_does_152 rfl (by decide) ?_
                cases hM
                exact zr_zret g hr hlk (by decide) dX9_does_153 rfl rfl
              · replace hM := zw_ift c31 hM
                refine zr_aload_n (q := 136) g 3 dX9_does_135 rfl rfl rfl ?_
                refine zr_getr (q := 139) (k0 := 19) (j := 38) g (hI 31 (by decide)) zs_31 rfl zf_X9_28 dX9_does_136 rfl ?_
                refine zr_iconst (q := 140) (v := (5 : Int32)) g dX9_does_139 rfl (by decide) ?_
                refine zr_iload (q := 142) g 0 dX9_does_140 rfl rfl ?_
                refine zr_iadd (q := 143) g dX9_does_142 rfl ?_
                obtain ⟨c32, hM⟩ := zw_gd hM
                refine zr_iald (q := 144) g (hI 38 (by decide)) zs_38 c32 dX9_does_143 rfl ?_
                refine zr_iload_n (q := 145) g 1 dX9_does_144 rfl rfl rfl ?_
                refine zr_icmp_ne (q := 148) (tgt := 152) g dX9_does_145 rfl rfl (fun c33 => ?_) (fun c33 => ?_)
                · replace hM := zw_iff c33 hM
                  refine zr_iconst (q := 153) (v := (0 : Int32)) g dX9_does_152 rfl (by decide) ?_
                  cases hM
                  exact zr_zret g hr hlk (by decide) dX9_does_153 rfl rfl
                · replace hM := zw_ift c33 hM
                  refine zr_iconst (q := 149) (v := (1 : Int32)) g dX9_does_148 rfl (by decide) ?_
                  refine zr_goto (tgt := 153) g dX9_does_149 rfl ?_
                  cases hM
                  exact zr_zret g hr hlk (by decide) dX9_does_153 rfl rfl
          · replace hM := zw_iff c25 hM
            by_cases c34 : y1 = (5 : Int32)
            · replace hM := zw_ift c34 hM
              refine zr_tabIn (tgt := 154) (off := 117) g dX9_does_37 c34 (by decide) rfl ?_
              refine zr_aload_n (q := 155) g 3 dX9_does_154 rfl rfl rfl ?_
              refine zr_iload_n (q := 156) g 1 dX9_does_155 rfl rfl rfl ?_
              obtain ⟨z35, q36, hM⟩ := zw_bd hM
              refine zr_callV (q := 159) (As := [.int y3]) (rest := []) (st' := [.int z35]) (i := 31) g (R_X9_noBucket ok hI q36) zv_X9_noBucket zl_X9_184 (hI 31 (by decide)) zs_31 zc_X9.1 dX9_does_156 rfl rfl ⟨Nat.le_of_ble_eq_true rfl, Nat.le_of_ble_eq_true rfl⟩ ⟨Nat.zero_le _, Nat.zero_le _⟩ (Nat.le_of_ble_eq_true rfl) rfl rfl ?_
              refine zr_if_ne (q := 162) (tgt := 192) g dX9_does_159 rfl rfl (fun c37 => ?_) (fun c37 => ?_)
              · replace hM := zw_iff c37 hM
                refine zr_iconst (q := 193) (v := (0 : Int32)) g dX9_does_192 rfl (by decide) ?_
                cases hM
                exact zr_zret g hr hlk (by decide) dX9_does_193 rfl rfl
              · replace hM := zw_ift c37 hM
                refine zr_aload_n (q := 163) g 3 dX9_does_162 rfl rfl rfl ?_
                refine zr_getr (q := 166) (k0 := 19) (j := 38) g (hI 31 (by decide)) zs_31 rfl zf_X9_28 dX9_does_163 rfl ?_
                refine zr_iconst (q := 167) (v := (5 : Int32)) g dX9_does_166 rfl (by decide) ?_
                refine zr_iload_n (q := 168) g 1 dX9_does_167 rfl rfl rfl ?_
                refine zr_iadd (q := 169) g dX9_does_168 rfl ?_
                obtain ⟨c38, hM⟩ := zw_gd hM
                refine zr_iald (q := 170) g (hI 38 (by decide)) zs_38 c38 dX9_does_169 rfl ?_
                refine zr_iconst (q := 171) (v := (5 : Int32)) g dX9_does_170 rfl (by decide) ?_
                refine zr_icmp_ge (q := 174) (tgt := 192) g dX9_does_171 rfl rfl (fun c39 => ?_) (fun c39 => ?_)
                · replace hM := zw_ift c39 hM
                  refine zr_iconst (q := 193) (v := (0 : Int32)) g dX9_does_192 rfl (by decide) ?_
                  cases hM
                  exact zr_zret g hr hlk (by decide) dX9_does_193 rfl rfl
                · replace hM := zw_iff c39 hM
                  refine zr_aload_n (q := 175) g 3 dX9_does_174 rfl rfl rfl ?_
                  refine zr_getr (q := 178) (k0 := 19) (j := 38) g (hI 31 (by decide)) zs_31 rfl zf_X9_28 dX9_does_175 rfl ?_
                  refine zr_bipush (q := 180) (v := (9 : Int32)) g dX9_does_178 rfl (by decide) ?_
                  refine zr_iload_n (q := 181) g 1 dX9_does_180 rfl rfl rfl ?_
                  refine zr_iadd (q := 182) g dX9_does_181 rfl ?_
                  obtain ⟨c40, hM⟩ := zw_gd hM
                  refine zr_iald (q := 183) g (hI 38 (by decide)) zs_38 c40 dX9_does_182 rfl ?_
                  refine zr_iload (q := 185) g 0 dX9_does_183 rfl rfl ?_
                  refine zr_icmp_lt (q := 188) (tgt := 192) g dX9_does_185 rfl rfl (fun c41 => ?_) (fun c41 => ?_)
                  · replace hM := zw_ift c41 hM
                    refine zr_iconst (q := 193) (v := (0 : Int32)) g dX9_does_192 rfl (by decide) ?_
                    cases hM
                    exact zr_zret g hr hlk (by decide) dX9_does_193 rfl rfl
                  · replace hM := zw_iff c41 hM
                    refine zr_iconst (q := 189) (v := (1 : Int32)) g dX9_does_188 rfl (by decide) ?_
                    refine zr_goto (tgt := 193) g dX9_does_189 rfl ?_
                    cases hM
                    exact zr_zret g hr hlk (by decide) dX9_does_193 rfl rfl
            · replace hM := zw_iff c34 hM
              have hx : (y1).toInt < 1 ∨ 5 < (y1).toInt := by
                  have := lv_neT (a := 1) c11 (by decide)
                  have := lv_neT (a := 2) c15 (by decide)
                  have := lv_neT (a := 3) c20 (by decide)
                  have := lv_neT (a := 4) c25 (by decide)
                  have := lv_neT (a := 5) c34 (by decide)
                  omega
              refine zr_tabOut (tgt := 194) g dX9_does_37 hx rfl ?_
              refine zr_iload_n (q := 195) g 2 dX9_does_194 rfl rfl rfl ?_
              refine zr_bipush (q := 197) (v := (6 : Int32)) g dX9_does_195 rfl (by decide) ?_
              refine zr_icmp_ne (q := 200) (tgt := 221) g dX9_does_197 rfl rfl (fun c8 => ?_) (fun c8 => ?_)
              · replace hM := zw_iff c8 hM
                refine zr_iconst (q := 222) (v := (0 : Int32)) g dX9_does_221 rfl (by decide) ?_
                cases hM
                exact zr_zret g hr hlk (by decide) dX9_does_222 rfl rfl
              · replace hM := zw_ift c8 hM
                refine zr_aload_n (q := 201) g 3 dX9_does_200 rfl rfl rfl ?_
                refine zr_getr (q := 204) (k0 := 19) (j := 38) g (hI 31 (by decide)) zs_31 rfl zf_X9_28 dX9_does_201 rfl ?_
                refine zr_bipush (q := 206) (v := (18 : Int32)) g dX9_does_204 rfl (by decide) ?_
                obtain ⟨c9, hM⟩ := zw_gd hM
                refine zr_iald (q := 207) g (hI 38 (by decide)) zs_38 c9 dX9_does_206 rfl ?_
                refine zr_bipush (q := 209) (v := (10 : Int32)) g dX9_does_207 rfl (by decide) ?_
                refine zr_iload_n (q := 210) g 1 dX9_does_209 rfl rfl rfl ?_
                refine zr_imul (q := 211) g dX9_does_210 rfl ?_
                refine zr_iload (q := 213) g 0 dX9_does_211 rfl rfl ?_
                refine zr_iadd (q := 214) g dX9_does_213 rfl ?_
                refine zr_icmp_gt (q := 217) (tgt := 221) g dX9_does_214 rfl rfl (fun c10 => ?_) (fun c10 => ?_)
                · replace hM := zw_ift c10 hM
                  refine zr_iconst (q := 222) (v := (0 : Int32)) g dX9_does_221 rfl (by decide) ?_
                  cases hM
                  exact zr_zret g hr hlk (by decide) dX9_does_222 rfl rfl
                · replace hM := zw_iff c10 hM
                  refine zr_iconst (q := 218) (v := (1 : Int32)) g dX9_does_217 rfl (by decide) ?_
                  refine zr_goto (tgt := 222) g dX9_does_218 rfl ?_
                  cases hM
                  exact zr_zret g hr hlk (by decide) dX9_does_222 rfl rfl
  · replace hM := zw_ift c7 hM
    refine zr_aload_n (q := 24) g 3 dX9_does_23 rfl rfl rfl ?_
    refine zr_aload_n (q := 25) g 3 dX9_does_24 rfl rfl rfl ?_
    refine zr_getr (q := 28) (k0 := 19) (j := 38) g (hI 31 (by decide)) zs_31 rfl zf_X9_28 dX9_does_25 rfl ?_
    refine zr_bipush (q := 30) (v := (31 : Int32)) g dX9_does_28 rfl (by decide) ?_
    obtain ⟨z42, q43, hM⟩ := zw_bd hM
    refine zr_callV (q := 33) (As := [.ref (E.2.1 38), .int (31 : Int32)]) (rest := []) (st' := [.int z42.1]) (i := 31) g (R_X9_goBeat (Or.inr rfl) ok hI q43) zv_X9_goBeat zl_X9_190 (hI 31 (by decide)) zs_31 zc_X9.1 dX9_does_30 rfl rfl ⟨Nat.le_of_ble_eq_true rfl, Nat.le_of_ble_eq_true rfl⟩ ⟨Nat.zero_le _, Nat.zero_le _⟩ (Nat.le_of_ble_eq_true rfl) rfl rfl ?_
    refine zr_pop (q := 34) g dX9_does_33 rfl rfl ?_
    refine zr_iconst (q := 35) (v := (1 : Int32)) g dX9_does_34 rfl (by decide) ?_
    cases hM
    exact zr_zret g hr hlk (by decide) dX9_does_35 rfl rfl
noncomputable def B_X9_judge_44 (k44 : (Int32 × Int64 × Int32 × zw_Hp) → Option (Int32 × zw_Hp)) (x1 : Int32) (x2 : Int64) (x4 : Int32) (h : zw_Hp) : Option (Int32 × zw_Hp) :=
  if x1 ≤ x4 then (some ((-9 : Int32), h)) else ((M_X9_longPower (1000 : Int64) ((x1 - (1 : Int32)) - x4) h).bind (fun z14 => if ¬ z14 = 0 then (M_X9_does (((x2 / z14) - (x2 / z14) / (1000 : Int64) * (1000 : Int64))).toInt32 h).bind (fun z17 => if z17.1 = 0 then (some (x4, z17.2)) else (zw_nm (x4 + (1 : Int32)) (fun y20 => k44 (x1, x2, y20, z17.2)))) else none))
set_option maxRecDepth 100000 in
set_option maxHeartbeats 4000000 in
theorem U_X9_judge_44 (ok : zw_Ok E) (hI : ∀ i, i < 48 → i ∈ E.2.2.1) (g : zw_G p E (zw_A E) s m args c RX9 cX9_judge 5) (hr : meth.sig.returnType = some .int) (hlk : meth.locks = false) {k44 : (Int32 × Int64 × Int32 × zw_Hp) → Option (Int32 × zw_Hp)} (eL44 : ∀ (w : Int32 × Int64 × Int32 × zw_Hp) (z : Int32 × zw_Hp), k44 w = some z → zw_V p l e s m args below meth c E mt_X9_judge 5 (some (.int z.1)) z.2 44 [(0, .ref (E.2.1 31)), (1, .int w.1), (2, .long w.2.1), (4, .int w.2.2.1)] [] w.2.2.2) :
    ∀ (x1 : Int32) (x2 : Int64) (x4 : Int32) (h : zw_Hp) (z : Int32 × zw_Hp), B_X9_judge_44 k44 x1 x2 x4 h = some z → zw_V p l e s m args below meth c E mt_X9_judge 5 (some (.int z.1)) z.2 44 [(0, .ref (E.2.1 31)), (1, .int x1), (2, .long x2), (4, .int x4)] [] h := by
  intro x1 x2 x4 h z hM
  unfold B_X9_judge_44 at hM
  refine zr_iload (q := 46) g 3 dX9_judge_44 rfl rfl ?_
  refine zr_iload_n (q := 47) g 1 dX9_judge_46 rfl rfl rfl ?_
  refine zr_icmp_ge (q := 50) (tgt := 85) g dX9_judge_47 rfl rfl (fun c13 => ?_) (fun c13 => ?_)
  · replace hM := zw_ift c13 hM
    refine zr_bipush (q := 87) (v := (-9 : Int32)) g dX9_judge_85 rfl (by decide) ?_
    cases hM
    exact zr_iret g hr hlk dX9_judge_87 rfl rfl
  · replace hM := zw_iff c13 hM
    refine zr_aload_n (q := 51) g 0 dX9_judge_50 rfl rfl rfl ?_
    refine zr_lload_n (q := 52) g 2 dX9_judge_51 rfl rfl rfl ?_
    refine zr_ldc2 (q := 55) (v := (1000 : Int64)) g dX9_judge_52 rfl zk_X9_237 ?_
    refine zr_iload_n (q := 56) g 1 dX9_judge_55 rfl rfl rfl ?_
    refine zr_iconst (q := 57) (v := (1 : Int32)) g dX9_judge_56 rfl (by decide) ?_
    refine zr_isub (q := 58) g dX9_judge_57 rfl ?_
    refine zr_iload (q := 60) g 3 dX9_judge_58 rfl rfl ?_
    refine zr_isub (q := 61) g dX9_judge_60 rfl ?_
    obtain ⟨z14, q15, hM⟩ := zw_bd hM
    refine zr_callS (q := 64) (As := [.long (1000 : Int64), .int ((x1 - (1 : Int32)) - x4)]) (rest := [.long x2, .ref (E.2.1 31)]) (st' := [.long z14, .long x2, .ref (E.2.1 31)]) g (R_X9_longPower ok hI q15) zv_X9_longPower zl_X9_239 dX9_judge_61 rfl rfl ⟨Nat.le_of_ble_eq_true rfl, Nat.le_of_ble_eq_true rfl⟩ ⟨Nat.zero_le _, Nat.zero_le _⟩ (Nat.le_of_ble_eq_true rfl) rfl rfl ?_
    obtain ⟨c16, hM⟩ := zw_gp hM
    refine zr_ldiv (q := 65) g dX9_judge_64 rfl c16 ?_
    refine zr_ldc2 (q := 68) (v := (1000 : Int64)) g dX9_judge_65 rfl zk_X9_237 ?_
    refine zr_lrem (q := 69) g dX9_judge_68 rfl (by decide) ?_
    refine zr_l2i (q := 70) g dX9_judge_69 rfl ?_
    obtain ⟨z17, q18, hM⟩ := zw_bd hM
    refine zr_callV (q := 73) (As := [.int (((x2 / z14) - (x2 / z14) / (1000 : Int64) * (1000 : Int64))).toInt32]) (rest := []) (st' := [.int z17.1]) (i := 31) g (R_X9_does ok hI q18) zv_X9_does zl_X9_243 (hI 31 (by decide)) zs_31 zc_X9.1 dX9_judge_70 rfl rfl ⟨Nat.le_of_ble_eq_true rfl, Nat.le_of_ble_eq_true rfl⟩ ⟨Nat.zero_le _, Nat.zero_le _⟩ (Nat.le_of_ble_eq_true rfl) rfl rfl ?_
    refine zr_if_ne (q := 76) (tgt := 79) g dX9_judge_73 rfl rfl (fun c19 => ?_) (fun c19 => ?_)
    · replace hM := zw_iff c19 hM
      obtain ⟨y20, e21, hM⟩ := zw_nm_ex hM
      refine zr_iinc (q := 82) (v := y20) (lv' := [(4, .int y20), (0, .ref (E.2.1 31)), (1, .int x1), (2, .long x2)]) g 3 dX9_judge_79 rfl rfl (by rw [e21]; rfl) (by decide) rfl ?_
      refine zr_goto (tgt := 44) g dX9_judge_82 rfl ?_
      refine zr_lv (lv' := [(0, .ref (E.2.1 31)), (1, .int x1), (2, .long x2), (4, .int y20)]) [1, 2, 3, 0] rfl ?_
      exact eL44 _ _ hM
    · replace hM := zw_ift c19 hM
      refine zr_iload (q := 78) g 3 dX9_judge_76 rfl rfl ?_
      cases hM
      exact zr_iret g hr hlk dX9_judge_78 rfl rfl
noncomputable def L_X9_judge_44 (w : Int32 × Int64 × Int32 × zw_Hp) : Option (Int32 × zw_Hp) :=
  zw_it (fun (k44 : (Int32 × Int64 × Int32 × zw_Hp) → Option (Int32 × zw_Hp)) (w : Int32 × Int64 × Int32 × zw_Hp) => B_X9_judge_44 k44 (w.1) (w.2.1) (w.2.2.1) (w.2.2.2)) 600 w
theorem UL_X9_judge_44 (ok : zw_Ok E) (hI : ∀ i, i < 48 → i ∈ E.2.2.1) (g : zw_G p E (zw_A E) s m args c RX9 cX9_judge 5) (hr : meth.sig.returnType = some .int) (hlk : meth.locks = false) :
    ∀ (w : Int32 × Int64 × Int32 × zw_Hp) (z : Int32 × zw_Hp), L_X9_judge_44 w = some z → zw_V p l e s m args below meth c E mt_X9_judge 5 (some (.int z.1)) z.2 44 [(0, .ref (E.2.1 31)), (1, .int w.1), (2, .long w.2.1), (4, .int w.2.2.1)] [] w.2.2.2 :=
  fun w z hM => zw_it_ind (P := fun (w : Int32 × Int64 × Int32 × zw_Hp) (z : Int32 × zw_Hp) => zw_V p l e s m args below meth c E mt_X9_judge 5 (some (.int z.1)) z.2 44 [(0, .ref (E.2.1 31)), (1, .int w.1), (2, .long w.2.1), (4, .int w.2.2.1)] [] w.2.2.2) (fun k e w z hM => U_X9_judge_44 ok hI g hr hlk e _ _ _ _ _ hM) 600 w z hM
noncomputable def M_X9_judge (x1 : Int32) (x2 : Int64) (h : zw_Hp) : Option (Int32 × zw_Hp) :=
  zw_nm (zw_up h 31 0 (0 : Int32)) (fun h1 => (M_X9_in (x1).toInt64 (1 : Int64) (4 : Int64) h1).bind (fun z3 => if z3 = 0 then (some ((-2 : Int32), h1)) else ((M_X9_longPower (1000 : Int64) x1 h1).bind (fun z6 => (M_X9_in x2 (0 : Int64) (z6 - (1 : Int64)) h1).bind (fun z8 => if z8 = 0 then (some ((-2 : Int32), h1)) else ((M_X9_begin h1).bind (fun z11 => L_X9_judge_44 (x1, x2, (0 : Int32), z11))))))))
set_option maxRecDepth 100000 in
set_option maxHeartbeats 4000000 in
theorem R_X9_judge (ok : zw_Ok E) (hI : ∀ i, i < 48 → i ∈ E.2.2.1) {x1 : Int32} {x2 : Int64} {h : zw_Hp} {z : Int32 × zw_Hp} (hM : M_X9_judge x1 x2 h = some z) : zw_Ct l E mt_X9_judge [.ref (E.2.1 31), .int x1, .long x2] h (some (.int z.1)) z.2 := by
  unfold M_X9_judge at hM
  refine zw_ct (lv0 := [(0, .ref (E.2.1 31)), (1, .int x1), (2, .long x2)]) ok (by decide) rfl (Nat.le_of_ble_eq_true rfl) (fun p e s m args below meth c g hr hlk => ?_)
  replace g : zw_G p E (zw_A E) s m args c RX9 cX9_judge 5 := g
  show zw_V p l e s m args below meth c E mt_X9_judge 5 (some (.int z.1)) z.2 0 [(0, .ref (E.2.1 31)), (1, .int x1), (2, .long x2)] [] h
  refine zr_aload_n (q := 1) g 0 dX9_judge_0 rfl rfl rfl ?_
  refine zr_iconst (q := 2) (v := (0 : Int32)) g dX9_judge_1 rfl (by decide) ?_
  obtain ⟨h1, e2, hM⟩ := zw_nm_ex hM
  refine zr_puti (q := 5) (k0 := 0) (h' := h1) g (hI 31 (by decide)) zs_31 rfl zp_X9_59 dX9_judge_2 rfl e2 ?_
  refine zr_iload_n (q := 6) g 1 dX9_judge_5 rfl rfl rfl ?_
  refine zr_i2l (q := 7) g dX9_judge_6 rfl ?_
  refine zr_lconst (q := 8) (v := (1 : Int64)) g dX9_judge_7 rfl (by decide) ?_
  refine zr_ldc2 (q := 11) (v := (4 : Int64)) g dX9_judge_8 rfl zk_X9_235 ?_
  obtain ⟨z3, q4, hM⟩ := zw_bd hM
  refine zr_callS (q := 14) (As := [.long (x1).toInt64, .long (1 : Int64), .long (4 : Int64)]) (rest := []) (st' := [.int z3]) g (R_X9_in ok hI q4) zv_X9_in zl_X9_66 dX9_judge_11 rfl rfl ⟨Nat.le_of_ble_eq_true rfl, Nat.le_of_ble_eq_true rfl⟩ ⟨Nat.zero_le _, Nat.zero_le _⟩ (Nat.le_of_ble_eq_true rfl) rfl rfl ?_
  refine zr_if_eq (q := 17) (tgt := 34) g dX9_judge_14 rfl rfl (fun c5 => ?_) (fun c5 => ?_)
  · replace hM := zw_ift c5 hM
    refine zr_bipush (q := 36) (v := (-2 : Int32)) g dX9_judge_34 rfl (by decide) ?_
    cases hM
    exact zr_iret g hr hlk dX9_judge_36 rfl rfl
  · replace hM := zw_iff c5 hM
    refine zr_lload_n (q := 18) g 2 dX9_judge_17 rfl rfl rfl ?_
    refine zr_lconst (q := 19) (v := (0 : Int64)) g dX9_judge_18 rfl (by decide) ?_
    refine zr_ldc2 (q := 22) (v := (1000 : Int64)) g dX9_judge_19 rfl zk_X9_237 ?_
    refine zr_iload_n (q := 23) g 1 dX9_judge_22 rfl rfl rfl ?_
    obtain ⟨z6, q7, hM⟩ := zw_bd hM
    refine zr_callS (q := 26) (As := [.long (1000 : Int64), .int x1]) (rest := [.long (0 : Int64), .long x2]) (st' := [.long z6, .long (0 : Int64), .long x2]) g (R_X9_longPower ok hI q7) zv_X9_longPower zl_X9_239 dX9_judge_23 rfl rfl ⟨Nat.le_of_ble_eq_true rfl, Nat.le_of_ble_eq_true rfl⟩ ⟨Nat.zero_le _, Nat.zero_le _⟩ (Nat.le_of_ble_eq_true rfl) rfl rfl ?_
    refine zr_lconst (q := 27) (v := (1 : Int64)) g dX9_judge_26 rfl (by decide) ?_
    refine zr_lsub (q := 28) g dX9_judge_27 rfl ?_
    obtain ⟨z8, q9, hM⟩ := zw_bd hM
    refine zr_callS (q := 31) (As := [.long x2, .long (0 : Int64), .long (z6 - (1 : Int64))]) (rest := []) (st' := [.int z8]) g (R_X9_in ok hI q9) zv_X9_in zl_X9_66 dX9_judge_28 rfl rfl ⟨Nat.le_of_ble_eq_true rfl, Nat.le_of_ble_eq_true rfl⟩ ⟨Nat.zero_le _, Nat.zero_le _⟩ (Nat.le_of_ble_eq_true rfl) rfl rfl ?_
    refine zr_if_ne (q := 34) (tgt := 37) g dX9_judge_31 rfl rfl (fun c10 => ?_) (fun c10 => ?_)
    · replace hM := zw_iff c10 hM
      refine zr_aload_n (q := 38) g 0 dX9_judge_37 rfl rfl rfl ?_
      obtain ⟨z11, q12, hM⟩ := zw_bd hM
      refine zr_callV (q := 41) (As := []) (rest := []) (st' := []) (i := 31) g (R_X9_begin ok hI q12) zv_X9_begin zl_X9_202 (hI 31 (by decide)) zs_31 zc_X9.1 dX9_judge_38 rfl rfl ⟨Nat.le_of_ble_eq_true rfl, Nat.le_of_ble_eq_true rfl⟩ ⟨Nat.zero_le _, Nat.zero_le _⟩ (Nat.le_of_ble_eq_true rfl) rfl rfl ?_
      refine zr_iconst (q := 42) (v := (0 : Int32)) g dX9_judge_41 rfl (by decide) ?_
      refine zr_istore (q := 44) (lv' := [(4, .int (0 : Int32)), (0, .ref (E.2.1 31)), (1, .int x1), (2, .long x2)]) g dX9_judge_42 rfl (by decide) rfl ?_
      refine zr_lv (lv' := [(0, .ref (E.2.1 31)), (1, .int x1), (2, .long x2), (4, .int (0 : Int32))]) [1, 2, 3, 0] rfl ?_
      exact UL_X9_judge_44 ok hI g hr hlk _ _ hM
    · replace hM := zw_ift c10 hM
      refine zr_bipush (q := 36) (v := (-2 : Int32)) g dX9_judge_34 rfl (by decide) ?_
      cases hM
      exact zr_iret g hr hlk dX9_judge_36 rfl rfl
noncomputable def B_X9_ways_4 (h : zw_Hp) (k4 : (Int32 × Int32 × Int32) → Option (Int32)) (x0 : Int32) (x1 : Int32) (x2 : Int32) : Option (Int32) :=
  if x0 < x2 then (some x1) else (zw_nm (x1 * x2) (fun y2 => zw_nm (x2 + (1 : Int32)) (fun y4 => k4 (x0, y2, y4))))
set_option maxRecDepth 100000 in
set_option maxHeartbeats 4000000 in
theorem U_X9_ways_4 {h : zw_Hp} (ok : zw_Ok E) (hI : ∀ i, i < 48 → i ∈ E.2.2.1) (g : zw_G p E (zw_A E) s m args c RX9 cX9_ways 3) (hr : meth.sig.returnType = some .int) (hlk : meth.locks = false) {k4 : (Int32 × Int32 × Int32) → Option (Int32)} (eL4 : ∀ (w : Int32 × Int32 × Int32) (z : Int32), k4 w = some z → zw_V p l e s m args below meth c E mt_X9_ways 3 (some (.int z)) h 4 [(0, .int w.1), (1, .int w.2.1), (2, .int w.2.2)] [] h) :
    ∀ (x0 : Int32) (x1 : Int32) (x2 : Int32) (z : Int32), B_X9_ways_4 h k4 x0 x1 x2 = some z → zw_V p l e s m args below meth c E mt_X9_ways 3 (some (.int z)) h 4 [(0, .int x0), (1, .int x1), (2, .int x2)] [] h := by
  intro x0 x1 x2 z hM
  unfold B_X9_ways_4 at hM
  refine zr_iload_n (q := 5) g 2 dX9_ways_4 rfl rfl rfl ?_
  refine zr_iload_n (q := 6) g 0 dX9_ways_5 rfl rfl rfl ?_
  refine zr_icmp_gt (q := 9) (tgt := 19) g dX9_ways_6 rfl rfl (fun c1 => ?_) (fun c1 => ?_)
  · replace hM := zw_ift c1 hM
    refine zr_iload_n (q := 20) g 1 dX9_ways_19 rfl rfl rfl ?_
    cases hM
    exact zr_iret g hr hlk dX9_ways_20 rfl rfl
  · replace hM := zw_iff c1 hM
    refine zr_iload_n (q := 10) g 1 dX9_ways_9 rfl rfl rfl ?_
    refine zr_iload_n (q := 11) g 2 dX9_ways_10 rfl rfl rfl ?_
    refine zr_imul (q := 12) g dX9_ways_11 rfl ?_
    obtain ⟨y2, e3, hM⟩ := zw_nm_ex hM
    refine zr_nmi e3 ?_
    refine zr_istore_n (q := 13) (lv' := [(1, .int y2), (0, .int x0), (2, .int x2)]) g dX9_ways_12 rfl rfl (by decide) rfl ?_
    obtain ⟨y4, e5, hM⟩ := zw_nm_ex hM
    refine zr_iinc (q := 16) (v := y4) (lv' := [(2, .int y4), (1, .int y2), (0, .int x0)]) g 2 dX9_ways_13 rfl rfl (by rw [e5]; rfl) (by decide) rfl ?_
    refine zr_goto (tgt := 4) g dX9_ways_16 rfl ?_
    refine zr_lv (lv' := [(0, .int x0), (1, .int y2), (2, .int y4)]) [2, 1, 0] rfl ?_
    exact eL4 _ _ hM
noncomputable def L_X9_ways_4 (h : zw_Hp) (w : Int32 × Int32 × Int32) : Option (Int32) :=
  zw_it (fun (k4 : (Int32 × Int32 × Int32) → Option (Int32)) (w : Int32 × Int32 × Int32) => B_X9_ways_4 h k4 (w.1) (w.2.1) (w.2.2)) 600 w
theorem UL_X9_ways_4 {h : zw_Hp} (ok : zw_Ok E) (hI : ∀ i, i < 48 → i ∈ E.2.2.1) (g : zw_G p E (zw_A E) s m args c RX9 cX9_ways 3) (hr : meth.sig.returnType = some .int) (hlk : meth.locks = false) :
    ∀ (w : Int32 × Int32 × Int32) (z : Int32), L_X9_ways_4 h w = some z → zw_V p l e s m args below meth c E mt_X9_ways 3 (some (.int z)) h 4 [(0, .int w.1), (1, .int w.2.1), (2, .int w.2.2)] [] h :=
  fun w z hM => zw_it_ind (P := fun (w : Int32 × Int32 × Int32) (z : Int32) => zw_V p l e s m args below meth c E mt_X9_ways 3 (some (.int z)) h 4 [(0, .int w.1), (1, .int w.2.1), (2, .int w.2.2)] [] h) (fun k e w z hM => U_X9_ways_4 ok hI g hr hlk e _ _ _ _ hM) 600 w z hM
noncomputable def M_X9_ways (x0 : Int32) (h : zw_Hp) : Option (Int32) :=
  L_X9_ways_4 h (x0, (1 : Int32), (2 : Int32))
set_option maxRecDepth 100000 in
set_option maxHeartbeats 4000000 in
theorem R_X9_ways (ok : zw_Ok E) (hI : ∀ i, i < 48 → i ∈ E.2.2.1) {x0 : Int32} {h : zw_Hp} {z : Int32} (hM : M_X9_ways x0 h = some z) : zw_Ct l E mt_X9_ways [.int x0] h (some (.int z)) h := by
  unfold M_X9_ways at hM
  refine zw_ct (lv0 := [(0, .int x0)]) ok (by decide) rfl (Nat.le_of_ble_eq_true rfl) (fun p e s m args below meth c g hr hlk => ?_)
  replace g : zw_G p E (zw_A E) s m args c RX9 cX9_ways 3 := g
  show zw_V p l e s m args below meth c E mt_X9_ways 3 (some (.int z)) h 0 [(0, .int x0)] [] h
  refine zr_iconst (q := 1) (v := (1 : Int32)) g dX9_ways_0 rfl (by decide) ?_
  refine zr_istore_n (q := 2) (lv' := [(1, .int (1 : Int32)), (0, .int x0)]) g dX9_ways_1 rfl rfl (by decide) rfl ?_
  refine zr_iconst (q := 3) (v := (2 : Int32)) g dX9_ways_2 rfl (by decide) ?_
  refine zr_istore_n (q := 4) (lv' := [(2, .int (2 : Int32)), (1, .int (1 : Int32)), (0, .int x0)]) g dX9_ways_3 rfl rfl (by decide) rfl ?_
  refine zr_lv (lv' := [(0, .int x0), (1, .int (1 : Int32)), (2, .int (2 : Int32))]) [2, 1, 0] rfl ?_
  exact UL_X9_ways_4 ok hI g hr hlk _ _ hM
noncomputable def B_X9_divisor_13 (h : zw_Hp) (k13 : (Int32 × Int32) → Option (Int32)) (x2 : Int32) (x3 : Int32) : Option (Int32) :=
  if x3 = 0 then (some x2) else (if ¬ x3 = 0 then zw_nm (x2 - x2 / x3 * x3) (fun y4 => k13 (x3, y4)) else none)
set_option maxRecDepth 100000 in
set_option maxHeartbeats 4000000 in
theorem U_X9_divisor_13 {h : zw_Hp} (ok : zw_Ok E) (hI : ∀ i, i < 48 → i ∈ E.2.2.1) (g : zw_G p E (zw_A E) s m args c RX9 cX9_divisor 5) (hr : meth.sig.returnType = some .int) (hlk : meth.locks = false) {k13 : (Int32 × Int32) → Option (Int32)} (eL13 : ∀ (w : Int32 × Int32) (z : Int32), k13 w = some z → zw_V p l e s m args below meth c E mt_X9_divisor 5 (some (.int z)) h 13 [(2, .int w.1), (3, .int w.2)] [] h) :
    ∀ (x2 : Int32) (x3 : Int32) (z : Int32), B_X9_divisor_13 h k13 x2 x3 = some z → zw_V p l e s m args below meth c E mt_X9_divisor 5 (some (.int z)) h 13 [(2, .int x2), (3, .int x3)] [] h := by
  intro x2 x3 z hM
  unfold B_X9_divisor_13 at hM
  refine zr_iload_n (q := 14) g 1 dX9_divisor_13 rfl rfl rfl ?_
  refine zr_if_eq (q := 17) (tgt := 30) g dX9_divisor_14 rfl rfl (fun c2 => ?_) (fun c2 => ?_)
  · replace hM := zw_ift c2 hM
    refine zr_iload_n (q := 31) g 0 dX9_divisor_30 rfl rfl rfl ?_
    cases hM
    exact zr_iret g hr hlk dX9_divisor_31 rfl rfl
  · replace hM := zw_iff c2 hM
    refine zr_iload_n (q := 18) g 0 dX9_divisor_17 rfl rfl rfl ?_
    refine zr_iload_n (q := 19) g 1 dX9_divisor_18 rfl rfl rfl ?_
    obtain ⟨c3, hM⟩ := zw_gp hM
    refine zr_irem (q := 20) g dX9_divisor_19 rfl c3 ?_
    obtain ⟨y4, e5, hM⟩ := zw_nm_ex hM
    refine zr_nmi e5 ?_
    refine zr_istore (q := 22) (lv' := [(4, .int y4), (2, .int x2), (3, .int x3)]) g dX9_divisor_20 rfl (by decide) rfl ?_
    refine zr_iload_n (q := 23) g 2 dX9_divisor_22 rfl rfl rfl ?_
    refine zr_istore_n (q := 24) (lv' := [(2, .int x3), (4, .int y4), (3, .int x3)]) g dX9_divisor_23 rfl rfl (by decide) rfl ?_
    refine zr_iload (q := 26) g 1 dX9_divisor_24 rfl rfl ?_
    refine zr_istore_n (q := 27) (lv' := [(3, .int y4), (2, .int x3), (4, .int y4)]) g dX9_divisor_26 rfl rfl (by decide) rfl ?_
    refine zr_goto (tgt := 13) g dX9_divisor_27 rfl ?_
    refine zr_lv (lv' := [(2, .int x3), (3, .int y4)]) [1, 0] rfl ?_
    exact eL13 _ _ hM
noncomputable def L_X9_divisor_13 (h : zw_Hp) (w : Int32 × Int32) : Option (Int32) :=
  zw_it (fun (k13 : (Int32 × Int32) → Option (Int32)) (w : Int32 × Int32) => B_X9_divisor_13 h k13 (w.1) (w.2)) 600 w
theorem UL_X9_divisor_13 {h : zw_Hp} (ok : zw_Ok E) (hI : ∀ i, i < 48 → i ∈ E.2.2.1) (g : zw_G p E (zw_A E) s m args c RX9 cX9_divisor 5) (hr : meth.sig.returnType = some .int) (hlk : meth.locks = false) :
    ∀ (w : Int32 × Int32) (z : Int32), L_X9_divisor_13 h w = some z → zw_V p l e s m args below meth c E mt_X9_divisor 5 (some (.int z)) h 13 [(2, .int w.1), (3, .int w.2)] [] h :=
  fun w z hM => zw_it_ind (P := fun (w : Int32 × Int32) (z : Int32) => zw_V p l e s m args below meth c E mt_X9_divisor 5 (some (.int z)) h 13 [(2, .int w.1), (3, .int w.2)] [] h) (fun k e w z hM => U_X9_divisor_13 ok hI g hr hlk e _ _ _ hM) 600 w z hM
noncomputable def B_X9_divisor_10 (h : zw_Hp) (x1 : Int32) (s0 : Int32) : Option (Int32) :=
  L_X9_divisor_13 h (s0, x1)
set_option maxRecDepth 100000 in
set_option maxHeartbeats 4000000 in
theorem U_X9_divisor_10 {h : zw_Hp} (ok : zw_Ok E) (hI : ∀ i, i < 48 → i ∈ E.2.2.1) (g : zw_G p E (zw_A E) s m args c RX9 cX9_divisor 5) (hr : meth.sig.returnType = some .int) (hlk : meth.locks = false) :
    ∀ (x1 : Int32) (s0 : Int32) (z : Int32), B_X9_divisor_10 h x1 s0 = some z → zw_V p l e s m args below meth c E mt_X9_divisor 5 (some (.int z)) h 10 [(1, .int x1)] [.int s0] h := by
  intro x1 s0 z hM
  unfold B_X9_divisor_10 at hM
  refine zr_istore_n (q := 11) (lv' := [(2, .int s0), (1, .int x1)]) g dX9_divisor_10 rfl rfl (by decide) rfl ?_
  refine zr_iload_n (q := 12) g 1 dX9_divisor_11 rfl rfl rfl ?_
  refine zr_istore_n (q := 13) (lv' := [(3, .int x1), (2, .int s0), (1, .int x1)]) g dX9_divisor_12 rfl rfl (by decide) rfl ?_
  refine zr_lv (lv' := [(2, .int s0), (3, .int x1)]) [1, 0] rfl ?_
  exact UL_X9_divisor_13 ok hI g hr hlk _ _ hM
noncomputable def M_X9_divisor (x0 : Int32) (x1 : Int32) (h : zw_Hp) : Option (Int32) :=
  if 0 ≤ x0 then (B_X9_divisor_10 h x1 x0) else (B_X9_divisor_10 h x1 (-x0))
set_option maxRecDepth 100000 in
set_option maxHeartbeats 4000000 in
theorem R_X9_divisor (ok : zw_Ok E) (hI : ∀ i, i < 48 → i ∈ E.2.2.1) {x0 : Int32} {x1 : Int32} {h : zw_Hp} {z : Int32} (hM : M_X9_divisor x0 x1 h = some z) : zw_Ct l E mt_X9_divisor [.int x0, .int x1] h (some (.int z)) h := by
  unfold M_X9_divisor at hM
  refine zw_ct (lv0 := [(0, .int x0), (1, .int x1)]) ok (by decide) rfl (Nat.le_of_ble_eq_true rfl) (fun p e s m args below meth c g hr hlk => ?_)
  replace g : zw_G p E (zw_A E) s m args c RX9 cX9_divisor 5 := g
  show zw_V p l e s m args below meth c E mt_X9_divisor 5 (some (.int z)) h 0 [(0, .int x0), (1, .int x1)] [] h
  refine zr_iload_n (q := 1) g 0 dX9_divisor_0 rfl rfl rfl ?_
  refine zr_if_ge (q := 4) (tgt := 9) g dX9_divisor_1 rfl rfl (fun c1 => ?_) (fun c1 => ?_)
  · replace hM := zw_ift c1 hM
    refine zr_iload_n (q := 10) g 0 dX9_divisor_9 rfl rfl rfl ?_
    refine zr_lv (lv' := [(1, .int x1)]) [1] rfl ?_
    exact U_X9_divisor_10 ok hI g hr hlk _ _ _ hM
  · replace hM := zw_iff c1 hM
    refine zr_iload_n (q := 5) g 0 dX9_divisor_4 rfl rfl rfl ?_
    refine zr_ineg (q := 6) g dX9_divisor_5 rfl ?_
    refine zr_goto (tgt := 10) g dX9_divisor_6 rfl ?_
    refine zr_lv (lv' := [(1, .int x1)]) [1] rfl ?_
    exact U_X9_divisor_10 ok hI g hr hlk _ _ _ hM
noncomputable def M_X9_fraction (x0 : Int32) (x1 : Int32) (x2 : Int32) (h : zw_Hp) : Option (Int32) :=
  (M_X9_divisor x0 x1 h).bind (fun z1 => if x2 = 0 then (if ¬ z1 = 0 then some (x1 / z1) else none) else (if ¬ z1 = 0 then some (x0 / z1) else none))
set_option maxRecDepth 100000 in
set_option maxHeartbeats 4000000 in
theorem R_X9_fraction (ok : zw_Ok E) (hI : ∀ i, i < 48 → i ∈ E.2.2.1) {x0 : Int32} {x1 : Int32} {x2 : Int32} {h : zw_Hp} {z : Int32} (hM : M_X9_fraction x0 x1 x2 h = some z) : zw_Ct l E mt_X9_fraction [.int x0, .int x1, .int x2] h (some (.int z)) h := by
  unfold M_X9_fraction at hM
  refine zw_ct (lv0 := [(0, .int x0), (1, .int x1), (2, .int x2)]) ok (by decide) rfl (Nat.le_of_ble_eq_true rfl) (fun p e s m args below meth c g hr hlk => ?_)
  replace g : zw_G p E (zw_A E) s m args c RX9 cX9_fraction 4 := g
  show zw_V p l e s m args below meth c E mt_X9_fraction 4 (some (.int z)) h 0 [(0, .int x0), (1, .int x1), (2, .int x2)] [] h
  refine zr_iload_n (q := 1) g 0 dX9_fraction_0 rfl rfl rfl ?_
  refine zr_iload_n (q := 2) g 1 dX9_fraction_1 rfl rfl rfl ?_
  obtain ⟨z1, q2, hM⟩ := zw_bd hM
  refine zr_callS (q := 5) (As := [.int x0, .int x1]) (rest := []) (st' := [.int z1]) g (R_X9_divisor ok hI q2) zv_X9_divisor zl_X9_246 dX9_fraction_2 rfl rfl ⟨Nat.le_of_ble_eq_true rfl, Nat.le_of_ble_eq_true rfl⟩ ⟨Nat.zero_le _, Nat.zero_le _⟩ (Nat.le_of_ble_eq_true rfl) rfl rfl ?_
  refine zr_istore_n (q := 6) (lv' := [(3, .int z1), (0, .int x0), (1, .int x1), (2, .int x2)]) g dX9_fraction_5 rfl rfl (by decide) rfl ?_
  refine zr_iload_n (q := 7) g 3 dX9_fraction_6 rfl rfl rfl ?_
  refine zr_if_eq (q := 10) (tgt := 16) g dX9_fraction_7 rfl rfl (fun c3 => ?_) (fun c3 => ?_)
  · replace hM := zw_ift c3 hM
    refine zr_iload_n (q := 17) g 2 dX9_fraction_16 rfl rfl rfl ?_
    refine zr_iload_n (q := 18) g 0 dX9_fraction_17 rfl rfl rfl ?_
    obtain ⟨c4, hM⟩ := zw_gp hM
    refine zr_idiv (q := 19) g dX9_fraction_18 rfl c4 ?_
    cases hM
    exact zr_iret g hr hlk dX9_fraction_19 rfl rfl
  · replace hM := zw_iff c3 hM
    refine zr_iload_n (q := 11) g 1 dX9_fraction_10 rfl rfl rfl ?_
    refine zr_iload_n (q := 12) g 0 dX9_fraction_11 rfl rfl rfl ?_
    obtain ⟨c5, hM⟩ := zw_gp hM
    refine zr_idiv (q := 13) g dX9_fraction_12 rfl c5 ?_
    refine zr_goto (tgt := 19) g dX9_fraction_13 rfl ?_
    cases hM
    exact zr_iret g hr hlk dX9_fraction_19 rfl rfl
noncomputable def B_X9_share_74 (k17 : (Int32 × Int32 × Int32 × zw_Hp) → Option (Int32 × zw_Hp)) (k34 : (Int32 × Int32 × Int32 × Int32 × zw_Hp) → Option (Int32 × zw_Hp)) (x1 : Int32) (x2 : Int32) (x3 : Int32) (x4 : Int32) (s0 : Int32) (s1 : Int32) (h : zw_Hp) : Option (Int32 × zw_Hp) :=
  if zw_ok s1 21 = true then zw_nm (zw_up h 38 (s1).toNatClampNeg s0) (fun h24 => zw_nm (x4 + (1 : Int32)) (fun y26 => k34 (x1, x2, x3, y26, h24))) else none
set_option maxRecDepth 100000 in
set_option maxHeartbeats 4000000 in
theorem U_X9_share_74 (ok : zw_Ok E) (hI : ∀ i, i < 48 → i ∈ E.2.2.1) (g : zw_G p E (zw_A E) s m args c RX9 cX9_share 6) (hr : meth.sig.returnType = some .int) (hlk : meth.locks = false) {k17 : (Int32 × Int32 × Int32 × zw_Hp) → Option (Int32 × zw_Hp)} (eL17 : ∀ (w : Int32 × Int32 × Int32 × zw_Hp) (z : Int32 × zw_Hp), k17 w = some z → zw_V p l e s m args below meth c E mt_X9_share 6 (some (.int z.1)) z.2 17 [(0, .ref (E.2.1 31)), (1, .int w.1), (2, .int w.2.1), (3, .int w.2.2.1)] [] w.2.2.2) {k34 : (Int32 × Int32 × Int32 × Int32 × zw_Hp) → Option (Int32 × zw_Hp)} (eL34 : ∀ (w : Int32 × Int32 × Int32 × Int32 × zw_Hp) (z : Int32 × zw_Hp), k34 w = some z → zw_V p l e s m args below meth c E mt_X9_share 6 (some (.int z.1)) z.2 34 [(0, .ref (E.2.1 31)), (1, .int w.1), (2, .int w.2.1), (3, .int w.2.2.1), (4, .int w.2.2.2.1)] [] w.2.2.2.2) :
    ∀ (x1 : Int32) (x2 : Int32) (x3 : Int32) (x4 : Int32) (s0 : Int32) (s1 : Int32) (h : zw_Hp) (z : Int32 × zw_Hp), B_X9_share_74 k17 k34 x1 x2 x3 x4 s0 s1 h = some z → zw_V p l e s m args below meth c E mt_X9_share 6 (some (.int z.1)) z.2 74 [(0, .ref (E.2.1 31)), (1, .int x1), (2, .int x2), (3, .int x3), (4, .int x4)] [.int s0, .int s1, .ref (E.2.1 38)] h := by
  intro x1 x2 x3 x4 s0 s1 h z hM
  unfold B_X9_share_74 at hM
  obtain ⟨c23, hM⟩ := zw_gd hM
  obtain ⟨h24, e25, hM⟩ := zw_nm_ex hM
  refine zr_iast (q := 75) (h' := h24) g (hI 38 (by decide)) zs_38 c23 dX9_share_74 rfl e25 ?_
  obtain ⟨y26, e27, hM⟩ := zw_nm_ex hM
  refine zr_iinc (q := 78) (v := y26) (lv' := [(4, .int y26), (0, .ref (E.2.1 31)), (1, .int x1), (2, .int x2), (3, .int x3)]) g 4 dX9_share_75 rfl rfl (by rw [e27]; rfl) (by decide) rfl ?_
  refine zr_goto (tgt := 34) g dX9_share_78 rfl ?_
  refine zr_lv (lv' := [(0, .ref (E.2.1 31)), (1, .int x1), (2, .int x2), (3, .int x3), (4, .int y26)]) [1, 2, 3, 4, 0] rfl ?_
  exact eL34 _ _ hM
noncomputable def B_X9_share_34 (k17 : (Int32 × Int32 × Int32 × zw_Hp) → Option (Int32 × zw_Hp)) (k34 : (Int32 × Int32 × Int32 × Int32 × zw_Hp) → Option (Int32 × zw_Hp)) (x1 : Int32) (x2 : Int32) (x3 : Int32) (x4 : Int32) (h : zw_Hp) : Option (Int32 × zw_Hp) :=
  if (h.1 31 8) ≤ x4 then ((M_X9_goBeats (12 : Int32) (31 : Int32) h).bind (fun z10 => if zw_ok (19 : Int32) 21 = true then (if zw_ok (19 : Int32) 21 = true then (if zw_ok x3 16 = true then zw_nm (zw_up z10 46 (x3).toNatClampNeg ((z10.1 38 ((19 : Int32)).toNatClampNeg) - (z10.1 37 ((19 : Int32)).toNatClampNeg))) (fun h15 => zw_nm (x3 + (1 : Int32)) (fun y17 => k17 (x1, x2, y17, h15))) else none) else none) else none)) else ((M_X9_has x3 x4 h).bind (fun z19 => if z19 = 0 then (B_X9_share_74 k17 k34 x1 x2 x3 x4 (7 : Int32) ((5 : Int32) + x4) h) else (if zw_ok ((5 : Int32) + x4) 21 = true then (B_X9_share_74 k17 k34 x1 x2 x3 x4 (h.1 38 (((5 : Int32) + x4)).toNatClampNeg) ((5 : Int32) + x4) h) else none)))
set_option maxRecDepth 100000 in
set_option maxHeartbeats 4000000 in
theorem U_X9_share_34 (ok : zw_Ok E) (hI : ∀ i, i < 48 → i ∈ E.2.2.1) (g : zw_G p E (zw_A E) s m args c RX9 cX9_share 6) (hr : meth.sig.returnType = some .int) (hlk : meth.locks = false) {k17 : (Int32 × Int32 × Int32 × zw_Hp) → Option (Int32 × zw_Hp)} (eL17 : ∀ (w : Int32 × Int32 × Int32 × zw_Hp) (z : Int32 × zw_Hp), k17 w = some z → zw_V p l e s m args below meth c E mt_X9_share 6 (some (.int z.1)) z.2 17 [(0, .ref (E.2.1 31)), (1, .int w.1), (2, .int w.2.1), (3, .int w.2.2.1)] [] w.2.2.2) {k34 : (Int32 × Int32 × Int32 × Int32 × zw_Hp) → Option (Int32 × zw_Hp)} (eL34 : ∀ (w : Int32 × Int32 × Int32 × Int32 × zw_Hp) (z : Int32 × zw_Hp), k34 w = some z → zw_V p l e s m args below meth c E mt_X9_share 6 (some (.int z.1)) z.2 34 [(0, .ref (E.2.1 31)), (1, .int w.1), (2, .int w.2.1), (3, .int w.2.2.1), (4, .int w.2.2.2.1)] [] w.2.2.2.2) :
    ∀ (x1 : Int32) (x2 : Int32) (x3 : Int32) (x4 : Int32) (h : zw_Hp) (z : Int32 × zw_Hp), B_X9_share_34 k17 k34 x1 x2 x3 x4 h = some z → zw_V p l e s m args below meth c E mt_X9_share 6 (some (.int z.1)) z.2 34 [(0, .ref (E.2.1 31)), (1, .int x1), (2, .int x2), (3, .int x3), (4, .int x4)] [] h := by
  intro x1 x2 x3 x4 h z hM
  unfold B_X9_share_34 at hM
  refine zr_iload (q := 36) g 4 dX9_share_34 rfl rfl ?_
  refine zr_aload_n (q := 37) g 0 dX9_share_36 rfl rfl rfl ?_
  refine zr_geti (q := 40) (k0 := 8) g (hI 31 (by decide)) zs_31 rfl zf_X9_70 dX9_share_37 rfl ?_
  refine zr_icmp_ge (q := 43) (tgt := 81) g dX9_share_40 rfl rfl (fun c9 => ?_) (fun c9 => ?_)
  · replace hM := zw_ift c9 hM
    refine zr_aload_n (q := 82) g 0 dX9_share_81 rfl rfl rfl ?_
    refine zr_bipush (q := 84) (v := (12 : Int32)) g dX9_share_82 rfl (by decide) ?_
    refine zr_bipush (q := 86) (v := (31 : Int32)) g dX9_share_84 rfl (by decide) ?_
    obtain ⟨z10, q11, hM⟩ := zw_bd hM
    refine zr_callV (q := 89) (As := [.int (12 : Int32), .int (31 : Int32)]) (rest := []) (st' := []) (i := 31) g (R_X9_goBeats ok hI q11) zv_X9_goBeats zl_X9_205 (hI 31 (by decide)) zs_31 zc_X9.1 dX9_share_86 rfl rfl ⟨Nat.le_of_ble_eq_true rfl, Nat.le_of_ble_eq_true rfl⟩ ⟨Nat.zero_le _, Nat.zero_le _⟩ (Nat.le_of_ble_eq_true rfl) rfl rfl ?_
    refine zr_aload_n (q := 90) g 0 dX9_share_89 rfl rfl rfl ?_
    refine zr_getr (q := 93) (k0 := 36) (j := 46) g (hI 31 (by decide)) zs_31 rfl zf_X9_53 dX9_share_90 rfl ?_
    refine zr_iload_n (q := 94) g 3 dX9_share_93 rfl rfl rfl ?_
    refine zr_aload_n (q := 95) g 0 dX9_share_94 rfl rfl rfl ?_
    refine zr_getr (q := 98) (k0 := 19) (j := 38) g (hI 31 (by decide)) zs_31 rfl zf_X9_28 dX9_share_95 rfl ?_
    refine zr_bipush (q := 100) (v := (19 : Int32)) g dX9_share_98 rfl (by decide) ?_
    obtain ⟨c12, hM⟩ := zw_gd hM
    refine zr_iald (q := 101) g (hI 38 (by decide)) zs_38 c12 dX9_share_100 rfl ?_
    refine zr_aload_n (q := 102) g 0 dX9_share_101 rfl rfl rfl ?_
    refine zr_getr (q := 105) (k0 := 18) (j := 37) g (hI 31 (by decide)) zs_31 rfl zf_X9_25 dX9_share_102 rfl ?_
    refine zr_bipush (q := 107) (v := (19 : Int32)) g dX9_share_105 rfl (by decide) ?_
    obtain ⟨c13, hM⟩ := zw_gd hM
    refine zr_iald (q := 108) g (hI 37 (by decide)) zs_37 c13 dX9_share_107 rfl ?_
    refine zr_isub (q := 109) g dX9_share_108 rfl ?_
    obtain ⟨c14, hM⟩ := zw_gd hM
    obtain ⟨h15, e16, hM⟩ := zw_nm_ex hM
    refine zr_iast (q := 110) (h' := h15) g (hI 46 (by decide)) zs_46 c14 dX9_share_109 rfl e16 ?_
    obtain ⟨y17, e18, hM⟩ := zw_nm_ex hM
    refine zr_iinc (q := 113) (v := y17) (lv' := [(3, .int y17), (0, .ref (E.2.1 31)), (1, .int x1), (2, .int x2), (4, .int x4)]) g 3 dX9_share_110 rfl rfl (by rw [e18]; rfl) (by decide) rfl ?_
    refine zr_goto (tgt := 17) g dX9_share_113 rfl ?_
    refine zr_lv (lv' := [(0, .ref (E.2.1 31)), (1, .int x1), (2, .int x2), (3, .int y17)]) [1, 2, 3, 0] rfl ?_
    exact eL17 _ _ hM
  · replace hM := zw_iff c9 hM
    refine zr_aload_n (q := 44) g 0 dX9_share_43 rfl rfl rfl ?_
    refine zr_getr (q := 47) (k0 := 19) (j := 38) g (hI 31 (by decide)) zs_31 rfl zf_X9_28 dX9_share_44 rfl ?_
    refine zr_iconst (q := 48) (v := (5 : Int32)) g dX9_share_47 rfl (by decide) ?_
    refine zr_iload (q := 50) g 4 dX9_share_48 rfl rfl ?_
    refine zr_iadd (q := 51) g dX9_share_50 rfl ?_
    refine zr_iload_n (q := 52) g 3 dX9_share_51 rfl rfl rfl ?_
    refine zr_iload (q := 54) g 4 dX9_share_52 rfl rfl ?_
    obtain ⟨z19, q20, hM⟩ := zw_bd hM
    refine zr_callS (q := 57) (As := [.int x3, .int x4]) (rest := [.int ((5 : Int32) + x4), .ref (E.2.1 38)]) (st' := [.int z19, .int ((5 : Int32) + x4), .ref (E.2.1 38)]) g (R_X9_has ok hI q20) zv_X9_has zl_X9_129 dX9_share_54 rfl rfl ⟨Nat.le_of_ble_eq_true rfl, Nat.le_of_ble_eq_true rfl⟩ ⟨Nat.zero_le _, Nat.zero_le _⟩ (Nat.le_of_ble_eq_true rfl) rfl rfl ?_
    refine zr_if_eq (q := 60) (tgt := 72) g dX9_share_57 rfl rfl (fun c21 => ?_) (fun c21 => ?_)
    · replace hM := zw_ift c21 hM
      refine zr_bipush (q := 74) (v := (7 : Int32)) g dX9_share_72 rfl (by decide) ?_
      exact U_X9_share_74 ok hI g hr hlk eL17 eL34 _ _ _ _ _ _ _ _ hM
    · replace hM := zw_iff c21 hM
      refine zr_aload_n (q := 61) g 0 dX9_share_60 rfl rfl rfl ?_
      refine zr_getr (q := 64) (k0 := 19) (j := 38) g (hI 31 (by decide)) zs_31 rfl zf_X9_28 dX9_share_61 rfl ?_
      refine zr_iconst (q := 65) (v := (5 : Int32)) g dX9_share_64 rfl (by decide) ?_
      refine zr_iload (q := 67) g 4 dX9_share_65 rfl rfl ?_
      refine zr_iadd (q := 68) g dX9_share_67 rfl ?_
      obtain ⟨c22, hM⟩ := zw_gd hM
      refine zr_iald (q := 69) g (hI 38 (by decide)) zs_38 c22 dX9_share_68 rfl ?_
      refine zr_goto (tgt := 74) g dX9_share_69 rfl ?_
      exact U_X9_share_74 ok hI g hr hlk eL17 eL34 _ _ _ _ _ _ _ _ hM
noncomputable def L_X9_share_34 (k17 : (Int32 × Int32 × Int32 × zw_Hp) → Option (Int32 × zw_Hp)) (w : Int32 × Int32 × Int32 × Int32 × zw_Hp) : Option (Int32 × zw_Hp) :=
  zw_it (fun (k34 : (Int32 × Int32 × Int32 × Int32 × zw_Hp) → Option (Int32 × zw_Hp)) (w : Int32 × Int32 × Int32 × Int32 × zw_Hp) => B_X9_share_34 k17 k34 (w.1) (w.2.1) (w.2.2.1) (w.2.2.2.1) (w.2.2.2.2)) 600 w
theorem UL_X9_share_34 (ok : zw_Ok E) (hI : ∀ i, i < 48 → i ∈ E.2.2.1) (g : zw_G p E (zw_A E) s m args c RX9 cX9_share 6) (hr : meth.sig.returnType = some .int) (hlk : meth.locks = false) {k17 : (Int32 × Int32 × Int32 × zw_Hp) → Option (Int32 × zw_Hp)} (eL17 : ∀ (w : Int32 × Int32 × Int32 × zw_Hp) (z : Int32 × zw_Hp), k17 w = some z → zw_V p l e s m args below meth c E mt_X9_share 6 (some (.int z.1)) z.2 17 [(0, .ref (E.2.1 31)), (1, .int w.1), (2, .int w.2.1), (3, .int w.2.2.1)] [] w.2.2.2) :
    ∀ (w : Int32 × Int32 × Int32 × Int32 × zw_Hp) (z : Int32 × zw_Hp), L_X9_share_34 k17 w = some z → zw_V p l e s m args below meth c E mt_X9_share 6 (some (.int z.1)) z.2 34 [(0, .ref (E.2.1 31)), (1, .int w.1), (2, .int w.2.1), (3, .int w.2.2.1), (4, .int w.2.2.2.1)] [] w.2.2.2.2 :=
  fun w z hM => zw_it_ind (P := fun (w : Int32 × Int32 × Int32 × Int32 × zw_Hp) (z : Int32 × zw_Hp) => zw_V p l e s m args below meth c E mt_X9_share 6 (some (.int z.1)) z.2 34 [(0, .ref (E.2.1 31)), (1, .int w.1), (2, .int w.2.1), (3, .int w.2.2.1), (4, .int w.2.2.2.1)] [] w.2.2.2.2) (fun k e w z hM => U_X9_share_34 ok hI g hr hlk eL17 e _ _ _ _ _ _ hM) 600 w z hM
noncomputable def B_X9_share_189 (k121 : (Int32 × Int32 × Int32 × Int32 × zw_Hp) → Option (Int32 × zw_Hp)) (x1 : Int32) (x2 : Int32) (x3 : Int32) (x4 : Int32) (h : zw_Hp) : Option (Int32 × zw_Hp) :=
  zw_nm (x4 + (1 : Int32)) (fun y46 => k121 (x1, x2, x3, y46, h))
set_option maxRecDepth 100000 in
set_option maxHeartbeats 4000000 in
theorem U_X9_share_189 (ok : zw_Ok E) (hI : ∀ i, i < 48 → i ∈ E.2.2.1) (g : zw_G p E (zw_A E) s m args c RX9 cX9_share 6) (hr : meth.sig.returnType = some .int) (hlk : meth.locks = false) {k121 : (Int32 × Int32 × Int32 × Int32 × zw_Hp) → Option (Int32 × zw_Hp)} (eL121 : ∀ (w : Int32 × Int32 × Int32 × Int32 × zw_Hp) (z : Int32 × zw_Hp), k121 w = some z → zw_V p l e s m args below meth c E mt_X9_share 6 (some (.int z.1)) z.2 121 [(0, .ref (E.2.1 31)), (1, .int w.1), (2, .int w.2.1), (3, .int w.2.2.1), (4, .int w.2.2.2.1)] [] w.2.2.2.2) :
    ∀ (x1 : Int32) (x2 : Int32) (x3 : Int32) (x4 : Int32) (h : zw_Hp) (z : Int32 × zw_Hp), B_X9_share_189 k121 x1 x2 x3 x4 h = some z → zw_V p l e s m args below meth c E mt_X9_share 6 (some (.int z.1)) z.2 189 [(0, .ref (E.2.1 31)), (1, .int x1), (2, .int x2), (3, .int x3), (4, .int x4)] [] h := by
  intro x1 x2 x3 x4 h z hM
  unfold B_X9_share_189 at hM
  obtain ⟨y46, e47, hM⟩ := zw_nm_ex hM
  refine zr_iinc (q := 192) (v := y46) (lv' := [(4, .int y46), (0, .ref (E.2.1 31)), (1, .int x1), (2, .int x2), (3, .int x3)]) g 4 dX9_share_189 rfl rfl (by rw [e47]; rfl) (by decide) rfl ?_
  refine zr_goto (tgt := 121) g dX9_share_192 rfl ?_
  refine zr_lv (lv' := [(0, .ref (E.2.1 31)), (1, .int x1), (2, .int x2), (3, .int x3), (4, .int y46)]) [1, 2, 3, 4, 0] rfl ?_
  exact eL121 _ _ hM
noncomputable def B_X9_share_121 (k121 : (Int32 × Int32 × Int32 × Int32 × zw_Hp) → Option (Int32 × zw_Hp)) (x1 : Int32) (x2 : Int32) (x3 : Int32) (x4 : Int32) (h : zw_Hp) : Option (Int32 × zw_Hp) :=
  if ((1 : Int32) <<< ((h.1 31 8) &&& 31)) ≤ x4 then ((M_X9_ways (h.1 31 8) h).bind (fun z29 => (M_X9_fraction x3 z29 x2 h).bind (fun z31 => some (z31, h)))) else ((M_X9_has x4 x1 h).bind (fun z33 => if z33 = 0 then ((M_X9_many x4 h).bind (fun z36 => (M_X9_ways z36 h).bind (fun z38 => (M_X9_ways (((h.1 31 8) - (1 : Int32)) - z36) h).bind (fun z40 => if zw_ok (x4 ||| ((1 : Int32) <<< (x1 &&& 31))) 16 = true then (if zw_ok x4 16 = true then (zw_nm (x3 + ((z38 * z40) * ((h.1 46 ((x4 ||| ((1 : Int32) <<< (x1 &&& 31)))).toNatClampNeg) - (h.1 46 (x4).toNatClampNeg)))) (fun y44 => B_X9_share_189 k121 x1 x2 y44 x4 h)) else none) else none)))) else (B_X9_share_189 k121 x1 x2 x3 x4 h)))
set_option maxRecDepth 100000 in
set_option maxHeartbeats 4000000 in
theorem U_X9_share_121 (ok : zw_Ok E) (hI : ∀ i, i < 48 → i ∈ E.2.2.1) (g : zw_G p E (zw_A E) s m args c RX9 cX9_share 6) (hr : meth.sig.returnType = some .int) (hlk : meth.locks = false) {k121 : (Int32 × Int32 × Int32 × Int32 × zw_Hp) → Option (Int32 × zw_Hp)} (eL121 : ∀ (w : Int32 × Int32 × Int32 × Int32 × zw_Hp) (z : Int32 × zw_Hp), k121 w = some z → zw_V p l e s m args below meth c E mt_X9_share 6 (some (.int z.1)) z.2 121 [(0, .ref (E.2.1 31)), (1, .int w.1), (2, .int w.2.1), (3, .int w.2.2.1), (4, .int w.2.2.2.1)] [] w.2.2.2.2) :
    ∀ (x1 : Int32) (x2 : Int32) (x3 : Int32) (x4 : Int32) (h : zw_Hp) (z : Int32 × zw_Hp), B_X9_share_121 k121 x1 x2 x3 x4 h = some z → zw_V p l e s m args below meth c E mt_X9_share 6 (some (.int z.1)) z.2 121 [(0, .ref (E.2.1 31)), (1, .int x1), (2, .int x2), (3, .int x3), (4, .int x4)] [] h := by
  intro x1 x2 x3 x4 h z hM
  unfold B_X9_share_121 at hM
  refine zr_iload (q := 123) g 4 dX9_share_121 rfl rfl ?_
  refine zr_iconst (q := 124) (v := (1 : Int32)) g dX9_share_123 rfl (by decide) ?_
  refine zr_aload_n (q := 125) g 0 dX9_share_124 rfl rfl rfl ?_
  refine zr_geti (q := 128) (k0 := 8) g (hI 31 (by decide)) zs_31 rfl zf_X9_70 dX9_share_125 rfl ?_
  refine zr_ishl (q := 129) g dX9_share_128 rfl ?_
  refine zr_icmp_ge (q := 132) (tgt := 195) g dX9_share_129 rfl rfl (fun c28 => ?_) (fun c28 => ?_)
  · replace hM := zw_ift c28 hM
    refine zr_iload_n (q := 196) g 3 dX9_share_195 rfl rfl rfl ?_
    refine zr_aload_n (q := 197) g 0 dX9_share_196 rfl rfl rfl ?_
    refine zr_geti (q := 200) (k0 := 8) g (hI 31 (by decide)) zs_31 rfl zf_X9_70 dX9_share_197 rfl ?_
    obtain ⟨z29, q30, hM⟩ := zw_bd hM
    refine zr_callS (q := 203) (As := [.int (h.1 31 8)]) (rest := [.int x3]) (st' := [.int z29, .int x3]) g (R_X9_ways ok hI q30) zv_X9_ways zl_X9_249 dX9_share_200 rfl rfl ⟨Nat.le_of_ble_eq_true rfl, Nat.le_of_ble_eq_true rfl⟩ ⟨Nat.zero_le _, Nat.zero_le _⟩ (Nat.le_of_ble_eq_true rfl) rfl rfl ?_
    refine zr_iload_n (q := 204) g 2 dX9_share_203 rfl rfl rfl ?_
    obtain ⟨z31, q32, hM⟩ := zw_bd hM
    refine zr_callS (q := 207) (As := [.int x3, .int z29, .int x2]) (rest := []) (st' := [.int z31]) g (R_X9_fraction ok hI q32) zv_X9_fraction zl_X9_252 dX9_share_204 rfl rfl ⟨Nat.le_of_ble_eq_true rfl, Nat.le_of_ble_eq_true rfl⟩ ⟨Nat.zero_le _, Nat.zero_le _⟩ (Nat.le_of_ble_eq_true rfl) rfl rfl ?_
    cases hM
    exact zr_iret g hr hlk dX9_share_207 rfl rfl
  · replace hM := zw_iff c28 hM
    refine zr_iload (q := 134) g 4 dX9_share_132 rfl rfl ?_
    refine zr_iload_n (q := 135) g 1 dX9_share_134 rfl rfl rfl ?_
    obtain ⟨z33, q34, hM⟩ := zw_bd hM
    refine zr_callS (q := 138) (As := [.int x4, .int x1]) (rest := []) (st' := [.int z33]) g (R_X9_has ok hI q34) zv_X9_has zl_X9_129 dX9_share_135 rfl rfl ⟨Nat.le_of_ble_eq_true rfl, Nat.le_of_ble_eq_true rfl⟩ ⟨Nat.zero_le _, Nat.zero_le _⟩ (Nat.le_of_ble_eq_true rfl) rfl rfl ?_
    refine zr_if_ne (q := 141) (tgt := 189) g dX9_share_138 rfl rfl (fun c35 => ?_) (fun c35 => ?_)
    · replace hM := zw_iff c35 hM
      exact U_X9_share_189 ok hI g hr hlk eL121 _ _ _ _ _ _ hM
    · replace hM := zw_ift c35 hM
      refine zr_iload (q := 143) g 4 dX9_share_141 rfl rfl ?_
      obtain ⟨z36, q37, hM⟩ := zw_bd hM
      refine zr_callS (q := 146) (As := [.int x4]) (rest := []) (st' := [.int z36]) g (R_X9_many ok hI q37) zv_X9_many zl_X9_196 dX9_share_143 rfl rfl ⟨Nat.le_of_ble_eq_true rfl, Nat.le_of_ble_eq_true rfl⟩ ⟨Nat.zero_le _, Nat.zero_le _⟩ (Nat.le_of_ble_eq_true rfl) rfl rfl ?_
      refine zr_istore (q := 148) (lv' := [(5, .int z36), (0, .ref (E.2.1 31)), (1, .int x1), (2, .int x2), (3, .int x3), (4, .int x4)]) g dX9_share_146 rfl (by decide) rfl ?_
      refine zr_iload_n (q := 149) g 4 dX9_share_148 rfl rfl rfl ?_
      refine zr_iload (q := 151) g 0 dX9_share_149 rfl rfl ?_
      obtain ⟨z38, q39, hM⟩ := zw_bd hM
      refine zr_callS (q := 154) (As := [.int z36]) (rest := [.int x3]) (st' := [.int z38, .int x3]) g (R_X9_ways ok hI q39) zv_X9_ways zl_X9_249 dX9_share_151 rfl rfl ⟨Nat.le_of_ble_eq_true rfl, Nat.le_of_ble_eq_true rfl⟩ ⟨Nat.zero_le _, Nat.zero_le _⟩ (Nat.le_of_ble_eq_true rfl) rfl rfl ?_
      refine zr_aload_n (q := 155) g 1 dX9_share_154 rfl rfl rfl ?_
      refine zr_geti (q := 158) (k0 := 8) g (hI 31 (by decide)) zs_31 rfl zf_X9_70 dX9_share_155 rfl ?_
      refine zr_iconst (q := 159) (v := (1 : Int32)) g dX9_share_158 rfl (by decide) ?_
      refine zr_isub (q := 160) g dX9_share_159 rfl ?_
      refine zr_iload (q := 162) g 0 dX9_share_160 rfl rfl ?_
      refine zr_isub (q := 163) g dX9_share_162 rfl ?_
      obtain ⟨z40, q41, hM⟩ := zw_bd hM
      refine zr_callS (q := 166) (As := [.int (((h.1 31 8) - (1 : Int32)) - z36)]) (rest := [.int z38, .int x3]) (st' := [.int z40, .int z38, .int x3]) g (R_X9_ways ok hI q41) zv_X9_ways zl_X9_249 dX9_share_163 rfl rfl ⟨Nat.le_of_ble_eq_true rfl, Nat.le_of_ble_eq_true rfl⟩ ⟨Nat.zero_le _, Nat.zero_le _⟩ (Nat.le_of_ble_eq_true rfl) rfl rfl ?_
      refine zr_imul (q := 167) g dX9_share_166 rfl ?_
      refine zr_aload_n (q := 168) g 1 dX9_share_167 rfl rfl rfl ?_
      refine zr_getr (q := 171) (k0 := 36) (j := 46) g (hI 31 (by decide)) zs_31 rfl zf_X9_53 dX9_share_168 rfl ?_
      refine zr_iload (q := 173) g 5 dX9_share_171 rfl rfl ?_
      refine zr_iconst (q := 174) (v := (1 : Int32)) g dX9_share_173 rfl (by decide) ?_
      refine zr_iload_n (q := 175) g 2 dX9_share_174 rfl rfl rfl ?_
      refine zr_ishl (q := 176) g dX9_share_175 rfl ?_
      refine zr_ior (q := 177) g dX9_share_176 rfl ?_
      obtain ⟨c42, hM⟩ := zw_gd hM
      refine zr_iald (q := 178) g (hI 46 (by decide)) zs_46 c42 dX9_share_177 rfl ?_
      refine zr_aload_n (q := 179) g 1 dX9_share_178 rfl rfl rfl ?_
      refine zr_getr (q := 182) (k0 := 36) (j := 46) g (hI 31 (by decide)) zs_31 rfl zf_X9_53 dX9_share_179 rfl ?_
      refine zr_iload (q := 184) g 5 dX9_share_182 rfl rfl ?_
      obtain ⟨c43, hM⟩ := zw_gd hM
      refine zr_iald (q := 185) g (hI 46 (by decide)) zs_46 c43 dX9_share_184 rfl ?_
      refine zr_isub (q := 186) g dX9_share_185 rfl ?_
      refine zr_imul (q := 187) g dX9_share_186 rfl ?_
      refine zr_iadd (q := 188) g dX9_share_187 rfl ?_
      obtain ⟨y44, e45, hM⟩ := zw_nm_ex hM
      refine zr_nmi e45 ?_
      refine zr_istore_n (q := 189) (lv' := [(3, .int y44), (5, .int z36), (0, .ref (E.2.1 31)), (1, .int x1), (2, .int x2), (4, .int x4)]) g dX9_share_188 rfl rfl (by decide) rfl ?_
      refine zr_lv (lv' := [(0, .ref (E.2.1 31)), (1, .int x1), (2, .int x2), (3, .int y44), (4, .int x4)]) [2, 3, 4, 0, 5] rfl ?_
      exact U_X9_share_189 ok hI g hr hlk eL121 _ _ _ _ _ _ hM
noncomputable def L_X9_share_121 (w : Int32 × Int32 × Int32 × Int32 × zw_Hp) : Option (Int32 × zw_Hp) :=
  zw_it (fun (k121 : (Int32 × Int32 × Int32 × Int32 × zw_Hp) → Option (Int32 × zw_Hp)) (w : Int32 × Int32 × Int32 × Int32 × zw_Hp) => B_X9_share_121 k121 (w.1) (w.2.1) (w.2.2.1) (w.2.2.2.1) (w.2.2.2.2)) 600 w
theorem UL_X9_share_121 (ok : zw_Ok E) (hI : ∀ i, i < 48 → i ∈ E.2.2.1) (g : zw_G p E (zw_A E) s m args c RX9 cX9_share 6) (hr : meth.sig.returnType = some .int) (hlk : meth.locks = false) :
    ∀ (w : Int32 × Int32 × Int32 × Int32 × zw_Hp) (z : Int32 × zw_Hp), L_X9_share_121 w = some z → zw_V p l e s m args below meth c E mt_X9_share 6 (some (.int z.1)) z.2 121 [(0, .ref (E.2.1 31)), (1, .int w.1), (2, .int w.2.1), (3, .int w.2.2.1), (4, .int w.2.2.2.1)] [] w.2.2.2.2 :=
  fun w z hM => zw_it_ind (P := fun (w : Int32 × Int32 × Int32 × Int32 × zw_Hp) (z : Int32 × zw_Hp) => zw_V p l e s m args below meth c E mt_X9_share 6 (some (.int z.1)) z.2 121 [(0, .ref (E.2.1 31)), (1, .int w.1), (2, .int w.2.1), (3, .int w.2.2.1), (4, .int w.2.2.2.1)] [] w.2.2.2.2) (fun k e w z hM => U_X9_share_121 ok hI g hr hlk e _ _ _ _ _ _ hM) 600 w z hM
noncomputable def B_X9_share_17 (k17 : (Int32 × Int32 × Int32 × zw_Hp) → Option (Int32 × zw_Hp)) (x1 : Int32) (x2 : Int32) (x3 : Int32) (h : zw_Hp) : Option (Int32 × zw_Hp) :=
  if ((1 : Int32) <<< ((h.1 31 8) &&& 31)) ≤ x3 then (L_X9_share_121 (x1, x2, (0 : Int32), (0 : Int32), h)) else ((M_X9_begin h).bind (fun z7 => L_X9_share_34 k17 (x1, x2, x3, (0 : Int32), z7)))
set_option maxRecDepth 100000 in
set_option maxHeartbeats 4000000 in
theorem U_X9_share_17 (ok : zw_Ok E) (hI : ∀ i, i < 48 → i ∈ E.2.2.1) (g : zw_G p E (zw_A E) s m args c RX9 cX9_share 6) (hr : meth.sig.returnType = some .int) (hlk : meth.locks = false) {k17 : (Int32 × Int32 × Int32 × zw_Hp) → Option (Int32 × zw_Hp)} (eL17 : ∀ (w : Int32 × Int32 × Int32 × zw_Hp) (z : Int32 × zw_Hp), k17 w = some z → zw_V p l e s m args below meth c E mt_X9_share 6 (some (.int z.1)) z.2 17 [(0, .ref (E.2.1 31)), (1, .int w.1), (2, .int w.2.1), (3, .int w.2.2.1)] [] w.2.2.2) :
    ∀ (x1 : Int32) (x2 : Int32) (x3 : Int32) (h : zw_Hp) (z : Int32 × zw_Hp), B_X9_share_17 k17 x1 x2 x3 h = some z → zw_V p l e s m args below meth c E mt_X9_share 6 (some (.int z.1)) z.2 17 [(0, .ref (E.2.1 31)), (1, .int x1), (2, .int x2), (3, .int x3)] [] h := by
  intro x1 x2 x3 h z hM
  unfold B_X9_share_17 at hM
  refine zr_iload_n (q := 18) g 3 dX9_share_17 rfl rfl rfl ?_
  refine zr_iconst (q := 19) (v := (1 : Int32)) g dX9_share_18 rfl (by decide) ?_
  refine zr_aload_n (q := 20) g 0 dX9_share_19 rfl rfl rfl ?_
  refine zr_geti (q := 23) (k0 := 8) g (hI 31 (by decide)) zs_31 rfl zf_X9_70 dX9_share_20 rfl ?_
  refine zr_ishl (q := 24) g dX9_share_23 rfl ?_
  refine zr_icmp_ge (q := 27) (tgt := 116) g dX9_share_24 rfl rfl (fun c6 => ?_) (fun c6 => ?_)
  · replace hM := zw_ift c6 hM
    refine zr_iconst (q := 117) (v := (0 : Int32)) g dX9_share_116 rfl (by decide) ?_
    refine zr_istore_n (q := 118) (lv' := [(3, .int (0 : Int32)), (0, .ref (E.2.1 31)), (1, .int x1), (2, .int x2)]) g dX9_share_117 rfl rfl (by decide) rfl ?_
    refine zr_iconst (q := 119) (v := (0 : Int32)) g dX9_share_118 rfl (by decide) ?_
    refine zr_istore (q := 121) (lv' := [(4, .int (0 : Int32)), (3, .int (0 : Int32)), (0, .ref (E.2.1 31)), (1, .int x1), (2, .int x2)]) g dX9_share_119 rfl (by decide) rfl ?_
    refine zr_lv (lv' := [(0, .ref (E.2.1 31)), (1, .int x1), (2, .int x2), (3, .int (0 : Int32)), (4, .int (0 : Int32))]) [2, 3, 4, 1, 0] rfl ?_
    exact UL_X9_share_121 ok hI g hr hlk _ _ hM
  · replace hM := zw_iff c6 hM
    refine zr_aload_n (q := 28) g 0 dX9_share_27 rfl rfl rfl ?_
    obtain ⟨z7, q8, hM⟩ := zw_bd hM
    refine zr_callV (q := 31) (As := []) (rest := []) (st' := []) (i := 31) g (R_X9_begin ok hI q8) zv_X9_begin zl_X9_202 (hI 31 (by decide)) zs_31 zc_X9.1 dX9_share_28 rfl rfl ⟨Nat.le_of_ble_eq_true rfl, Nat.le_of_ble_eq_true rfl⟩ ⟨Nat.zero_le _, Nat.zero_le _⟩ (Nat.le_of_ble_eq_true rfl) rfl rfl ?_
    refine zr_iconst (q := 32) (v := (0 : Int32)) g dX9_share_31 rfl (by decide) ?_
    refine zr_istore (q := 34) (lv' := [(4, .int (0 : Int32)), (0, .ref (E.2.1 31)), (1, .int x1), (2, .int x2), (3, .int x3)]) g dX9_share_32 rfl (by decide) rfl ?_
    refine zr_lv (lv' := [(0, .ref (E.2.1 31)), (1, .int x1), (2, .int x2), (3, .int x3), (4, .int (0 : Int32))]) [1, 2, 3, 4, 0] rfl ?_
    exact UL_X9_share_34 ok hI g hr hlk eL17 _ _ hM
noncomputable def L_X9_share_17 (w : Int32 × Int32 × Int32 × zw_Hp) : Option (Int32 × zw_Hp) :=
  zw_it (fun (k17 : (Int32 × Int32 × Int32 × zw_Hp) → Option (Int32 × zw_Hp)) (w : Int32 × Int32 × Int32 × zw_Hp) => B_X9_share_17 k17 (w.1) (w.2.1) (w.2.2.1) (w.2.2.2)) 600 w
theorem UL_X9_share_17 (ok : zw_Ok E) (hI : ∀ i, i < 48 → i ∈ E.2.2.1) (g : zw_G p E (zw_A E) s m args c RX9 cX9_share 6) (hr : meth.sig.returnType = some .int) (hlk : meth.locks = false) :
    ∀ (w : Int32 × Int32 × Int32 × zw_Hp) (z : Int32 × zw_Hp), L_X9_share_17 w = some z → zw_V p l e s m args below meth c E mt_X9_share 6 (some (.int z.1)) z.2 17 [(0, .ref (E.2.1 31)), (1, .int w.1), (2, .int w.2.1), (3, .int w.2.2.1)] [] w.2.2.2 :=
  fun w z hM => zw_it_ind (P := fun (w : Int32 × Int32 × Int32 × zw_Hp) (z : Int32 × zw_Hp) => zw_V p l e s m args below meth c E mt_X9_share 6 (some (.int z.1)) z.2 17 [(0, .ref (E.2.1 31)), (1, .int w.1), (2, .int w.2.1), (3, .int w.2.2.1)] [] w.2.2.2) (fun k e w z hM => U_X9_share_17 ok hI g hr hlk e _ _ _ _ _ hM) 600 w z hM
noncomputable def M_X9_share (x1 : Int32) (x2 : Int32) (h : zw_Hp) : Option (Int32 × zw_Hp) :=
  zw_nm (zw_up h 31 0 (0 : Int32)) (fun h1 => (M_X9_noBucket x1 h1).bind (fun z3 => if z3 = 0 then (L_X9_share_17 (x1, x2, (0 : Int32), h1)) else (some ((-1 : Int32), h1))))
set_option maxRecDepth 100000 in
set_option maxHeartbeats 4000000 in
theorem R_X9_share (ok : zw_Ok E) (hI : ∀ i, i < 48 → i ∈ E.2.2.1) {x1 : Int32} {x2 : Int32} {h : zw_Hp} {z : Int32 × zw_Hp} (hM : M_X9_share x1 x2 h = some z) : zw_Ct l E mt_X9_share [.ref (E.2.1 31), .int x1, .int x2] h (some (.int z.1)) z.2 := by
  unfold M_X9_share at hM
  refine zw_ct (lv0 := [(0, .ref (E.2.1 31)), (1, .int x1), (2, .int x2)]) ok (by decide) rfl (Nat.le_of_ble_eq_true rfl) (fun p e s m args below meth c g hr hlk => ?_)
  replace g : zw_G p E (zw_A E) s m args c RX9 cX9_share 6 := g
  show zw_V p l e s m args below meth c E mt_X9_share 6 (some (.int z.1)) z.2 0 [(0, .ref (E.2.1 31)), (1, .int x1), (2, .int x2)] [] h
  refine zr_aload_n (q := 1) g 0 dX9_share_0 rfl rfl rfl ?_
  refine zr_iconst (q := 2) (v := (0 : Int32)) g dX9_share_1 rfl (by decide) ?_
  obtain ⟨h1, e2, hM⟩ := zw_nm_ex hM
  refine zr_puti (q := 5) (k0 := 0) (h' := h1) g (hI 31 (by decide)) zs_31 rfl zp_X9_59 dX9_share_2 rfl e2 ?_
  refine zr_aload_n (q := 6) g 0 dX9_share_5 rfl rfl rfl ?_
  refine zr_iload_n (q := 7) g 1 dX9_share_6 rfl rfl rfl ?_
  obtain ⟨z3, q4, hM⟩ := zw_bd hM
  refine zr_callV (q := 10) (As := [.int x1]) (rest := []) (st' := [.int z3]) (i := 31) g (R_X9_noBucket ok hI q4) zv_X9_noBucket zl_X9_184 (hI 31 (by decide)) zs_31 zc_X9.1 dX9_share_7 rfl rfl ⟨Nat.le_of_ble_eq_true rfl, Nat.le_of_ble_eq_true rfl⟩ ⟨Nat.zero_le _, Nat.zero_le _⟩ (Nat.le_of_ble_eq_true rfl) rfl rfl ?_
  refine zr_if_eq (q := 13) (tgt := 15) g dX9_share_10 rfl rfl (fun c5 => ?_) (fun c5 => ?_)
  · replace hM := zw_ift c5 hM
    refine zr_iconst (q := 16) (v := (0 : Int32)) g dX9_share_15 rfl (by decide) ?_
    refine zr_istore_n (q := 17) (lv' := [(3, .int (0 : Int32)), (0, .ref (E.2.1 31)), (1, .int x1), (2, .int x2)]) g dX9_share_16 rfl rfl (by decide) rfl ?_
    refine zr_lv (lv' := [(0, .ref (E.2.1 31)), (1, .int x1), (2, .int x2), (3, .int (0 : Int32))]) [1, 2, 3, 0] rfl ?_
    exact UL_X9_share_17 ok hI g hr hlk _ _ hM
  · replace hM := zw_iff c5 hM
    refine zr_iconst (q := 14) (v := (-1 : Int32)) g dX9_share_13 rfl (by decide) ?_
    cases hM
    exact zr_iret g hr hlk dX9_share_14 rfl rfl
noncomputable def M_X9_see (x1 : Int32) (x2 : Int32) (x3 : Int32) (h : zw_Hp) : Option (Int32 × zw_Hp) :=
  zw_nm (zw_up h 31 0 (0 : Int32)) (fun h1 => (M_X9_in (x1).toInt64 (0 : Int64) (9 : Int64) h1).bind (fun z3 => if z3 = 0 then (some ((-2 : Int32), h1)) else ((M_X9_in (x2).toInt64 (0 : Int64) (99 : Int64) h1).bind (fun z6 => if z6 = 0 then (some ((-2 : Int32), h1)) else ((M_X9_in (x3).toInt64 (0 : Int64) (1 : Int64) h1).bind (fun z9 => if z9 = 0 then (some ((-2 : Int32), h1)) else (if (h1.1 31 24) = (6 : Int32) then (some ((-4 : Int32), h1)) else (if zw_ok (h1.1 31 24) 6 = true then zw_nm (zw_up h1 42 ((h1.1 31 24)).toNatClampNeg x1) (fun h14 => if zw_ok (h14.1 31 24) 6 = true then zw_nm (zw_up h14 43 ((h14.1 31 24)).toNatClampNeg x2) (fun h17 => if zw_ok (h17.1 31 24) 6 = true then zw_nm (zw_up h17 44 ((h17.1 31 24)).toNatClampNeg x3) (fun h20 => zw_nm (zw_up h20 31 24 ((h20.1 31 24) + (1 : Int32))) (fun h22 => some ((h22.1 31 24), h22))) else none) else none) else none))))))))
set_option maxRecDepth 100000 in
set_option maxHeartbeats 4000000 in
theorem R_X9_see (ok : zw_Ok E) (hI : ∀ i, i < 48 → i ∈ E.2.2.1) {x1 : Int32} {x2 : Int32} {x3 : Int32} {h : zw_Hp} {z : Int32 × zw_Hp} (hM : M_X9_see x1 x2 x3 h = some z) : zw_Ct l E mt_X9_see [.ref (E.2.1 31), .int x1, .int x2, .int x3] h (some (.int z.1)) z.2 := by
  unfold M_X9_see at hM
  refine zw_ct (lv0 := [(0, .ref (E.2.1 31)), (1, .int x1), (2, .int x2), (3, .int x3)]) ok (by decide) rfl (Nat.le_of_ble_eq_true rfl) (fun p e s m args below meth c g hr hlk => ?_)
  replace g : zw_G p E (zw_A E) s m args c RX9 cX9_see 4 := g
  show zw_V p l e s m args below meth c E mt_X9_see 4 (some (.int z.1)) z.2 0 [(0, .ref (E.2.1 31)), (1, .int x1), (2, .int x2), (3, .int x3)] [] h
  refine zr_aload_n (q := 1) g 0 dX9_see_0 rfl rfl rfl ?_
  refine zr_iconst (q := 2) (v := (0 : Int32)) g dX9_see_1 rfl (by decide) ?_
  obtain ⟨h1, e2, hM⟩ := zw_nm_ex hM
  refine zr_puti (q := 5) (k0 := 0) (h' := h1) g (hI 31 (by decide)) zs_31 rfl zp_X9_59 dX9_see_2 rfl e2 ?_
  refine zr_iload_n (q := 6) g 1 dX9_see_5 rfl rfl rfl ?_
  refine zr_i2l (q := 7) g dX9_see_6 rfl ?_
  refine zr_lconst (q := 8) (v := (0 : Int64)) g dX9_see_7 rfl (by decide) ?_
  refine zr_ldc2 (q := 11) (v := (9 : Int64)) g dX9_see_8 rfl zk_X9_256 ?_
  obtain ⟨z3, q4, hM⟩ := zw_bd hM
  refine zr_callS (q := 14) (As := [.long (x1).toInt64, .long (0 : Int64), .long (9 : Int64)]) (rest := []) (st' := [.int z3]) g (R_X9_in ok hI q4) zv_X9_in zl_X9_66 dX9_see_11 rfl rfl ⟨Nat.le_of_ble_eq_true rfl, Nat.le_of_ble_eq_true rfl⟩ ⟨Nat.zero_le _, Nat.zero_le _⟩ (Nat.le_of_ble_eq_true rfl) rfl rfl ?_
  refine zr_if_eq (q := 17) (tgt := 39) g dX9_see_14 rfl rfl (fun c5 => ?_) (fun c5 => ?_)
  · replace hM := zw_ift c5 hM
    refine zr_bipush (q := 41) (v := (-2 : Int32)) g dX9_see_39 rfl (by decide) ?_
    cases hM
    exact zr_iret g hr hlk dX9_see_41 rfl rfl
  · replace hM := zw_iff c5 hM
    refine zr_iload_n (q := 18) g 2 dX9_see_17 rfl rfl rfl ?_
    refine zr_i2l (q := 19) g dX9_see_18 rfl ?_
    refine zr_lconst (q := 20) (v := (0 : Int64)) g dX9_see_19 rfl (by decide) ?_
    refine zr_ldc2 (q := 23) (v := (99 : Int64)) g dX9_see_20 rfl zk_X9_258 ?_
    obtain ⟨z6, q7, hM⟩ := zw_bd hM
    refine zr_callS (q := 26) (As := [.long (x2).toInt64, .long (0 : Int64), .long (99 : Int64)]) (rest := []) (st' := [.int z6]) g (R_X9_in ok hI q7) zv_X9_in zl_X9_66 dX9_see_23 rfl rfl ⟨Nat.le_of_ble_eq_true rfl, Nat.le_of_ble_eq_true rfl⟩ ⟨Nat.zero_le _, Nat.zero_le _⟩ (Nat.le_of_ble_eq_true rfl) rfl rfl ?_
    refine zr_if_eq (q := 29) (tgt := 39) g dX9_see_26 rfl rfl (fun c8 => ?_) (fun c8 => ?_)
    · replace hM := zw_ift c8 hM
      refine zr_bipush (q := 41) (v := (-2 : Int32)) g dX9_see_39 rfl (by decide) ?_
      cases hM
      exact zr_iret g hr hlk dX9_see_41 rfl rfl
    · replace hM := zw_iff c8 hM
      refine zr_iload_n (q := 30) g 3 dX9_see_29 rfl rfl rfl ?_
      refine zr_i2l (q := 31) g dX9_see_30 rfl ?_
      refine zr_lconst (q := 32) (v := (0 : Int64)) g dX9_see_31 rfl (by decide) ?_
      refine zr_lconst (q := 33) (v := (1 : Int64)) g dX9_see_32 rfl (by decide) ?_
      obtain ⟨z9, q10, hM⟩ := zw_bd hM
      refine zr_callS (q := 36) (As := [.long (x3).toInt64, .long (0 : Int64), .long (1 : Int64)]) (rest := []) (st' := [.int z9]) g (R_X9_in ok hI q10) zv_X9_in zl_X9_66 dX9_see_33 rfl rfl ⟨Nat.le_of_ble_eq_true rfl, Nat.le_of_ble_eq_true rfl⟩ ⟨Nat.zero_le _, Nat.zero_le _⟩ (Nat.le_of_ble_eq_true rfl) rfl rfl ?_
      refine zr_if_ne (q := 39) (tgt := 42) g dX9_see_36 rfl rfl (fun c11 => ?_) (fun c11 => ?_)
      · replace hM := zw_iff c11 hM
        refine zr_aload_n (q := 43) g 0 dX9_see_42 rfl rfl rfl ?_
        refine zr_geti (q := 46) (k0 := 24) g (hI 31 (by decide)) zs_31 rfl zf_X9_174 dX9_see_43 rfl ?_
        refine zr_bipush (q := 48) (v := (6 : Int32)) g dX9_see_46 rfl (by decide) ?_
        refine zr_icmp_ne (q := 51) (tgt := 54) g dX9_see_48 rfl rfl (fun c12 => ?_) (fun c12 => ?_)
        · replace hM := zw_iff c12 hM
          refine zr_aload_n (q := 55) g 0 dX9_see_54 rfl rfl rfl ?_
          refine zr_getr (q := 58) (k0 := 25) (j := 42) g (hI 31 (by decide)) zs_31 rfl zf_X9_41 dX9_see_55 rfl ?_
          refine zr_aload_n (q := 59) g 0 dX9_see_58 rfl rfl rfl ?_
          refine zr_geti (q := 62) (k0 := 24) g (hI 31 (by decide)) zs_31 rfl zf_X9_174 dX9_see_59 rfl ?_
          refine zr_iload_n (q := 63) g 1 dX9_see_62 rfl rfl rfl ?_
          obtain ⟨c13, hM⟩ := zw_gd hM
          obtain ⟨h14, e15, hM⟩ := zw_nm_ex hM
          refine zr_iast (q := 64) (h' := h14) g (hI 42 (by decide)) zs_42 c13 dX9_see_63 rfl e15 ?_
          refine zr_aload_n (q := 65) g 0 dX9_see_64 rfl rfl rfl ?_
          refine zr_getr (q := 68) (k0 := 26) (j := 43) g (hI 31 (by decide)) zs_31 rfl zf_X9_44 dX9_see_65 rfl ?_
          refine zr_aload_n (q := 69) g 0 dX9_see_68 rfl rfl rfl ?_
          refine zr_geti (q := 72) (k0 := 24) g (hI 31 (by decide)) zs_31 rfl zf_X9_174 dX9_see_69 rfl ?_
          refine zr_iload_n (q := 73) g 2 dX9_see_72 rfl rfl rfl ?_
          obtain ⟨c16, hM⟩ := zw_gd hM
          obtain ⟨h17, e18, hM⟩ := zw_nm_ex hM
          refine zr_iast (q := 74) (h' := h17) g (hI 43 (by decide)) zs_43 c16 dX9_see_73 rfl e18 ?_
          refine zr_aload_n (q := 75) g 0 dX9_see_74 rfl rfl rfl ?_
          refine zr_getr (q := 78) (k0 := 27) (j := 44) g (hI 31 (by decide)) zs_31 rfl zf_X9_47 dX9_see_75 rfl ?_
          refine zr_aload_n (q := 79) g 0 dX9_see_78 rfl rfl rfl ?_
          refine zr_geti (q := 82) (k0 := 24) g (hI 31 (by decide)) zs_31 rfl zf_X9_174 dX9_see_79 rfl ?_
          refine zr_iload_n (q := 83) g 3 dX9_see_82 rfl rfl rfl ?_
          obtain ⟨c19, hM⟩ := zw_gd hM
          obtain ⟨h20, e21, hM⟩ := zw_nm_ex hM
          refine zr_iast (q := 84) (h' := h20) g (hI 44 (by decide)) zs_44 c19 dX9_see_83 rfl e21 ?_
          refine zr_aload_n (q := 85) g 0 dX9_see_84 rfl rfl rfl ?_
          refine zr_dup (q := 86) g dX9_see_85 rfl rfl ?_
          refine zr_geti (q := 89) (k0 := 24) g (hI 31 (by decide)) zs_31 rfl zf_X9_174 dX9_see_86 rfl ?_
          refine zr_iconst (q := 90) (v := (1 : Int32)) g dX9_see_89 rfl (by decide) ?_
          refine zr_iadd (q := 91) g dX9_see_90 rfl ?_
          obtain ⟨h22, e23, hM⟩ := zw_nm_ex hM
          refine zr_puti (q := 94) (k0 := 24) (h' := h22) g (hI 31 (by decide)) zs_31 rfl zp_X9_174 dX9_see_91 rfl e23 ?_
          refine zr_aload_n (q := 95) g 0 dX9_see_94 rfl rfl rfl ?_
          refine zr_geti (q := 98) (k0 := 24) g (hI 31 (by decide)) zs_31 rfl zf_X9_174 dX9_see_95 rfl ?_
          cases hM
          exact zr_iret g hr hlk dX9_see_98 rfl rfl
        · replace hM := zw_ift c12 hM
          refine zr_bipush (q := 53) (v := (-4 : Int32)) g dX9_see_51 rfl (by decide) ?_
          cases hM
          exact zr_iret g hr hlk dX9_see_53 rfl rfl
      · replace hM := zw_ift c11 hM
        refine zr_bipush (q := 41) (v := (-2 : Int32)) g dX9_see_39 rfl (by decide) ?_
        cases hM
        exact zr_iret g hr hlk dX9_see_41 rfl rfl
noncomputable def M_X9_unsee (h : zw_Hp) : Option (Int32 × zw_Hp) :=
  zw_nm (zw_up h 31 0 (0 : Int32)) (fun h1 => zw_nm (h1.1 31 24) (fun y3 => zw_nm (zw_up h1 31 24 (0 : Int32)) (fun h5 => some (y3, h5))))
set_option maxRecDepth 100000 in
set_option maxHeartbeats 4000000 in
theorem R_X9_unsee (ok : zw_Ok E) (hI : ∀ i, i < 48 → i ∈ E.2.2.1) {h : zw_Hp} {z : Int32 × zw_Hp} (hM : M_X9_unsee h = some z) : zw_Ct l E mt_X9_unsee [.ref (E.2.1 31)] h (some (.int z.1)) z.2 := by
  unfold M_X9_unsee at hM
  refine zw_ct (lv0 := [(0, .ref (E.2.1 31))]) ok (by decide) rfl (Nat.le_of_ble_eq_true rfl) (fun p e s m args below meth c g hr hlk => ?_)
  replace g : zw_G p E (zw_A E) s m args c RX9 cX9_unsee 2 := g
  show zw_V p l e s m args below meth c E mt_X9_unsee 2 (some (.int z.1)) z.2 0 [(0, .ref (E.2.1 31))] [] h
  refine zr_aload_n (q := 1) g 0 dX9_unsee_0 rfl rfl rfl ?_
  refine zr_iconst (q := 2) (v := (0 : Int32)) g dX9_unsee_1 rfl (by decide) ?_
  obtain ⟨h1, e2, hM⟩ := zw_nm_ex hM
  refine zr_puti (q := 5) (k0 := 0) (h' := h1) g (hI 31 (by decide)) zs_31 rfl zp_X9_59 dX9_unsee_2 rfl e2 ?_
  refine zr_aload_n (q := 6) g 0 dX9_unsee_5 rfl rfl rfl ?_
  refine zr_geti (q := 9) (k0 := 24) g (hI 31 (by decide)) zs_31 rfl zf_X9_174 dX9_unsee_6 rfl ?_
  obtain ⟨y3, e4, hM⟩ := zw_nm_ex hM
  refine zr_nmi e4 ?_
  refine zr_istore_n (q := 10) (lv' := [(1, .int y3), (0, .ref (E.2.1 31))]) g dX9_unsee_9 rfl rfl (by decide) rfl ?_
  refine zr_aload_n (q := 11) g 1 dX9_unsee_10 rfl rfl rfl ?_
  refine zr_iconst (q := 12) (v := (0 : Int32)) g dX9_unsee_11 rfl (by decide) ?_
  obtain ⟨h5, e6, hM⟩ := zw_nm_ex hM
  refine zr_puti (q := 15) (k0 := 24) (h' := h5) g (hI 31 (by decide)) zs_31 rfl zp_X9_174 dX9_unsee_12 rfl e6 ?_
  refine zr_iload_n (q := 16) g 0 dX9_unsee_15 rfl rfl rfl ?_
  cases hM
  exact zr_iret g hr hlk dX9_unsee_16 rfl rfl
noncomputable def B_X9_fireBy_13 (h : zw_Hp) (s0 : Int32) : Option (Int32) :=
  if s0 ≤ (99 : Int32) then (some s0) else (some (99 : Int32))
set_option maxRecDepth 100000 in
set_option maxHeartbeats 4000000 in
theorem U_X9_fireBy_13 {h : zw_Hp} (ok : zw_Ok E) (hI : ∀ i, i < 48 → i ∈ E.2.2.1) (g : zw_G p E (zw_A E) s m args c RX9 cX9_fireBy 4) (hr : meth.sig.returnType = some .int) (hlk : meth.locks = false) :
    ∀ (s0 : Int32) (z : Int32), B_X9_fireBy_13 h s0 = some z → zw_V p l e s m args below meth c E mt_X9_fireBy 4 (some (.int z)) h 13 [] [.int s0] h := by
  intro s0 z hM
  unfold B_X9_fireBy_13 at hM
  refine zr_istore_n (q := 14) (lv' := [(3, .int s0)]) g dX9_fireBy_13 rfl rfl (by decide) rfl ?_
  refine zr_iload_n (q := 15) g 0 dX9_fireBy_14 rfl rfl rfl ?_
  refine zr_bipush (q := 17) (v := (99 : Int32)) g dX9_fireBy_15 rfl (by decide) ?_
  refine zr_icmp_le (q := 20) (tgt := 25) g dX9_fireBy_17 rfl rfl (fun c2 => ?_) (fun c2 => ?_)
  · replace hM := zw_ift c2 hM
    refine zr_iload_n (q := 26) g 0 dX9_fireBy_25 rfl rfl rfl ?_
    cases hM
    exact zr_iret g hr hlk dX9_fireBy_26 rfl rfl
  · replace hM := zw_iff c2 hM
    refine zr_bipush (q := 22) (v := (99 : Int32)) g dX9_fireBy_20 rfl (by decide) ?_
    refine zr_goto (tgt := 26) g dX9_fireBy_22 rfl ?_
    cases hM
    exact zr_iret g hr hlk dX9_fireBy_26 rfl rfl
noncomputable def M_X9_fireBy (x0 : Int32) (x1 : Int32) (x2 : Int32) (h : zw_Hp) : Option (Int32) :=
  if x0 = 0 then (B_X9_fireBy_13 h (0 : Int32)) else (B_X9_fireBy_13 h (x0 + (x1 * x2)))
set_option maxRecDepth 100000 in
set_option maxHeartbeats 4000000 in
theorem R_X9_fireBy (ok : zw_Ok E) (hI : ∀ i, i < 48 → i ∈ E.2.2.1) {x0 : Int32} {x1 : Int32} {x2 : Int32} {h : zw_Hp} {z : Int32} (hM : M_X9_fireBy x0 x1 x2 h = some z) : zw_Ct l E mt_X9_fireBy [.int x0, .int x1, .int x2] h (some (.int z)) h := by
  unfold M_X9_fireBy at hM
  refine zw_ct (lv0 := [(0, .int x0), (1, .int x1), (2, .int x2)]) ok (by decide) rfl (Nat.le_of_ble_eq_true rfl) (fun p e s m args below meth c g hr hlk => ?_)
  replace g : zw_G p E (zw_A E) s m args c RX9 cX9_fireBy 4 := g
  show zw_V p l e s m args below meth c E mt_X9_fireBy 4 (some (.int z)) h 0 [(0, .int x0), (1, .int x1), (2, .int x2)] [] h
  refine zr_iload_n (q := 1) g 0 dX9_fireBy_0 rfl rfl rfl ?_
  refine zr_if_ne (q := 4) (tgt := 8) g dX9_fireBy_1 rfl rfl (fun c1 => ?_) (fun c1 => ?_)
  · replace hM := zw_iff c1 hM
    refine zr_iload_n (q := 9) g 0 dX9_fireBy_8 rfl rfl rfl ?_
    refine zr_iload_n (q := 10) g 1 dX9_fireBy_9 rfl rfl rfl ?_
    refine zr_iload_n (q := 11) g 2 dX9_fireBy_10 rfl rfl rfl ?_
    refine zr_imul (q := 12) g dX9_fireBy_11 rfl ?_
    refine zr_iadd (q := 13) g dX9_fireBy_12 rfl ?_
    refine zr_lv (lv' := []) [] rfl ?_
    exact U_X9_fireBy_13 ok hI g hr hlk _ _ hM
  · replace hM := zw_ift c1 hM
    refine zr_iconst (q := 5) (v := (0 : Int32)) g dX9_fireBy_4 rfl (by decide) ?_
    refine zr_goto (tgt := 13) g dX9_fireBy_5 rfl ?_
    refine zr_lv (lv' := []) [] rfl ?_
    exact U_X9_fireBy_13 ok hI g hr hlk _ _ hM
noncomputable def B_X9_fires_112 (k31 : (Int32 × Int32 × zw_Hp) → Option (Int32 × zw_Hp)) (k42 : (Int32 × Int32 × Int32 × Int32 × zw_Hp) → Option (Int32 × zw_Hp)) (x1 : Int32) (x2 : Int32) (x4 : Int32) (s0 : Int32) (h : zw_Hp) : Option (Int32 × zw_Hp) :=
  zw_nm (x4 + (1 : Int32)) (fun y24 => k42 (x1, x2, s0, y24, h))
set_option maxRecDepth 100000 in
set_option maxHeartbeats 4000000 in
theorem U_X9_fires_112 (ok : zw_Ok E) (hI : ∀ i, i < 48 → i ∈ E.2.2.1) (g : zw_G p E (zw_A E) s m args c RX9 cX9_fires 5) (hr : meth.sig.returnType = some .int) (hlk : meth.locks = false) {k31 : (Int32 × Int32 × zw_Hp) → Option (Int32 × zw_Hp)} (eL31 : ∀ (w : Int32 × Int32 × zw_Hp) (z : Int32 × zw_Hp), k31 w = some z → zw_V p l e s m args below meth c E mt_X9_fires 5 (some (.int z.1)) z.2 31 [(0, .ref (E.2.1 31)), (1, .int w.1), (2, .int w.2.1)] [] w.2.2) {k42 : (Int32 × Int32 × Int32 × Int32 × zw_Hp) → Option (Int32 × zw_Hp)} (eL42 : ∀ (w : Int32 × Int32 × Int32 × Int32 × zw_Hp) (z : Int32 × zw_Hp), k42 w = some z → zw_V p l e s m args below meth c E mt_X9_fires 5 (some (.int z.1)) z.2 42 [(0, .ref (E.2.1 31)), (1, .int w.1), (2, .int w.2.1), (3, .int w.2.2.1), (4, .int w.2.2.2.1)] [] w.2.2.2.2) :
    ∀ (x1 : Int32) (x2 : Int32) (x4 : Int32) (s0 : Int32) (h : zw_Hp) (z : Int32 × zw_Hp), B_X9_fires_112 k31 k42 x1 x2 x4 s0 h = some z → zw_V p l e s m args below meth c E mt_X9_fires 5 (some (.int z.1)) z.2 112 [(0, .ref (E.2.1 31)), (1, .int x1), (2, .int x2), (4, .int x4)] [.int s0] h := by
  intro x1 x2 x4 s0 h z hM
  unfold B_X9_fires_112 at hM
  refine zr_istore_n (q := 113) (lv' := [(3, .int s0), (0, .ref (E.2.1 31)), (1, .int x1), (2, .int x2), (4, .int x4)]) g dX9_fires_112 rfl rfl (by decide) rfl ?_
  obtain ⟨y24, e25, hM⟩ := zw_nm_ex hM
  refine zr_iinc (q := 116) (v := y24) (lv' := [(4, .int y24), (3, .int s0), (0, .ref (E.2.1 31)), (1, .int x1), (2, .int x2)]) g 4 dX9_fires_113 rfl rfl (by rw [e25]; rfl) (by decide) rfl ?_
  refine zr_goto (tgt := 42) g dX9_fires_116 rfl ?_
  refine zr_lv (lv' := [(0, .ref (E.2.1 31)), (1, .int x1), (2, .int x2), (3, .int s0), (4, .int y24)]) [2, 3, 4, 1, 0] rfl ?_
  exact eL42 _ _ hM
noncomputable def B_X9_fires_111 (k31 : (Int32 × Int32 × zw_Hp) → Option (Int32 × zw_Hp)) (k42 : (Int32 × Int32 × Int32 × Int32 × zw_Hp) → Option (Int32 × zw_Hp)) (x1 : Int32) (x2 : Int32) (x4 : Int32) (h : zw_Hp) : Option (Int32 × zw_Hp) :=
  B_X9_fires_112 k31 k42 x1 x2 x4 (0 : Int32) h
set_option maxRecDepth 100000 in
set_option maxHeartbeats 4000000 in
theorem U_X9_fires_111 (ok : zw_Ok E) (hI : ∀ i, i < 48 → i ∈ E.2.2.1) (g : zw_G p E (zw_A E) s m args c RX9 cX9_fires 5) (hr : meth.sig.returnType = some .int) (hlk : meth.locks = false) {k31 : (Int32 × Int32 × zw_Hp) → Option (Int32 × zw_Hp)} (eL31 : ∀ (w : Int32 × Int32 × zw_Hp) (z : Int32 × zw_Hp), k31 w = some z → zw_V p l e s m args below meth c E mt_X9_fires 5 (some (.int z.1)) z.2 31 [(0, .ref (E.2.1 31)), (1, .int w.1), (2, .int w.2.1)] [] w.2.2) {k42 : (Int32 × Int32 × Int32 × Int32 × zw_Hp) → Option (Int32 × zw_Hp)} (eL42 : ∀ (w : Int32 × Int32 × Int32 × Int32 × zw_Hp) (z : Int32 × zw_Hp), k42 w = some z → zw_V p l e s m args below meth c E mt_X9_fires 5 (some (.int z.1)) z.2 42 [(0, .ref (E.2.1 31)), (1, .int w.1), (2, .int w.2.1), (3, .int w.2.2.1), (4, .int w.2.2.2.1)] [] w.2.2.2.2) :
    ∀ (x1 : Int32) (x2 : Int32) (x4 : Int32) (h : zw_Hp) (z : Int32 × zw_Hp), B_X9_fires_111 k31 k42 x1 x2 x4 h = some z → zw_V p l e s m args below meth c E mt_X9_fires 5 (some (.int z.1)) z.2 111 [(0, .ref (E.2.1 31)), (1, .int x1), (2, .int x2), (4, .int x4)] [] h := by
  intro x1 x2 x4 h z hM
  unfold B_X9_fires_111 at hM
  refine zr_iconst (q := 112) (v := (0 : Int32)) g dX9_fires_111 rfl (by decide) ?_
  exact U_X9_fires_112 ok hI g hr hlk eL31 eL42 _ _ _ _ _ _ hM
noncomputable def B_X9_fires_104 (k31 : (Int32 × Int32 × zw_Hp) → Option (Int32 × zw_Hp)) (k42 : (Int32 × Int32 × Int32 × Int32 × zw_Hp) → Option (Int32 × zw_Hp)) (x1 : Int32) (x2 : Int32) (x4 : Int32) (s0 : Int32) (s1 : Int32) (h : zw_Hp) : Option (Int32 × zw_Hp) :=
  if s1 = s0 then (B_X9_fires_112 k31 k42 x1 x2 x4 (1 : Int32) h) else (B_X9_fires_111 k31 k42 x1 x2 x4 h)
set_option maxRecDepth 100000 in
set_option maxHeartbeats 4000000 in
theorem U_X9_fires_104 (ok : zw_Ok E) (hI : ∀ i, i < 48 → i ∈ E.2.2.1) (g : zw_G p E (zw_A E) s m args c RX9 cX9_fires 5) (hr : meth.sig.returnType = some .int) (hlk : meth.locks = false) {k31 : (Int32 × Int32 × zw_Hp) → Option (Int32 × zw_Hp)} (eL31 : ∀ (w : Int32 × Int32 × zw_Hp) (z : Int32 × zw_Hp), k31 w = some z → zw_V p l e s m args below meth c E mt_X9_fires 5 (some (.int z.1)) z.2 31 [(0, .ref (E.2.1 31)), (1, .int w.1), (2, .int w.2.1)] [] w.2.2) {k42 : (Int32 × Int32 × Int32 × Int32 × zw_Hp) → Option (Int32 × zw_Hp)} (eL42 : ∀ (w : Int32 × Int32 × Int32 × Int32 × zw_Hp) (z : Int32 × zw_Hp), k42 w = some z → zw_V p l e s m args below meth c E mt_X9_fires 5 (some (.int z.1)) z.2 42 [(0, .ref (E.2.1 31)), (1, .int w.1), (2, .int w.2.1), (3, .int w.2.2.1), (4, .int w.2.2.2.1)] [] w.2.2.2.2) :
    ∀ (x1 : Int32) (x2 : Int32) (x4 : Int32) (s0 : Int32) (s1 : Int32) (h : zw_Hp) (z : Int32 × zw_Hp), B_X9_fires_104 k31 k42 x1 x2 x4 s0 s1 h = some z → zw_V p l e s m args below meth c E mt_X9_fires 5 (some (.int z.1)) z.2 104 [(0, .ref (E.2.1 31)), (1, .int x1), (2, .int x2), (4, .int x4)] [.int s0, .int s1] h := by
  intro x1 x2 x4 s0 s1 h z hM
  unfold B_X9_fires_104 at hM
  refine zr_icmp_ne (q := 107) (tgt := 111) g dX9_fires_104 rfl rfl (fun c23 => ?_) (fun c23 => ?_)
  · replace hM := zw_iff c23 hM
    exact U_X9_fires_111 ok hI g hr hlk eL31 eL42 _ _ _ _ _ hM
  · replace hM := zw_ift c23 hM
    refine zr_iconst (q := 108) (v := (1 : Int32)) g dX9_fires_107 rfl (by decide) ?_
    refine zr_goto (tgt := 112) g dX9_fires_108 rfl ?_
    exact U_X9_fires_112 ok hI g hr hlk eL31 eL42 _ _ _ _ _ _ hM
noncomputable def B_X9_fires_88 (k31 : (Int32 × Int32 × zw_Hp) → Option (Int32 × zw_Hp)) (k42 : (Int32 × Int32 × Int32 × Int32 × zw_Hp) → Option (Int32 × zw_Hp)) (x1 : Int32) (x2 : Int32) (x4 : Int32) (s0 : Int32) (h : zw_Hp) : Option (Int32 × zw_Hp) :=
  if zw_ok x4 6 = true then (if (h.1 44 (x4).toNatClampNeg) = (1 : Int32) then (B_X9_fires_104 k31 k42 x1 x2 x4 (1 : Int32) s0 h) else (B_X9_fires_104 k31 k42 x1 x2 x4 (0 : Int32) s0 h)) else none
set_option maxRecDepth 100000 in
set_option maxHeartbeats 4000000 in
theorem U_X9_fires_88 (ok : zw_Ok E) (hI : ∀ i, i < 48 → i ∈ E.2.2.1) (g : zw_G p E (zw_A E) s m args c RX9 cX9_fires 5) (hr : meth.sig.returnType = some .int) (hlk : meth.locks = false) {k31 : (Int32 × Int32 × zw_Hp) → Option (Int32 × zw_Hp)} (eL31 : ∀ (w : Int32 × Int32 × zw_Hp) (z : Int32 × zw_Hp), k31 w = some z → zw_V p l e s m args below meth c E mt_X9_fires 5 (some (.int z.1)) z.2 31 [(0, .ref (E.2.1 31)), (1, .int w.1), (2, .int w.2.1)] [] w.2.2) {k42 : (Int32 × Int32 × Int32 × Int32 × zw_Hp) → Option (Int32 × zw_Hp)} (eL42 : ∀ (w : Int32 × Int32 × Int32 × Int32 × zw_Hp) (z : Int32 × zw_Hp), k42 w = some z → zw_V p l e s m args below meth c E mt_X9_fires 5 (some (.int z.1)) z.2 42 [(0, .ref (E.2.1 31)), (1, .int w.1), (2, .int w.2.1), (3, .int w.2.2.1), (4, .int w.2.2.2.1)] [] w.2.2.2.2) :
    ∀ (x1 : Int32) (x2 : Int32) (x4 : Int32) (s0 : Int32) (h : zw_Hp) (z : Int32 × zw_Hp), B_X9_fires_88 k31 k42 x1 x2 x4 s0 h = some z → zw_V p l e s m args below meth c E mt_X9_fires 5 (some (.int z.1)) z.2 88 [(0, .ref (E.2.1 31)), (1, .int x1), (2, .int x2), (4, .int x4)] [.int s0] h := by
  intro x1 x2 x4 s0 h z hM
  unfold B_X9_fires_88 at hM
  refine zr_aload_n (q := 89) g 0 dX9_fires_88 rfl rfl rfl ?_
  refine zr_getr (q := 92) (k0 := 27) (j := 44) g (hI 31 (by decide)) zs_31 rfl zf_X9_47 dX9_fires_89 rfl ?_
  refine zr_iload (q := 94) g 3 dX9_fires_92 rfl rfl ?_
  obtain ⟨c21, hM⟩ := zw_gd hM
  refine zr_iald (q := 95) g (hI 44 (by decide)) zs_44 c21 dX9_fires_94 rfl ?_
  refine zr_iconst (q := 96) (v := (1 : Int32)) g dX9_fires_95 rfl (by decide) ?_
  refine zr_icmp_ne (q := 99) (tgt := 103) g dX9_fires_96 rfl rfl (fun c22 => ?_) (fun c22 => ?_)
  · replace hM := zw_iff c22 hM
    refine zr_iconst (q := 104) (v := (0 : Int32)) g dX9_fires_103 rfl (by decide) ?_
    exact U_X9_fires_104 ok hI g hr hlk eL31 eL42 _ _ _ _ _ _ _ hM
  · replace hM := zw_ift c22 hM
    refine zr_iconst (q := 100) (v := (1 : Int32)) g dX9_fires_99 rfl (by decide) ?_
    refine zr_goto (tgt := 104) g dX9_fires_100 rfl ?_
    exact U_X9_fires_104 ok hI g hr hlk eL31 eL42 _ _ _ _ _ _ _ hM
noncomputable def B_X9_fires_156 (k31 : (Int32 × Int32 × zw_Hp) → Option (Int32 × zw_Hp)) (x1 : Int32) (x2 : Int32) (s0 : Int32) (s1 : Int32) (h : zw_Hp) : Option (Int32 × zw_Hp) :=
  zw_nm (zw_up h 31 31 (s1 + s0)) (fun h29 => zw_nm (x2 + (1 : Int32)) (fun y31 => k31 (x1, y31, h29)))
set_option maxRecDepth 100000 in
set_option maxHeartbeats 4000000 in
theorem U_X9_fires_156 (ok : zw_Ok E) (hI : ∀ i, i < 48 → i ∈ E.2.2.1) (g : zw_G p E (zw_A E) s m args c RX9 cX9_fires 5) (hr : meth.sig.returnType = some .int) (hlk : meth.locks = false) {k31 : (Int32 × Int32 × zw_Hp) → Option (Int32 × zw_Hp)} (eL31 : ∀ (w : Int32 × Int32 × zw_Hp) (z : Int32 × zw_Hp), k31 w = some z → zw_V p l e s m args below meth c E mt_X9_fires 5 (some (.int z.1)) z.2 31 [(0, .ref (E.2.1 31)), (1, .int w.1), (2, .int w.2.1)] [] w.2.2) :
    ∀ (x1 : Int32) (x2 : Int32) (s0 : Int32) (s1 : Int32) (h : zw_Hp) (z : Int32 × zw_Hp), B_X9_fires_156 k31 x1 x2 s0 s1 h = some z → zw_V p l e s m args below meth c E mt_X9_fires 5 (some (.int z.1)) z.2 156 [(0, .ref (E.2.1 31)), (1, .int x1), (2, .int x2)] [.int s0, .int s1, .ref (E.2.1 31)] h := by
  intro x1 x2 s0 s1 h z hM
  unfold B_X9_fires_156 at hM
  refine zr_iadd (q := 157) g dX9_fires_156 rfl ?_
  obtain ⟨h29, e30, hM⟩ := zw_nm_ex hM
  refine zr_puti (q := 160) (k0 := 31) (h' := h29) g (hI 31 (by decide)) zs_31 rfl zp_X9_260 dX9_fires_157 rfl e30 ?_
  obtain ⟨y31, e32, hM⟩ := zw_nm_ex hM
  refine zr_iinc (q := 163) (v := y31) (lv' := [(2, .int y31), (0, .ref (E.2.1 31)), (1, .int x1)]) g 2 dX9_fires_160 rfl rfl (by rw [e32]; rfl) (by decide) rfl ?_
  refine zr_goto (tgt := 31) g dX9_fires_163 rfl ?_
  refine zr_lv (lv' := [(0, .ref (E.2.1 31)), (1, .int x1), (2, .int y31)]) [1, 2, 0] rfl ?_
  exact eL31 _ _ hM
noncomputable def B_X9_fires_139 (k31 : (Int32 × Int32 × zw_Hp) → Option (Int32 × zw_Hp)) (x1 : Int32) (x2 : Int32) (x3 : Int32) (s0 : Int32) (h : zw_Hp) : Option (Int32 × zw_Hp) :=
  zw_nm (zw_up h 31 32 s0) (fun h26 => if x3 = 0 then (B_X9_fires_156 k31 x1 x2 (0 : Int32) (h26.1 31 31) h26) else (B_X9_fires_156 k31 x1 x2 (1 : Int32) (h26.1 31 31) h26))
set_option maxRecDepth 100000 in
set_option maxHeartbeats 4000000 in
theorem U_X9_fires_139 (ok : zw_Ok E) (hI : ∀ i, i < 48 → i ∈ E.2.2.1) (g : zw_G p E (zw_A E) s m args c RX9 cX9_fires 5) (hr : meth.sig.returnType = some .int) (hlk : meth.locks = false) {k31 : (Int32 × Int32 × zw_Hp) → Option (Int32 × zw_Hp)} (eL31 : ∀ (w : Int32 × Int32 × zw_Hp) (z : Int32 × zw_Hp), k31 w = some z → zw_V p l e s m args below meth c E mt_X9_fires 5 (some (.int z.1)) z.2 31 [(0, .ref (E.2.1 31)), (1, .int w.1), (2, .int w.2.1)] [] w.2.2) :
    ∀ (x1 : Int32) (x2 : Int32) (x3 : Int32) (s0 : Int32) (h : zw_Hp) (z : Int32 × zw_Hp), B_X9_fires_139 k31 x1 x2 x3 s0 h = some z → zw_V p l e s m args below meth c E mt_X9_fires 5 (some (.int z.1)) z.2 139 [(0, .ref (E.2.1 31)), (1, .int x1), (2, .int x2), (3, .int x3)] [.int s0, .ref (E.2.1 31)] h := by
  intro x1 x2 x3 s0 h z hM
  unfold B_X9_fires_139 at hM
  obtain ⟨h26, e27, hM⟩ := zw_nm_ex hM
  refine zr_puti (q := 142) (k0 := 32) (h' := h26) g (hI 31 (by decide)) zs_31 rfl zp_X9_263 dX9_fires_139 rfl e27 ?_
  refine zr_aload_n (q := 143) g 0 dX9_fires_142 rfl rfl rfl ?_
  refine zr_dup (q := 144) g dX9_fires_143 rfl rfl ?_
  refine zr_geti (q := 147) (k0 := 31) g (hI 31 (by decide)) zs_31 rfl zf_X9_260 dX9_fires_144 rfl ?_
  refine zr_iload_n (q := 148) g 3 dX9_fires_147 rfl rfl rfl ?_
  refine zr_if_eq (q := 151) (tgt := 155) g dX9_fires_148 rfl rfl (fun c28 => ?_) (fun c28 => ?_)
  · replace hM := zw_ift c28 hM
    refine zr_iconst (q := 156) (v := (0 : Int32)) g dX9_fires_155 rfl (by decide) ?_
    refine zr_lv (lv' := [(0, .ref (E.2.1 31)), (1, .int x1), (2, .int x2)]) [0, 1, 2] rfl ?_
    exact U_X9_fires_156 ok hI g hr hlk eL31 _ _ _ _ _ _ hM
  · replace hM := zw_iff c28 hM
    refine zr_iconst (q := 152) (v := (1 : Int32)) g dX9_fires_151 rfl (by decide) ?_
    refine zr_goto (tgt := 156) g dX9_fires_152 rfl ?_
    refine zr_lv (lv' := [(0, .ref (E.2.1 31)), (1, .int x1), (2, .int x2)]) [0, 1, 2] rfl ?_
    exact U_X9_fires_156 ok hI g hr hlk eL31 _ _ _ _ _ _ hM
noncomputable def B_X9_fires_135 (k31 : (Int32 × Int32 × zw_Hp) → Option (Int32 × zw_Hp)) (x1 : Int32) (x2 : Int32) (x3 : Int32) (h : zw_Hp) : Option (Int32 × zw_Hp) :=
  B_X9_fires_139 k31 x1 x2 x3 (h.1 31 32) h
set_option maxRecDepth 100000 in
set_option maxHeartbeats 4000000 in
theorem U_X9_fires_135 (ok : zw_Ok E) (hI : ∀ i, i < 48 → i ∈ E.2.2.1) (g : zw_G p E (zw_A E) s m args c RX9 cX9_fires 5) (hr : meth.sig.returnType = some .int) (hlk : meth.locks = false) {k31 : (Int32 × Int32 × zw_Hp) → Option (Int32 × zw_Hp)} (eL31 : ∀ (w : Int32 × Int32 × zw_Hp) (z : Int32 × zw_Hp), k31 w = some z → zw_V p l e s m args below meth c E mt_X9_fires 5 (some (.int z.1)) z.2 31 [(0, .ref (E.2.1 31)), (1, .int w.1), (2, .int w.2.1)] [] w.2.2) :
    ∀ (x1 : Int32) (x2 : Int32) (x3 : Int32) (h : zw_Hp) (z : Int32 × zw_Hp), B_X9_fires_135 k31 x1 x2 x3 h = some z → zw_V p l e s m args below meth c E mt_X9_fires 5 (some (.int z.1)) z.2 135 [(0, .ref (E.2.1 31)), (1, .int x1), (2, .int x2), (3, .int x3)] [.ref (E.2.1 31)] h := by
  intro x1 x2 x3 h z hM
  unfold B_X9_fires_135 at hM
  refine zr_aload_n (q := 136) g 0 dX9_fires_135 rfl rfl rfl ?_
  refine zr_geti (q := 139) (k0 := 32) g (hI 31 (by decide)) zs_31 rfl zf_X9_263 dX9_fires_136 rfl ?_
  exact U_X9_fires_139 ok hI g hr hlk eL31 _ _ _ _ _ _ hM
noncomputable def B_X9_fires_42 (k31 : (Int32 × Int32 × zw_Hp) → Option (Int32 × zw_Hp)) (k42 : (Int32 × Int32 × Int32 × Int32 × zw_Hp) → Option (Int32 × zw_Hp)) (x1 : Int32) (x2 : Int32) (x3 : Int32) (x4 : Int32) (h : zw_Hp) : Option (Int32 × zw_Hp) :=
  if (h.1 31 24) ≤ x4 then (if x3 = 0 then (B_X9_fires_135 k31 x1 x2 x3 h) else (if (h.1 31 31) = 0 then (B_X9_fires_139 k31 x1 x2 x3 x2 h) else (B_X9_fires_135 k31 x1 x2 x3 h))) else (if x3 = 0 then (B_X9_fires_111 k31 k42 x1 x2 x4 h) else (if zw_ok x4 6 = true then ((M_X9_fireBy (x2 / (10 : Int32)) (x2 - x2 / (10 : Int32) * (10 : Int32)) (h.1 42 (x4).toNatClampNeg) h).bind (fun z17 => if zw_ok x4 6 = true then (if z17 < (h.1 43 (x4).toNatClampNeg) then (B_X9_fires_88 k31 k42 x1 x2 x4 (0 : Int32) h) else (B_X9_fires_88 k31 k42 x1 x2 x4 (1 : Int32) h)) else none)) else none))
set_option maxRecDepth 100000 in
set_option maxHeartbeats 4000000 in
theorem U_X9_fires_42 (ok : zw_Ok E) (hI : ∀ i, i < 48 → i ∈ E.2.2.1) (g : zw_G p E (zw_A E) s m args c RX9 cX9_fires 5) (hr : meth.sig.returnType = some .int) (hlk : meth.locks = false) {k31 : (Int32 × Int32 × zw_Hp) → Option (Int32 × zw_Hp)} (eL31 : ∀ (w : Int32 × Int32 × zw_Hp) (z : Int32 × zw_Hp), k31 w = some z → zw_V p l e s m args below meth c E mt_X9_fires 5 (some (.int z.1)) z.2 31 [(0, .ref (E.2.1 31)), (1, .int w.1), (2, .int w.2.1)] [] w.2.2) {k42 : (Int32 × Int32 × Int32 × Int32 × zw_Hp) → Option (Int32 × zw_Hp)} (eL42 : ∀ (w : Int32 × Int32 × Int32 × Int32 × zw_Hp) (z : Int32 × zw_Hp), k42 w = some z → zw_V p l e s m args below meth c E mt_X9_fires 5 (some (.int z.1)) z.2 42 [(0, .ref (E.2.1 31)), (1, .int w.1), (2, .int w.2.1), (3, .int w.2.2.1), (4, .int w.2.2.2.1)] [] w.2.2.2.2) :
    ∀ (x1 : Int32) (x2 : Int32) (x3 : Int32) (x4 : Int32) (h : zw_Hp) (z : Int32 × zw_Hp), B_X9_fires_42 k31 k42 x1 x2 x3 x4 h = some z → zw_V p l e s m args below meth c E mt_X9_fires 5 (some (.int z.1)) z.2 42 [(0, .ref (E.2.1 31)), (1, .int x1), (2, .int x2), (3, .int x3), (4, .int x4)] [] h := by
  intro x1 x2 x3 x4 h z hM
  unfold B_X9_fires_42 at hM
  refine zr_iload (q := 44) g 4 dX9_fires_42 rfl rfl ?_
  refine zr_aload_n (q := 45) g 0 dX9_fires_44 rfl rfl rfl ?_
  refine zr_geti (q := 48) (k0 := 24) g (hI 31 (by decide)) zs_31 rfl zf_X9_174 dX9_fires_45 rfl ?_
  refine zr_icmp_ge (q := 51) (tgt := 119) g dX9_fires_48 rfl rfl (fun c12 => ?_) (fun c12 => ?_)
  · replace hM := zw_ift c12 hM
    refine zr_aload_n (q := 120) g 0 dX9_fires_119 rfl rfl rfl ?_
    refine zr_iload_n (q := 121) g 3 dX9_fires_120 rfl rfl rfl ?_
    refine zr_if_eq (q := 124) (tgt := 135) g dX9_fires_121 rfl rfl (fun c13 => ?_) (fun c13 => ?_)
    · replace hM := zw_ift c13 hM
      refine zr_lv (lv' := [(0, .ref (E.2.1 31)), (1, .int x1), (2, .int x2), (3, .int x3)]) [0, 1, 2, 3] rfl ?_
      exact U_X9_fires_135 ok hI g hr hlk eL31 _ _ _ _ _ hM
    · replace hM := zw_iff c13 hM
      refine zr_aload_n (q := 125) g 0 dX9_fires_124 rfl rfl rfl ?_
      refine zr_geti (q := 128) (k0 := 31) g (hI 31 (by decide)) zs_31 rfl zf_X9_260 dX9_fires_125 rfl ?_
      refine zr_if_ne (q := 131) (tgt := 135) g dX9_fires_128 rfl rfl (fun c14 => ?_) (fun c14 => ?_)
      · replace hM := zw_iff c14 hM
        refine zr_lv (lv' := [(0, .ref (E.2.1 31)), (1, .int x1), (2, .int x2), (3, .int x3)]) [0, 1, 2, 3] rfl ?_
        exact U_X9_fires_135 ok hI g hr hlk eL31 _ _ _ _ _ hM
      · replace hM := zw_ift c14 hM
        refine zr_iload_n (q := 132) g 2 dX9_fires_131 rfl rfl rfl ?_
        refine zr_goto (tgt := 139) g dX9_fires_132 rfl ?_
        refine zr_lv (lv' := [(0, .ref (E.2.1 31)), (1, .int x1), (2, .int x2), (3, .int x3)]) [0, 1, 2, 3] rfl ?_
        exact U_X9_fires_139 ok hI g hr hlk eL31 _ _ _ _ _ _ hM
  · replace hM := zw_iff c12 hM
    refine zr_iload_n (q := 52) g 3 dX9_fires_51 rfl rfl rfl ?_
    refine zr_if_eq (q := 55) (tgt := 111) g dX9_fires_52 rfl rfl (fun c15 => ?_) (fun c15 => ?_)
    · replace hM := zw_ift c15 hM
      refine zr_lv (lv' := [(0, .ref (E.2.1 31)), (1, .int x1), (2, .int x2), (4, .int x4)]) [0, 1, 2, 4] rfl ?_
      exact U_X9_fires_111 ok hI g hr hlk eL31 eL42 _ _ _ _ _ hM
    · replace hM := zw_iff c15 hM
      refine zr_iload_n (q := 56) g 2 dX9_fires_55 rfl rfl rfl ?_
      refine zr_bipush (q := 58) (v := (10 : Int32)) g dX9_fires_56 rfl (by decide) ?_
      refine zr_idiv (q := 59) g dX9_fires_58 rfl (by decide) ?_
      refine zr_iload_n (q := 60) g 2 dX9_fires_59 rfl rfl rfl ?_
      refine zr_bipush (q := 62) (v := (10 : Int32)) g dX9_fires_60 rfl (by decide) ?_
      refine zr_irem (q := 63) g dX9_fires_62 rfl (by decide) ?_
      refine zr_aload_n (q := 64) g 0 dX9_fires_63 rfl rfl rfl ?_
      refine zr_getr (q := 67) (k0 := 25) (j := 42) g (hI 31 (by decide)) zs_31 rfl zf_X9_41 dX9_fires_64 rfl ?_
      refine zr_iload (q := 69) g 4 dX9_fires_67 rfl rfl ?_
      obtain ⟨c16, hM⟩ := zw_gd hM
      refine zr_iald (q := 70) g (hI 42 (by decide)) zs_42 c16 dX9_fires_69 rfl ?_
      obtain ⟨z17, q18, hM⟩ := zw_bd hM
      refine zr_callS (q := 73) (As := [.int (x2 / (10 : Int32)), .int (x2 - x2 / (10 : Int32) * (10 : Int32)), .int (h.1 42 (x4).toNatClampNeg)]) (rest := []) (st' := [.int z17]) g (R_X9_fireBy ok hI q18) zv_X9_fireBy zl_X9_266 dX9_fires_70 rfl rfl ⟨Nat.le_of_ble_eq_true rfl, Nat.le_of_ble_eq_true rfl⟩ ⟨Nat.zero_le _, Nat.zero_le _⟩ (Nat.le_of_ble_eq_true rfl) rfl rfl ?_
      refine zr_aload_n (q := 74) g 0 dX9_fires_73 rfl rfl rfl ?_
      refine zr_getr (q := 77) (k0 := 26) (j := 43) g (hI 31 (by decide)) zs_31 rfl zf_X9_44 dX9_fires_74 rfl ?_
      refine zr_iload (q := 79) g 4 dX9_fires_77 rfl rfl ?_
      obtain ⟨c19, hM⟩ := zw_gd hM
      refine zr_iald (q := 80) g (hI 43 (by decide)) zs_43 c19 dX9_fires_79 rfl ?_
      refine zr_icmp_lt (q := 83) (tgt := 87) g dX9_fires_80 rfl rfl (fun c20 => ?_) (fun c20 => ?_)
      · replace hM := zw_ift c20 hM
        refine zr_iconst (q := 88) (v := (0 : Int32)) g dX9_fires_87 rfl (by decide) ?_
        refine zr_lv (lv' := [(0, .ref (E.2.1 31)), (1, .int x1), (2, .int x2), (4, .int x4)]) [0, 1, 2, 4] rfl ?_
        exact U_X9_fires_88 ok hI g hr hlk eL31 eL42 _ _ _ _ _ _ hM
      · replace hM := zw_iff c20 hM
        refine zr_iconst (q := 84) (v := (1 : Int32)) g dX9_fires_83 rfl (by decide) ?_
        refine zr_goto (tgt := 88) g dX9_fires_84 rfl ?_
        refine zr_lv (lv' := [(0, .ref (E.2.1 31)), (1, .int x1), (2, .int x2), (4, .int x4)]) [0, 1, 2, 4] rfl ?_
        exact U_X9_fires_88 ok hI g hr hlk eL31 eL42 _ _ _ _ _ _ hM
noncomputable def L_X9_fires_42 (k31 : (Int32 × Int32 × zw_Hp) → Option (Int32 × zw_Hp)) (w : Int32 × Int32 × Int32 × Int32 × zw_Hp) : Option (Int32 × zw_Hp) :=
  zw_it (fun (k42 : (Int32 × Int32 × Int32 × Int32 × zw_Hp) → Option (Int32 × zw_Hp)) (w : Int32 × Int32 × Int32 × Int32 × zw_Hp) => B_X9_fires_42 k31 k42 (w.1) (w.2.1) (w.2.2.1) (w.2.2.2.1) (w.2.2.2.2)) 600 w
theorem UL_X9_fires_42 (ok : zw_Ok E) (hI : ∀ i, i < 48 → i ∈ E.2.2.1) (g : zw_G p E (zw_A E) s m args c RX9 cX9_fires 5) (hr : meth.sig.returnType = some .int) (hlk : meth.locks = false) {k31 : (Int32 × Int32 × zw_Hp) → Option (Int32 × zw_Hp)} (eL31 : ∀ (w : Int32 × Int32 × zw_Hp) (z : Int32 × zw_Hp), k31 w = some z → zw_V p l e s m args below meth c E mt_X9_fires 5 (some (.int z.1)) z.2 31 [(0, .ref (E.2.1 31)), (1, .int w.1), (2, .int w.2.1)] [] w.2.2) :
    ∀ (w : Int32 × Int32 × Int32 × Int32 × zw_Hp) (z : Int32 × zw_Hp), L_X9_fires_42 k31 w = some z → zw_V p l e s m args below meth c E mt_X9_fires 5 (some (.int z.1)) z.2 42 [(0, .ref (E.2.1 31)), (1, .int w.1), (2, .int w.2.1), (3, .int w.2.2.1), (4, .int w.2.2.2.1)] [] w.2.2.2.2 :=
  fun w z hM => zw_it_ind (P := fun (w : Int32 × Int32 × Int32 × Int32 × zw_Hp) (z : Int32 × zw_Hp) => zw_V p l e s m args below meth c E mt_X9_fires 5 (some (.int z.1)) z.2 42 [(0, .ref (E.2.1 31)), (1, .int w.1), (2, .int w.2.1), (3, .int w.2.2.1), (4, .int w.2.2.2.1)] [] w.2.2.2.2) (fun k e w z hM => U_X9_fires_42 ok hI g hr hlk eL31 e _ _ _ _ _ _ hM) 600 w z hM
noncomputable def B_X9_fires_31 (k31 : (Int32 × Int32 × zw_Hp) → Option (Int32 × zw_Hp)) (x1 : Int32) (x2 : Int32) (h : zw_Hp) : Option (Int32 × zw_Hp) :=
  if (100 : Int32) ≤ x2 then (if x1 = 0 then (some ((h.1 31 31), h)) else (some ((h.1 31 32), h))) else (L_X9_fires_42 k31 (x1, x2, (1 : Int32), (0 : Int32), h))
set_option maxRecDepth 100000 in
set_option maxHeartbeats 4000000 in
theorem U_X9_fires_31 (ok : zw_Ok E) (hI : ∀ i, i < 48 → i ∈ E.2.2.1) (g : zw_G p E (zw_A E) s m args c RX9 cX9_fires 5) (hr : meth.sig.returnType = some .int) (hlk : meth.locks = false) {k31 : (Int32 × Int32 × zw_Hp) → Option (Int32 × zw_Hp)} (eL31 : ∀ (w : Int32 × Int32 × zw_Hp) (z : Int32 × zw_Hp), k31 w = some z → zw_V p l e s m args below meth c E mt_X9_fires 5 (some (.int z.1)) z.2 31 [(0, .ref (E.2.1 31)), (1, .int w.1), (2, .int w.2.1)] [] w.2.2) :
    ∀ (x1 : Int32) (x2 : Int32) (h : zw_Hp) (z : Int32 × zw_Hp), B_X9_fires_31 k31 x1 x2 h = some z → zw_V p l e s m args below meth c E mt_X9_fires 5 (some (.int z.1)) z.2 31 [(0, .ref (E.2.1 31)), (1, .int x1), (2, .int x2)] [] h := by
  intro x1 x2 h z hM
  unfold B_X9_fires_31 at hM
  refine zr_iload_n (q := 32) g 2 dX9_fires_31 rfl rfl rfl ?_
  refine zr_bipush (q := 34) (v := (100 : Int32)) g dX9_fires_32 rfl (by decide) ?_
  refine zr_icmp_ge (q := 37) (tgt := 166) g dX9_fires_34 rfl rfl (fun c10 => ?_) (fun c10 => ?_)
  · replace hM := zw_ift c10 hM
    refine zr_iload_n (q := 167) g 1 dX9_fires_166 rfl rfl rfl ?_
    refine zr_if_ne (q := 170) (tgt := 177) g dX9_fires_167 rfl rfl (fun c11 => ?_) (fun c11 => ?_)
    · replace hM := zw_iff c11 hM
      refine zr_aload_n (q := 178) g 0 dX9_fires_177 rfl rfl rfl ?_
      refine zr_geti (q := 181) (k0 := 32) g (hI 31 (by decide)) zs_31 rfl zf_X9_263 dX9_fires_178 rfl ?_
      cases hM
      exact zr_iret g hr hlk dX9_fires_181 rfl rfl
    · replace hM := zw_ift c11 hM
      refine zr_aload_n (q := 171) g 0 dX9_fires_170 rfl rfl rfl ?_
      refine zr_geti (q := 174) (k0 := 31) g (hI 31 (by decide)) zs_31 rfl zf_X9_260 dX9_fires_171 rfl ?_
      refine zr_goto (tgt := 181) g dX9_fires_174 rfl ?_
      cases hM
      exact zr_iret g hr hlk dX9_fires_181 rfl rfl
  · replace hM := zw_iff c10 hM
    refine zr_iconst (q := 38) (v := (1 : Int32)) g dX9_fires_37 rfl (by decide) ?_
    refine zr_istore_n (q := 39) (lv' := [(3, .int (1 : Int32)), (0, .ref (E.2.1 31)), (1, .int x1), (2, .int x2)]) g dX9_fires_38 rfl rfl (by decide) rfl ?_
    refine zr_iconst (q := 40) (v := (0 : Int32)) g dX9_fires_39 rfl (by decide) ?_
    refine zr_istore (q := 42) (lv' := [(4, .int (0 : Int32)), (3, .int (1 : Int32)), (0, .ref (E.2.1 31)), (1, .int x1), (2, .int x2)]) g dX9_fires_40 rfl (by decide) rfl ?_
    refine zr_lv (lv' := [(0, .ref (E.2.1 31)), (1, .int x1), (2, .int x2), (3, .int (1 : Int32)), (4, .int (0 : Int32))]) [2, 3, 4, 1, 0] rfl ?_
    exact UL_X9_fires_42 ok hI g hr hlk eL31 _ _ hM
noncomputable def L_X9_fires_31 (w : Int32 × Int32 × zw_Hp) : Option (Int32 × zw_Hp) :=
  zw_it (fun (k31 : (Int32 × Int32 × zw_Hp) → Option (Int32 × zw_Hp)) (w : Int32 × Int32 × zw_Hp) => B_X9_fires_31 k31 (w.1) (w.2.1) (w.2.2)) 600 w
theorem UL_X9_fires_31 (ok : zw_Ok E) (hI : ∀ i, i < 48 → i ∈ E.2.2.1) (g : zw_G p E (zw_A E) s m args c RX9 cX9_fires 5) (hr : meth.sig.returnType = some .int) (hlk : meth.locks = false) :
    ∀ (w : Int32 × Int32 × zw_Hp) (z : Int32 × zw_Hp), L_X9_fires_31 w = some z → zw_V p l e s m args below meth c E mt_X9_fires 5 (some (.int z.1)) z.2 31 [(0, .ref (E.2.1 31)), (1, .int w.1), (2, .int w.2.1)] [] w.2.2 :=
  fun w z hM => zw_it_ind (P := fun (w : Int32 × Int32 × zw_Hp) (z : Int32 × zw_Hp) => zw_V p l e s m args below meth c E mt_X9_fires 5 (some (.int z.1)) z.2 31 [(0, .ref (E.2.1 31)), (1, .int w.1), (2, .int w.2.1)] [] w.2.2) (fun k e w z hM => U_X9_fires_31 ok hI g hr hlk e _ _ _ _ hM) 600 w z hM
noncomputable def M_X9_fires (x1 : Int32) (h : zw_Hp) : Option (Int32 × zw_Hp) :=
  zw_nm (zw_up h 31 0 (0 : Int32)) (fun h1 => (M_X9_in (x1).toInt64 (0 : Int64) (1 : Int64) h1).bind (fun z3 => if z3 = 0 then (some ((-2 : Int32), h1)) else (zw_nm (zw_up h1 31 31 (0 : Int32)) (fun h6 => zw_nm (zw_up h6 31 32 (-9 : Int32)) (fun h8 => L_X9_fires_31 (x1, (0 : Int32), h8))))))
set_option maxRecDepth 100000 in
set_option maxHeartbeats 4000000 in
theorem R_X9_fires (ok : zw_Ok E) (hI : ∀ i, i < 48 → i ∈ E.2.2.1) {x1 : Int32} {h : zw_Hp} {z : Int32 × zw_Hp} (hM : M_X9_fires x1 h = some z) : zw_Ct l E mt_X9_fires [.ref (E.2.1 31), .int x1] h (some (.int z.1)) z.2 := by
  unfold M_X9_fires at hM
  refine zw_ct (lv0 := [(0, .ref (E.2.1 31)), (1, .int x1)]) ok (by decide) rfl (Nat.le_of_ble_eq_true rfl) (fun p e s m args below meth c g hr hlk => ?_)
  replace g : zw_G p E (zw_A E) s m args c RX9 cX9_fires 5 := g
  show zw_V p l e s m args below meth c E mt_X9_fires 5 (some (.int z.1)) z.2 0 [(0, .ref (E.2.1 31)), (1, .int x1)] [] h
  refine zr_aload_n (q := 1) g 0 dX9_fires_0 rfl rfl rfl ?_
  refine zr_iconst (q := 2) (v := (0 : Int32)) g dX9_fires_1 rfl (by decide) ?_
  obtain ⟨h1, e2, hM⟩ := zw_nm_ex hM
  refine zr_puti (q := 5) (k0 := 0) (h' := h1) g (hI 31 (by decide)) zs_31 rfl zp_X9_59 dX9_fires_2 rfl e2 ?_
  refine zr_iload_n (q := 6) g 1 dX9_fires_5 rfl rfl rfl ?_
  refine zr_i2l (q := 7) g dX9_fires_6 rfl ?_
  refine zr_lconst (q := 8) (v := (0 : Int64)) g dX9_fires_7 rfl (by decide) ?_
  refine zr_lconst (q := 9) (v := (1 : Int64)) g dX9_fires_8 rfl (by decide) ?_
  obtain ⟨z3, q4, hM⟩ := zw_bd hM
  refine zr_callS (q := 12) (As := [.long (x1).toInt64, .long (0 : Int64), .long (1 : Int64)]) (rest := []) (st' := [.int z3]) g (R_X9_in ok hI q4) zv_X9_in zl_X9_66 dX9_fires_9 rfl rfl ⟨Nat.le_of_ble_eq_true rfl, Nat.le_of_ble_eq_true rfl⟩ ⟨Nat.zero_le _, Nat.zero_le _⟩ (Nat.le_of_ble_eq_true rfl) rfl rfl ?_
  refine zr_if_ne (q := 15) (tgt := 18) g dX9_fires_12 rfl rfl (fun c5 => ?_) (fun c5 => ?_)
  · replace hM := zw_iff c5 hM
    refine zr_aload_n (q := 19) g 0 dX9_fires_18 rfl rfl rfl ?_
    refine zr_iconst (q := 20) (v := (0 : Int32)) g dX9_fires_19 rfl (by decide) ?_
    obtain ⟨h6, e7, hM⟩ := zw_nm_ex hM
    refine zr_puti (q := 23) (k0 := 31) (h' := h6) g (hI 31 (by decide)) zs_31 rfl zp_X9_260 dX9_fires_20 rfl e7 ?_
    refine zr_aload_n (q := 24) g 0 dX9_fires_23 rfl rfl rfl ?_
    refine zr_bipush (q := 26) (v := (-9 : Int32)) g dX9_fires_24 rfl (by decide) ?_
    obtain ⟨h8, e9, hM⟩ := zw_nm_ex hM
    refine zr_puti (q := 29) (k0 := 32) (h' := h8) g (hI 31 (by decide)) zs_31 rfl zp_X9_263 dX9_fires_26 rfl e9 ?_
    refine zr_iconst (q := 30) (v := (0 : Int32)) g dX9_fires_29 rfl (by decide) ?_
    refine zr_istore_n (q := 31) (lv' := [(2, .int (0 : Int32)), (0, .ref (E.2.1 31)), (1, .int x1)]) g dX9_fires_30 rfl rfl (by decide) rfl ?_
    refine zr_lv (lv' := [(0, .ref (E.2.1 31)), (1, .int x1), (2, .int (0 : Int32))]) [1, 2, 0] rfl ?_
    exact UL_X9_fires_31 ok hI g hr hlk _ _ hM
  · replace hM := zw_ift c5 hM
    refine zr_bipush (q := 17) (v := (-2 : Int32)) g dX9_fires_15 rfl (by decide) ?_
    cases hM
    exact zr_iret g hr hlk dX9_fires_17 rfl rfl
end
