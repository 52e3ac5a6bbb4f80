section
variable {p : Program} {l : Launch} {e : Env} {s : State} {m : MethodId} {args : Array Value} {below : List Frame} {meth : Method} {c : Code} {E : zw_En}
noncomputable def B_X9_night_107 (k107 : (Int32 × zw_Hp) → Option (Int32 × zw_Hp)) (x1 : Int32) (h : zw_Hp) : Option (Int32 × zw_Hp) :=
  if (h.1 31 8) ≤ x1 then (if zw_ok (17 : Int32) 21 = true then zw_nm (zw_up h 37 ((17 : Int32)).toNatClampNeg (h.1 31 17)) (fun h32 => if zw_ok (18 : Int32) 21 = true then zw_nm (zw_up h32 37 ((18 : Int32)).toNatClampNeg (h32.1 31 10)) (fun h35 => zw_nm (zw_up h35 31 21 (0 : Int32)) (fun h37 => if zw_ok (0 : Int32) 2 = true then zw_nm (zw_up h37 41 ((0 : Int32)).toNatClampNeg (0 : Int32)) (fun h40 => if zw_ok (1 : Int32) 2 = true then zw_nm (zw_up h40 41 ((1 : Int32)).toNatClampNeg (0 : Int32)) (fun h43 => some ((((10 : Int32) * (h43.1 31 6)) + (h43.1 31 8)), h43)) else none) else none)) else none) else none) else (if zw_ok x1 4 = true then (if zw_ok x1 4 = true then zw_nm (zw_up h 34 (x1).toNatClampNeg (h.1 36 (x1).toNatClampNeg)) (fun h47 => if zw_ok ((5 : Int32) + x1) 21 = true then zw_nm (zw_up h47 37 (((5 : Int32) + x1)).toNatClampNeg (8 : Int32)) (fun h50 => zw_nm (x1 + (1 : Int32)) (fun y52 => k107 (y52, h50))) else none) else none) else none)
set_option maxRecDepth 100000 in
set_option maxHeartbeats 4000000 in
theorem U_X9_night_107 (ok : zw_Ok E) (hI : ∀ i, i < 48 → i ∈ E.2.2.1) (g : zw_G p E (zw_A E) s m args c RX9 cX9_night 2) (hr : meth.sig.returnType = some .int) (hlk : meth.locks = false) {k107 : (Int32 × zw_Hp) → Option (Int32 × zw_Hp)} (eL107 : ∀ (w : Int32 × zw_Hp) (z : Int32 × zw_Hp), k107 w = some z → zw_V p l e s m args below meth c E mt_X9_night 2 (some (.int z.1)) z.2 107 [(0, .ref (E.2.1 31)), (1, .int w.1)] [] w.2) :
    ∀ (x1 : Int32) (h : zw_Hp) (z : Int32 × zw_Hp), B_X9_night_107 k107 x1 h = some z → zw_V p l e s m args below meth c E mt_X9_night 2 (some (.int z.1)) z.2 107 [(0, .ref (E.2.1 31)), (1, .int x1)] [] h := by
  intro x1 h z hM
  unfold B_X9_night_107 at hM
  refine zr_iload_n (q := 108) g 1 dX9_night_107 rfl rfl rfl ?_
  refine zr_aload_n (q := 109) g 0 dX9_night_108 rfl rfl rfl ?_
  refine zr_geti (q := 112) (k0 := 8) g (hI 31 (by decide)) zs_31 rfl zf_X9_70 dX9_night_109 rfl ?_
  refine zr_icmp_ge (q := 115) (tgt := 143) g dX9_night_112 rfl rfl (fun c30 => ?_) (fun c30 => ?_)
  · replace hM := zw_ift c30 hM
    refine zr_aload_n (q := 144) g 0 dX9_night_143 rfl rfl rfl ?_
    refine zr_getr (q := 147) (k0 := 18) (j := 37) g (hI 31 (by decide)) zs_31 rfl zf_X9_25 dX9_night_144 rfl ?_
    refine zr_bipush (q := 149) (v := (17 : Int32)) g dX9_night_147 rfl (by decide) ?_
    refine zr_aload_n (q := 150) g 0 dX9_night_149 rfl rfl rfl ?_
    refine zr_geti (q := 153) (k0 := 17) g (hI 31 (by decide)) zs_31 rfl zf_X9_91 dX9_night_150 rfl ?_
    obtain ⟨c31, hM⟩ := zw_gd hM
    obtain ⟨h32, e33, hM⟩ := zw_nm_ex hM
    refine zr_iast (q := 154) (h' := h32) g (hI 37 (by decide)) zs_37 c31 dX9_night_153 rfl e33 ?_
    refine zr_aload_n (q := 155) g 0 dX9_night_154 rfl rfl rfl ?_
    refine zr_getr (q := 158) (k0 := 18) (j := 37) g (hI 31 (by decide)) zs_31 rfl zf_X9_25 dX9_night_155 rfl ?_
    refine zr_bipush (q := 160) (v := (18 : Int32)) g dX9_night_158 rfl (by decide) ?_
    refine zr_aload_n (q := 161) g 0 dX9_night_160 rfl rfl rfl ?_
    refine zr_geti (q := 164) (k0 := 10) g (hI 31 (by decide)) zs_31 rfl zf_X9_107 dX9_night_161 rfl ?_
    obtain ⟨c34, hM⟩ := zw_gd hM
    obtain ⟨h35, e36, hM⟩ := zw_nm_ex hM
    refine zr_iast (q := 165) (h' := h35) g (hI 37 (by decide)) zs_37 c34 dX9_night_164 rfl e36 ?_
    refine zr_aload_n (q := 166) g 0 dX9_night_165 rfl rfl rfl ?_
    refine zr_iconst (q := 167) (v := (0 : Int32)) g dX9_night_166 rfl (by decide) ?_
    obtain ⟨h37, e38, hM⟩ := zw_nm_ex hM
    refine zr_puti (q := 170) (k0 := 21) (h' := h37) g (hI 31 (by decide)) zs_31 rfl zp_X9_126 dX9_night_167 rfl e38 ?_
    refine zr_aload_n (q := 171) g 0 dX9_night_170 rfl rfl rfl ?_
    refine zr_getr (q := 174) (k0 := 23) (j := 41) g (hI 31 (by decide)) zs_31 rfl zf_X9_37 dX9_night_171 rfl ?_
    refine zr_iconst (q := 175) (v := (0 : Int32)) g dX9_night_174 rfl (by decide) ?_
    refine zr_iconst (q := 176) (v := (0 : Int32)) g dX9_night_175 rfl (by decide) ?_
    obtain ⟨c39, hM⟩ := zw_gd hM
    obtain ⟨h40, e41, hM⟩ := zw_nm_ex hM
    refine zr_zast (q := 177) (h' := h40) g (hI 41 (by decide)) zs_41 c39 (by decide) dX9_night_176 rfl e41 ?_
    refine zr_aload_n (q := 178) g 0 dX9_night_177 rfl rfl rfl ?_
    refine zr_getr (q := 181) (k0 := 23) (j := 41) g (hI 31 (by decide)) zs_31 rfl zf_X9_37 dX9_night_178 rfl ?_
    refine zr_iconst (q := 182) (v := (1 : Int32)) g dX9_night_181 rfl (by decide) ?_
    refine zr_iconst (q := 183) (v := (0 : Int32)) g dX9_night_182 rfl (by decide) ?_
    obtain ⟨c42, hM⟩ := zw_gd hM
    obtain ⟨h43, e44, hM⟩ := zw_nm_ex hM
    refine zr_zast (q := 184) (h' := h43) g (hI 41 (by decide)) zs_41 c42 (by decide) dX9_night_183 rfl e44 ?_
    refine zr_bipush (q := 186) (v := (10 : Int32)) g dX9_night_184 rfl (by decide) ?_
    refine zr_aload_n (q := 187) g 0 dX9_night_186 rfl rfl rfl ?_
    refine zr_geti (q := 190) (k0 := 6) g (hI 31 (by decide)) zs_31 rfl zf_X9_63 dX9_night_187 rfl ?_
    refine zr_imul (q := 191) g dX9_night_190 rfl ?_
    refine zr_aload_n (q := 192) g 0 dX9_night_191 rfl rfl rfl ?_
    refine zr_geti (q := 195) (k0 := 8) g (hI 31 (by decide)) zs_31 rfl zf_X9_70 dX9_night_192 rfl ?_
    refine zr_iadd (q := 196) g dX9_night_195 rfl ?_
    cases hM
    exact zr_iret g hr hlk dX9_night_196 rfl rfl
  · replace hM := zw_iff c30 hM
    refine zr_aload_n (q := 116) g 0 dX9_night_115 rfl rfl rfl ?_
    refine zr_getr (q := 119) (k0 := 9) (j := 34) g (hI 31 (by decide)) zs_31 rfl zf_X9_16 dX9_night_116 rfl ?_
    refine zr_iload_n (q := 120) g 1 dX9_night_119 rfl rfl rfl ?_
    refine zr_aload_n (q := 121) g 0 dX9_night_120 rfl rfl rfl ?_
    refine zr_getr (q := 124) (k0 := 16) (j := 36) g (hI 31 (by decide)) zs_31 rfl zf_X9_22 dX9_night_121 rfl ?_
    refine zr_iload_n (q := 125) g 1 dX9_night_124 rfl rfl rfl ?_
    obtain ⟨c45, hM⟩ := zw_gd hM
    refine zr_iald (q := 126) g (hI 36 (by decide)) zs_36 c45 dX9_night_125 rfl ?_
    obtain ⟨c46, hM⟩ := zw_gd hM
    obtain ⟨h47, e48, hM⟩ := zw_nm_ex hM
    refine zr_iast (q := 127) (h' := h47) g (hI 34 (by decide)) zs_34 c46 dX9_night_126 rfl e48 ?_
    refine zr_aload_n (q := 128) g 0 dX9_night_127 rfl rfl rfl ?_
    refine zr_getr (q := 131) (k0 := 18) (j := 37) g (hI 31 (by decide)) zs_31 rfl zf_X9_25 dX9_night_128 rfl ?_
    refine zr_iconst (q := 132) (v := (5 : Int32)) g dX9_night_131 rfl (by decide) ?_
    refine zr_iload_n (q := 133) g 1 dX9_night_132 rfl rfl rfl ?_
    refine zr_iadd (q := 134) g dX9_night_133 rfl ?_
    refine zr_bipush (q := 136) (v := (8 : Int32)) g dX9_night_134 rfl (by decide) ?_
    obtain ⟨c49, hM⟩ := zw_gd hM
    obtain ⟨h50, e51, hM⟩ := zw_nm_ex hM
    refine zr_iast (q := 137) (h' := h50) g (hI 37 (by decide)) zs_37 c49 dX9_night_136 rfl e51 ?_
    obtain ⟨y52, e53, hM⟩ := zw_nm_ex hM
    refine zr_iinc (q := 140) (v := y52) (lv' := [(1, .int y52), (0, .ref (E.2.1 31))]) g 1 dX9_night_137 rfl rfl (by rw [e53]; rfl) (by decide) rfl ?_
    refine zr_goto (tgt := 107) g dX9_night_140 rfl ?_
    refine zr_lv (lv' := [(0, .ref (E.2.1 31)), (1, .int y52)]) [1, 0] rfl ?_
    exact eL107 _ _ hM
noncomputable def L_X9_night_107 (w : Int32 × zw_Hp) : Option (Int32 × zw_Hp) :=
  zw_it (fun (k107 : (Int32 × zw_Hp) → Option (Int32 × zw_Hp)) (w : Int32 × zw_Hp) => B_X9_night_107 k107 (w.1) (w.2)) 600 w
theorem UL_X9_night_107 (ok : zw_Ok E) (hI : ∀ i, i < 48 → i ∈ E.2.2.1) (g : zw_G p E (zw_A E) s m args c RX9 cX9_night 2) (hr : meth.sig.returnType = some .int) (hlk : meth.locks = false) :
    ∀ (w : Int32 × zw_Hp) (z : Int32 × zw_Hp), L_X9_night_107 w = some z → zw_V p l e s m args below meth c E mt_X9_night 2 (some (.int z.1)) z.2 107 [(0, .ref (E.2.1 31)), (1, .int w.1)] [] w.2 :=
  fun w z hM => zw_it_ind (P := fun (w : Int32 × zw_Hp) (z : Int32 × zw_Hp) => zw_V p l e s m args below meth c E mt_X9_night 2 (some (.int z.1)) z.2 107 [(0, .ref (E.2.1 31)), (1, .int w.1)] [] w.2) (fun k e w z hM => U_X9_night_107 ok hI g hr hlk e _ _ _ hM) 600 w z hM
noncomputable def B_X9_night_72 (k72 : (Int32 × zw_Hp) → Option (Int32 × zw_Hp)) (x1 : Int32) (h : zw_Hp) : Option (Int32 × zw_Hp) :=
  if (h.1 31 6) ≤ x1 then (L_X9_night_107 ((0 : Int32), h)) else (if zw_ok x1 5 = true then (if zw_ok x1 5 = true then zw_nm (zw_up h 33 (x1).toNatClampNeg (h.1 35 (x1).toNatClampNeg)) (fun h23 => if zw_ok x1 21 = true then zw_nm (zw_up h23 37 (x1).toNatClampNeg x1) (fun h26 => zw_nm (x1 + (1 : Int32)) (fun y28 => k72 (y28, h26))) else none) else none) else none)
set_option maxRecDepth 100000 in
set_option maxHeartbeats 4000000 in
theorem U_X9_night_72 (ok : zw_Ok E) (hI : ∀ i, i < 48 → i ∈ E.2.2.1) (g : zw_G p E (zw_A E) s m args c RX9 cX9_night 2) (hr : meth.sig.returnType = some .int) (hlk : meth.locks = false) {k72 : (Int32 × zw_Hp) → Option (Int32 × zw_Hp)} (eL72 : ∀ (w : Int32 × zw_Hp) (z : Int32 × zw_Hp), k72 w = some z → zw_V p l e s m args below meth c E mt_X9_night 2 (some (.int z.1)) z.2 72 [(0, .ref (E.2.1 31)), (1, .int w.1)] [] w.2) :
    ∀ (x1 : Int32) (h : zw_Hp) (z : Int32 × zw_Hp), B_X9_night_72 k72 x1 h = some z → zw_V p l e s m args below meth c E mt_X9_night 2 (some (.int z.1)) z.2 72 [(0, .ref (E.2.1 31)), (1, .int x1)] [] h := by
  intro x1 h z hM
  unfold B_X9_night_72 at hM
  refine zr_iload_n (q := 73) g 1 dX9_night_72 rfl rfl rfl ?_
  refine zr_aload_n (q := 74) g 0 dX9_night_73 rfl rfl rfl ?_
  refine zr_geti (q := 77) (k0 := 6) g (hI 31 (by decide)) zs_31 rfl zf_X9_63 dX9_night_74 rfl ?_
  refine zr_icmp_ge (q := 80) (tgt := 105) g dX9_night_77 rfl rfl (fun c20 => ?_) (fun c20 => ?_)
  · replace hM := zw_ift c20 hM
    refine zr_iconst (q := 106) (v := (0 : Int32)) g dX9_night_105 rfl (by decide) ?_
    refine zr_istore_n (q := 107) (lv' := [(1, .int (0 : Int32)), (0, .ref (E.2.1 31))]) g dX9_night_106 rfl rfl (by decide) rfl ?_
    refine zr_lv (lv' := [(0, .ref (E.2.1 31)), (1, .int (0 : Int32))]) [1, 0] rfl ?_
    exact UL_X9_night_107 ok hI g hr hlk _ _ hM
  · replace hM := zw_iff c20 hM
    refine zr_aload_n (q := 81) g 0 dX9_night_80 rfl rfl rfl ?_
    refine zr_getr (q := 84) (k0 := 7) (j := 33) g (hI 31 (by decide)) zs_31 rfl zf_X9_13 dX9_night_81 rfl ?_
    refine zr_iload_n (q := 85) g 1 dX9_night_84 rfl rfl rfl ?_
    refine zr_aload_n (q := 86) g 0 dX9_night_85 rfl rfl rfl ?_
    refine zr_getr (q := 89) (k0 := 14) (j := 35) g (hI 31 (by decide)) zs_31 rfl zf_X9_19 dX9_night_86 rfl ?_
    refine zr_iload_n (q := 90) g 1 dX9_night_89 rfl rfl rfl ?_
    obtain ⟨c21, hM⟩ := zw_gd hM
    refine zr_iald (q := 91) g (hI 35 (by decide)) zs_35 c21 dX9_night_90 rfl ?_
    obtain ⟨c22, hM⟩ := zw_gd hM
    obtain ⟨h23, e24, hM⟩ := zw_nm_ex hM
    refine zr_iast (q := 92) (h' := h23) g (hI 33 (by decide)) zs_33 c22 dX9_night_91 rfl e24 ?_
    refine zr_aload_n (q := 93) g 0 dX9_night_92 rfl rfl rfl ?_
    refine zr_getr (q := 96) (k0 := 18) (j := 37) g (hI 31 (by decide)) zs_31 rfl zf_X9_25 dX9_night_93 rfl ?_
    refine zr_iload_n (q := 97) g 1 dX9_night_96 rfl rfl rfl ?_
    refine zr_iload_n (q := 98) g 1 dX9_night_97 rfl rfl rfl ?_
    obtain ⟨c25, hM⟩ := zw_gd hM
    obtain ⟨h26, e27, hM⟩ := zw_nm_ex hM
    refine zr_iast (q := 99) (h' := h26) g (hI 37 (by decide)) zs_37 c25 dX9_night_98 rfl e27 ?_
    obtain ⟨y28, e29, hM⟩ := zw_nm_ex hM
    refine zr_iinc (q := 102) (v := y28) (lv' := [(1, .int y28), (0, .ref (E.2.1 31))]) g 1 dX9_night_99 rfl rfl (by rw [e29]; rfl) (by decide) rfl ?_
    refine zr_goto (tgt := 72) g dX9_night_102 rfl ?_
    refine zr_lv (lv' := [(0, .ref (E.2.1 31)), (1, .int y28)]) [1, 0] rfl ?_
    exact eL72 _ _ hM
noncomputable def L_X9_night_72 (w : Int32 × zw_Hp) : Option (Int32 × zw_Hp) :=
  zw_it (fun (k72 : (Int32 × zw_Hp) → Option (Int32 × zw_Hp)) (w : Int32 × zw_Hp) => B_X9_night_72 k72 (w.1) (w.2)) 600 w
theorem UL_X9_night_72 (ok : zw_Ok E) (hI : ∀ i, i < 48 → i ∈ E.2.2.1) (g : zw_G p E (zw_A E) s m args c RX9 cX9_night 2) (hr : meth.sig.returnType = some .int) (hlk : meth.locks = false) :
    ∀ (w : Int32 × zw_Hp) (z : Int32 × zw_Hp), L_X9_night_72 w = some z → zw_V p l e s m args below meth c E mt_X9_night 2 (some (.int z.1)) z.2 72 [(0, .ref (E.2.1 31)), (1, .int w.1)] [] w.2 :=
  fun w z hM => zw_it_ind (P := fun (w : Int32 × zw_Hp) (z : Int32 × zw_Hp) => zw_V p l e s m args below meth c E mt_X9_night 2 (some (.int z.1)) z.2 72 [(0, .ref (E.2.1 31)), (1, .int w.1)] [] w.2) (fun k e w z hM => U_X9_night_72 ok hI g hr hlk e _ _ _ hM) 600 w z hM
noncomputable def B_X9_night_51 (k51 : (Int32 × zw_Hp) → Option (Int32 × zw_Hp)) (x1 : Int32) (h : zw_Hp) : Option (Int32 × zw_Hp) :=
  if (21 : Int32) ≤ x1 then (L_X9_night_72 ((0 : Int32), h)) else (if zw_ok x1 21 = true then zw_nm (zw_up h 37 (x1).toNatClampNeg (0 : Int32)) (fun h16 => zw_nm (x1 + (1 : Int32)) (fun y18 => k51 (y18, h16))) else none)
set_option maxRecDepth 100000 in
set_option maxHeartbeats 4000000 in
theorem U_X9_night_51 (ok : zw_Ok E) (hI : ∀ i, i < 48 → i ∈ E.2.2.1) (g : zw_G p E (zw_A E) s m args c RX9 cX9_night 2) (hr : meth.sig.returnType = some .int) (hlk : meth.locks = false) {k51 : (Int32 × zw_Hp) → Option (Int32 × zw_Hp)} (eL51 : ∀ (w : Int32 × zw_Hp) (z : Int32 × zw_Hp), k51 w = some z → zw_V p l e s m args below meth c E mt_X9_night 2 (some (.int z.1)) z.2 51 [(0, .ref (E.2.1 31)), (1, .int w.1)] [] w.2) :
    ∀ (x1 : Int32) (h : zw_Hp) (z : Int32 × zw_Hp), B_X9_night_51 k51 x1 h = some z → zw_V p l e s m args below meth c E mt_X9_night 2 (some (.int z.1)) z.2 51 [(0, .ref (E.2.1 31)), (1, .int x1)] [] h := by
  intro x1 h z hM
  unfold B_X9_night_51 at hM
  refine zr_iload_n (q := 52) g 1 dX9_night_51 rfl rfl rfl ?_
  refine zr_bipush (q := 54) (v := (21 : Int32)) g dX9_night_52 rfl (by decide) ?_
  refine zr_icmp_ge (q := 57) (tgt := 70) g dX9_night_54 rfl rfl (fun c14 => ?_) (fun c14 => ?_)
  · replace hM := zw_ift c14 hM
    refine zr_iconst (q := 71) (v := (0 : Int32)) g dX9_night_70 rfl (by decide) ?_
    refine zr_istore_n (q := 72) (lv' := [(1, .int (0 : Int32)), (0, .ref (E.2.1 31))]) g dX9_night_71 rfl rfl (by decide) rfl ?_
    refine zr_lv (lv' := [(0, .ref (E.2.1 31)), (1, .int (0 : Int32))]) [1, 0] rfl ?_
    exact UL_X9_night_72 ok hI g hr hlk _ _ hM
  · replace hM := zw_iff c14 hM
    refine zr_aload_n (q := 58) g 0 dX9_night_57 rfl rfl rfl ?_
    refine zr_getr (q := 61) (k0 := 18) (j := 37) g (hI 31 (by decide)) zs_31 rfl zf_X9_25 dX9_night_58 rfl ?_
    refine zr_iload_n (q := 62) g 1 dX9_night_61 rfl rfl rfl ?_
    refine zr_iconst (q := 63) (v := (0 : Int32)) g dX9_night_62 rfl (by decide) ?_
    obtain ⟨c15, hM⟩ := zw_gd hM
    obtain ⟨h16, e17, hM⟩ := zw_nm_ex hM
    refine zr_iast (q := 64) (h' := h16) g (hI 37 (by decide)) zs_37 c15 dX9_night_63 rfl e17 ?_
    obtain ⟨y18, e19, hM⟩ := zw_nm_ex hM
    refine zr_iinc (q := 67) (v := y18) (lv' := [(1, .int y18), (0, .ref (E.2.1 31))]) g 1 dX9_night_64 rfl rfl (by rw [e19]; rfl) (by decide) rfl ?_
    refine zr_goto (tgt := 51) g dX9_night_67 rfl ?_
    refine zr_lv (lv' := [(0, .ref (E.2.1 31)), (1, .int y18)]) [1, 0] rfl ?_
    exact eL51 _ _ hM
noncomputable def L_X9_night_51 (w : Int32 × zw_Hp) : Option (Int32 × zw_Hp) :=
  zw_it (fun (k51 : (Int32 × zw_Hp) → Option (Int32 × zw_Hp)) (w : Int32 × zw_Hp) => B_X9_night_51 k51 (w.1) (w.2)) 600 w
theorem UL_X9_night_51 (ok : zw_Ok E) (hI : ∀ i, i < 48 → i ∈ E.2.2.1) (g : zw_G p E (zw_A E) s m args c RX9 cX9_night 2) (hr : meth.sig.returnType = some .int) (hlk : meth.locks = false) :
    ∀ (w : Int32 × zw_Hp) (z : Int32 × zw_Hp), L_X9_night_51 w = some z → zw_V p l e s m args below meth c E mt_X9_night 2 (some (.int z.1)) z.2 51 [(0, .ref (E.2.1 31)), (1, .int w.1)] [] w.2 :=
  fun w z hM => zw_it_ind (P := fun (w : Int32 × zw_Hp) (z : Int32 × zw_Hp) => zw_V p l e s m args below meth c E mt_X9_night 2 (some (.int z.1)) z.2 51 [(0, .ref (E.2.1 31)), (1, .int w.1)] [] w.2) (fun k e w z hM => U_X9_night_51 ok hI g hr hlk e _ _ _ hM) 600 w z hM
noncomputable def M_X9_night (h : zw_Hp) : Option (Int32 × zw_Hp) :=
  zw_nm (zw_up h 31 0 (0 : Int32)) (fun h1 => (M_X9_readNight h1).bind (fun z3 => if z3.1 = (-9 : Int32) then (zw_nm (zw_up z3.2 31 4 (z3.2.1 31 11)) (fun h6 => zw_nm (zw_up h6 31 5 (h6.1 31 12)) (fun h8 => zw_nm (zw_up h8 31 6 (h8.1 31 13)) (fun h10 => zw_nm (zw_up h10 31 8 (h10.1 31 15)) (fun h12 => L_X9_night_51 ((0 : Int32), h12)))))) else (some ((-3 : Int32), z3.2))))
set_option maxRecDepth 100000 in
set_option maxHeartbeats 4000000 in
theorem R_X9_night (ok : zw_Ok E) (hI : ∀ i, i < 48 → i ∈ E.2.2.1) {h : zw_Hp} {z : Int32 × zw_Hp} (hM : M_X9_night h = some z) : zw_Ct l E mt_X9_night [.ref (E.2.1 31)] h (some (.int z.1)) z.2 := by
  unfold M_X9_night at hM
  refine zw_ct (lv0 := [(0, .ref (E.2.1 31))]) ok (by decide) rfl (Nat.le_of_ble_eq_true rfl) (fun p e s m args below meth c g hr hlk => ?_)
  replace g : zw_G p E (zw_A E) s m args c RX9 cX9_night 2 := g
  show zw_V p l e s m args below meth c E mt_X9_night 2 (some (.int z.1)) z.2 0 [(0, .ref (E.2.1 31))] [] h
  refine zr_aload_n (q := 1) g 0 dX9_night_0 rfl rfl rfl ?_
  refine zr_iconst (q := 2) (v := (0 : Int32)) g dX9_night_1 rfl (by decide) ?_
  obtain ⟨h1, e2, hM⟩ := zw_nm_ex hM
  refine zr_puti (q := 5) (k0 := 0) (h' := h1) g (hI 31 (by decide)) zs_31 rfl zp_X9_59 dX9_night_2 rfl e2 ?_
  refine zr_aload_n (q := 6) g 0 dX9_night_5 rfl rfl rfl ?_
  obtain ⟨z3, q4, hM⟩ := zw_bd hM
  refine zr_callV (q := 9) (As := []) (rest := []) (st' := [.int z3.1]) (i := 31) g (R_X9_readNight ok hI q4) zv_X9_readNight zl_X9_116 (hI 31 (by decide)) zs_31 zc_X9.1 dX9_night_6 rfl rfl ⟨Nat.le_of_ble_eq_true rfl, Nat.le_of_ble_eq_true rfl⟩ ⟨Nat.zero_le _, Nat.zero_le _⟩ (Nat.le_of_ble_eq_true rfl) rfl rfl ?_
  refine zr_bipush (q := 11) (v := (-9 : Int32)) g dX9_night_9 rfl (by decide) ?_
  refine zr_icmp_eq (q := 14) (tgt := 17) g dX9_night_11 rfl rfl (fun c5 => ?_) (fun c5 => ?_)
  · replace hM := zw_ift c5 hM
    refine zr_aload_n (q := 18) g 0 dX9_night_17 rfl rfl rfl ?_
    refine zr_aload_n (q := 19) g 0 dX9_night_18 rfl rfl rfl ?_
    refine zr_geti (q := 22) (k0 := 11) g (hI 31 (by decide)) zs_31 rfl zf_X9_101 dX9_night_19 rfl ?_
    obtain ⟨h6, e7, hM⟩ := zw_nm_ex hM
    refine zr_puti (q := 25) (k0 := 4) (h' := h6) g (hI 31 (by decide)) zs_31 rfl zp_X9_120 dX9_night_22 rfl e7 ?_
    refine zr_aload_n (q := 26) g 0 dX9_night_25 rfl rfl rfl ?_
    refine zr_aload_n (q := 27) g 0 dX9_night_26 rfl rfl rfl ?_
    refine zr_geti (q := 30) (k0 := 12) g (hI 31 (by decide)) zs_31 rfl zf_X9_104 dX9_night_27 rfl ?_
    obtain ⟨h8, e9, hM⟩ := zw_nm_ex hM
    refine zr_puti (q := 33) (k0 := 5) (h' := h8) g (hI 31 (by decide)) zs_31 rfl zp_X9_123 dX9_night_30 rfl e9 ?_
    refine zr_aload_n (q := 34) g 0 dX9_night_33 rfl rfl rfl ?_
    refine zr_aload_n (q := 35) g 0 dX9_night_34 rfl rfl rfl ?_
    refine zr_geti (q := 38) (k0 := 13) g (hI 31 (by decide)) zs_31 rfl zf_X9_85 dX9_night_35 rfl ?_
    obtain ⟨h10, e11, hM⟩ := zw_nm_ex hM
    refine zr_puti (q := 41) (k0 := 6) (h' := h10) g (hI 31 (by decide)) zs_31 rfl zp_X9_63 dX9_night_38 rfl e11 ?_
    refine zr_aload_n (q := 42) g 0 dX9_night_41 rfl rfl rfl ?_
    refine zr_aload_n (q := 43) g 0 dX9_night_42 rfl rfl rfl ?_
    refine zr_geti (q := 46) (k0 := 15) g (hI 31 (by decide)) zs_31 rfl zf_X9_88 dX9_night_43 rfl ?_
    obtain ⟨h12, e13, hM⟩ := zw_nm_ex hM
    refine zr_puti (q := 49) (k0 := 8) (h' := h12) g (hI 31 (by decide)) zs_31 rfl zp_X9_70 dX9_night_46 rfl e13 ?_
    refine zr_iconst (q := 50) (v := (0 : Int32)) g dX9_night_49 rfl (by decide) ?_
    refine zr_istore_n (q := 51) (lv' := [(1, .int (0 : Int32)), (0, .ref (E.2.1 31))]) g dX9_night_50 rfl rfl (by decide) rfl ?_
    refine zr_lv (lv' := [(0, .ref (E.2.1 31)), (1, .int (0 : Int32))]) [1, 0] rfl ?_
    exact UL_X9_night_51 ok hI g hr hlk _ _ hM
  · replace hM := zw_iff c5 hM
    refine zr_bipush (q := 16) (v := (-3 : Int32)) g dX9_night_14 rfl (by decide) ?_
    cases hM
    exact zr_iret g hr hlk dX9_night_16 rfl rfl
noncomputable def B_X9_heldAt_31 (pp : Nat) (h : zw_Hp) (k6 : (Int32 × Int32 × Int32) → Option (Int32)) (x2 : Int32) (x4 : Int32) (s0 : Int32) : Option (Int32) :=
  zw_nm (x4 + (1 : Int32)) (fun y4 => k6 (x2, s0, y4))
set_option maxRecDepth 100000 in
set_option maxHeartbeats 4000000 in
theorem U_X9_heldAt_31 {pp : Nat} (k_pp : pp = 37 ∨ pp = 38) {h : zw_Hp} (ok : zw_Ok E) (hI : ∀ i, i < 48 → i ∈ E.2.2.1) (g : zw_G p E (zw_A E) s m args c RX9 cX9_heldAt 5) (hr : meth.sig.returnType = some .int) (hlk : meth.locks = false) {k6 : (Int32 × Int32 × Int32) → Option (Int32)} (eL6 : ∀ (w : Int32 × Int32 × Int32) (z : Int32), k6 w = some z → zw_V p l e s m args below meth c E mt_X9_heldAt 5 (some (.int z)) h 6 [(0, .ref (E.2.1 31)), (1, .ref (E.2.1 pp)), (2, .int w.1), (3, .int w.2.1), (4, .int w.2.2)] [] h) :
    ∀ (x2 : Int32) (x4 : Int32) (s0 : Int32) (z : Int32), B_X9_heldAt_31 pp h k6 x2 x4 s0 = some z → zw_V p l e s m args below meth c E mt_X9_heldAt 5 (some (.int z)) h 31 [(0, .ref (E.2.1 31)), (1, .ref (E.2.1 pp)), (2, .int x2), (4, .int x4)] [.int s0] h := by
  intro x2 x4 s0 z hM
  unfold B_X9_heldAt_31 at hM
  refine zr_istore_n (q := 32) (lv' := [(3, .int s0), (0, .ref (E.2.1 31)), (1, .ref (E.2.1 pp)), (2, .int x2), (4, .int x4)]) g dX9_heldAt_31 rfl rfl (by decide) rfl ?_
  obtain ⟨y4, e5, hM⟩ := zw_nm_ex hM
  refine zr_iinc (q := 35) (v := y4) (lv' := [(4, .int y4), (3, .int s0), (0, .ref (E.2.1 31)), (1, .ref (E.2.1 pp)), (2, .int x2)]) g 4 dX9_heldAt_32 rfl rfl (by rw [e5]; rfl) (by decide) rfl ?_
  refine zr_goto (tgt := 6) g dX9_heldAt_35 rfl ?_
  refine zr_lv (lv' := [(0, .ref (E.2.1 31)), (1, .ref (E.2.1 pp)), (2, .int x2), (3, .int s0), (4, .int y4)]) [2, 3, 4, 1, 0] rfl ?_
  exact eL6 _ _ hM
noncomputable def B_X9_heldAt_6 (pp : Nat) (h : zw_Hp) (k6 : (Int32 × Int32 × Int32) → Option (Int32)) (x2 : Int32) (x3 : Int32) (x4 : Int32) : Option (Int32) :=
  if (h.1 31 8) ≤ x4 then (some x3) else (if zw_ok ((5 : Int32) + x4) 21 = true then (if (h.1 pp (((5 : Int32) + x4)).toNatClampNeg) = x2 then (B_X9_heldAt_31 pp h k6 x2 x4 x4) else (B_X9_heldAt_31 pp h k6 x2 x4 x3)) else none)
set_option maxRecDepth 100000 in
set_option maxHeartbeats 4000000 in
theorem U_X9_heldAt_6 {pp : Nat} (k_pp : pp = 37 ∨ pp = 38) {h : zw_Hp} (ok : zw_Ok E) (hI : ∀ i, i < 48 → i ∈ E.2.2.1) (g : zw_G p E (zw_A E) s m args c RX9 cX9_heldAt 5) (hr : meth.sig.returnType = some .int) (hlk : meth.locks = false) {k6 : (Int32 × Int32 × Int32) → Option (Int32)} (eL6 : ∀ (w : Int32 × Int32 × Int32) (z : Int32), k6 w = some z → zw_V p l e s m args below meth c E mt_X9_heldAt 5 (some (.int z)) h 6 [(0, .ref (E.2.1 31)), (1, .ref (E.2.1 pp)), (2, .int w.1), (3, .int w.2.1), (4, .int w.2.2)] [] h) :
    ∀ (x2 : Int32) (x3 : Int32) (x4 : Int32) (z : Int32), B_X9_heldAt_6 pp h k6 x2 x3 x4 = some z → zw_V p l e s m args below meth c E mt_X9_heldAt 5 (some (.int z)) h 6 [(0, .ref (E.2.1 31)), (1, .ref (E.2.1 pp)), (2, .int x2), (3, .int x3), (4, .int x4)] [] h := by
  intro x2 x3 x4 z hM
  unfold B_X9_heldAt_6 at hM
  refine zr_iload (q := 8) g 4 dX9_heldAt_6 rfl rfl ?_
  refine zr_aload_n (q := 9) g 0 dX9_heldAt_8 rfl rfl rfl ?_
  refine zr_geti (q := 12) (k0 := 8) g (hI 31 (by decide)) zs_31 rfl zf_X9_70 dX9_heldAt_9 rfl ?_
  refine zr_icmp_ge (q := 15) (tgt := 38) g dX9_heldAt_12 rfl rfl (fun c1 => ?_) (fun c1 => ?_)
  · replace hM := zw_ift c1 hM
    refine zr_iload_n (q := 39) g 3 dX9_heldAt_38 rfl rfl rfl ?_
    cases hM
    exact zr_iret g hr hlk dX9_heldAt_39 rfl rfl
  · replace hM := zw_iff c1 hM
    refine zr_aload_n (q := 16) g 1 dX9_heldAt_15 rfl rfl rfl ?_
    refine zr_iconst (q := 17) (v := (5 : Int32)) g dX9_heldAt_16 rfl (by decide) ?_
    refine zr_iload (q := 19) g 4 dX9_heldAt_17 rfl rfl ?_
    refine zr_iadd (q := 20) g dX9_heldAt_19 rfl ?_
    obtain ⟨c2, hM⟩ := zw_gd hM
    refine zr_iald (q := 21) g (hI _ (zb_pg0 k_pp)) (zs_pg0 k_pp) c2 dX9_heldAt_20 rfl ?_
    refine zr_iload_n (q := 22) g 2 dX9_heldAt_21 rfl rfl rfl ?_
    refine zr_icmp_ne (q := 25) (tgt := 30) g dX9_heldAt_22 rfl rfl (fun c3 => ?_) (fun c3 => ?_)
    · replace hM := zw_iff c3 hM
      refine zr_iload_n (q := 31) g 3 dX9_heldAt_30 rfl rfl rfl ?_
      refine zr_lv (lv' := [(0, .ref (E.2.1 31)), (1, .ref (E.2.1 pp)), (2, .int x2), (4, .int x4)]) [0, 1, 2, 4] rfl ?_
      exact U_X9_heldAt_31 k_pp ok hI g hr hlk eL6 _ _ _ _ hM
    · replace hM := zw_ift c3 hM
      refine zr_iload (q := 27) g 4 dX9_heldAt_25 rfl rfl ?_
      refine zr_goto (tgt := 31) g dX9_heldAt_27 rfl ?_
      refine zr_lv (lv' := [(0, .ref (E.2.1 31)), (1, .ref (E.2.1 pp)), (2, .int x2), (4, .int x4)]) [0, 1, 2, 4] rfl ?_
      exact U_X9_heldAt_31 k_pp ok hI g hr hlk eL6 _ _ _ _ hM
noncomputable def L_X9_heldAt_6 (pp : Nat) (h : zw_Hp) (w : Int32 × Int32 × Int32) : Option (Int32) :=
  zw_it (fun (k6 : (Int32 × Int32 × Int32) → Option (Int32)) (w : Int32 × Int32 × Int32) => B_X9_heldAt_6 pp h k6 (w.1) (w.2.1) (w.2.2)) 600 w
theorem UL_X9_heldAt_6 {pp : Nat} (k_pp : pp = 37 ∨ pp = 38) {h : zw_Hp} (ok : zw_Ok E) (hI : ∀ i, i < 48 → i ∈ E.2.2.1) (g : zw_G p E (zw_A E) s m args c RX9 cX9_heldAt 5) (hr : meth.sig.returnType = some .int) (hlk : meth.locks = false) :
    ∀ (w : Int32 × Int32 × Int32) (z : Int32), L_X9_heldAt_6 pp h w = some z → zw_V p l e s m args below meth c E mt_X9_heldAt 5 (some (.int z)) h 6 [(0, .ref (E.2.1 31)), (1, .ref (E.2.1 pp)), (2, .int w.1), (3, .int w.2.1), (4, .int w.2.2)] [] h :=
  fun w z hM => zw_it_ind (P := fun (w : Int32 × Int32 × Int32) (z : Int32) => zw_V p l e s m args below meth c E mt_X9_heldAt 5 (some (.int z)) h 6 [(0, .ref (E.2.1 31)), (1, .ref (E.2.1 pp)), (2, .int w.1), (3, .int w.2.1), (4, .int w.2.2)] [] h) (fun k e w z hM => U_X9_heldAt_6 k_pp ok hI g hr hlk e _ _ _ _ hM) 600 w z hM
noncomputable def M_X9_heldAt (pp : Nat) (x2 : Int32) (h : zw_Hp) : Option (Int32) :=
  L_X9_heldAt_6 pp h (x2, (-9 : Int32), (0 : Int32))
set_option maxRecDepth 100000 in
set_option maxHeartbeats 4000000 in
theorem R_X9_heldAt {pp : Nat} (k_pp : pp = 37 ∨ pp = 38) (ok : zw_Ok E) (hI : ∀ i, i < 48 → i ∈ E.2.2.1) {x2 : Int32} {h : zw_Hp} {z : Int32} (hM : M_X9_heldAt pp x2 h = some z) : zw_Ct l E mt_X9_heldAt [.ref (E.2.1 31), .ref (E.2.1 pp), .int x2] h (some (.int z)) h := by
  unfold M_X9_heldAt at hM
  refine zw_ct (lv0 := [(0, .ref (E.2.1 31)), (1, .ref (E.2.1 pp)), (2, .int x2)]) ok (by decide) rfl (Nat.le_of_ble_eq_true rfl) (fun p e s m args below meth c g hr hlk => ?_)
  replace g : zw_G p E (zw_A E) s m args c RX9 cX9_heldAt 5 := g
  show zw_V p l e s m args below meth c E mt_X9_heldAt 5 (some (.int z)) h 0 [(0, .ref (E.2.1 31)), (1, .ref (E.2.1 pp)), (2, .int x2)] [] h
  refine zr_bipush (q := 2) (v := (-9 : Int32)) g dX9_heldAt_0 rfl (by decide) ?_
  refine zr_istore_n (q := 3) (lv' := [(3, .int (-9 : Int32)), (0, .ref (E.2.1 31)), (1, .ref (E.2.1 pp)), (2, .int x2)]) g dX9_heldAt_2 rfl rfl (by decide) rfl ?_
  refine zr_iconst (q := 4) (v := (0 : Int32)) g dX9_heldAt_3 rfl (by decide) ?_
  refine zr_istore (q := 6) (lv' := [(4, .int (0 : Int32)), (3, .int (-9 : Int32)), (0, .ref (E.2.1 31)), (1, .ref (E.2.1 pp)), (2, .int x2)]) g dX9_heldAt_4 rfl (by decide) rfl ?_
  refine zr_lv (lv' := [(0, .ref (E.2.1 31)), (1, .ref (E.2.1 pp)), (2, .int x2), (3, .int (-9 : Int32)), (4, .int (0 : Int32))]) [2, 3, 4, 1, 0] rfl ?_
  exact UL_X9_heldAt_6 k_pp ok hI g hr hlk _ _ hM
noncomputable def M_X9_works (pp : Nat) (x2 : Int32) (x3 : Int32) (h : zw_Hp) : Option (Int32) :=
  if zw_ok x2 21 = true then (zw_nm (h.1 pp (x2).toNatClampNeg) (fun y2 => (M_X9_has x3 y2 h).bind (fun z4 => if z4 = 0 then (some (0 : Int32)) else (if zw_ok y2 5 = true then (if (h.1 33 (y2).toNatClampNeg) = (2 : Int32) then (if zw_ok (20 : Int32) 21 = true then (if ((h.1 pp ((20 : Int32)).toNatClampNeg) - (h.1 pp ((20 : Int32)).toNatClampNeg) / (2 : Int32) * (2 : Int32)) = 0 then (some (1 : Int32)) else (some (0 : Int32))) else none) else (some (1 : Int32))) else none)))) else none
set_option maxRecDepth 100000 in
set_option maxHeartbeats 4000000 in
theorem R_X9_works {pp : Nat} (k_pp : pp = 37 ∨ pp = 38) (ok : zw_Ok E) (hI : ∀ i, i < 48 → i ∈ E.2.2.1) {x2 : Int32} {x3 : Int32} {h : zw_Hp} {z : Int32} (hM : M_X9_works pp x2 x3 h = some z) : zw_Ct l E mt_X9_works [.ref (E.2.1 31), .ref (E.2.1 pp), .int x2, .int x3] h (some (.int z)) h := by
  unfold M_X9_works at hM
  refine zw_ct (lv0 := [(0, .ref (E.2.1 31)), (1, .ref (E.2.1 pp)), (2, .int x2), (3, .int x3)]) ok (by decide) rfl (Nat.le_of_ble_eq_true rfl) (fun p e s m args below meth c g hr hlk => ?_)
  replace g : zw_G p E (zw_A E) s m args c RX9 cX9_works 5 := g
  show zw_V p l e s m args below meth c E mt_X9_works 5 (some (.int z)) h 0 [(0, .ref (E.2.1 31)), (1, .ref (E.2.1 pp)), (2, .int x2), (3, .int x3)] [] h
  refine zr_aload_n (q := 1) g 1 dX9_works_0 rfl rfl rfl ?_
  refine zr_iload_n (q := 2) g 2 dX9_works_1 rfl rfl rfl ?_
  obtain ⟨c1, hM⟩ := zw_gd hM
  refine zr_iald (q := 3) g (hI _ (zb_pg0 k_pp)) (zs_pg0 k_pp) c1 dX9_works_2 rfl ?_
  obtain ⟨y2, e3, hM⟩ := zw_nm_ex hM
  refine zr_nmi e3 ?_
  refine zr_istore (q := 5) (lv' := [(4, .int y2), (0, .ref (E.2.1 31)), (1, .ref (E.2.1 pp)), (2, .int x2), (3, .int x3)]) g dX9_works_3 rfl (by decide) rfl ?_
  refine zr_iload_n (q := 6) g 4 dX9_works_5 rfl rfl rfl ?_
  refine zr_iload (q := 8) g 0 dX9_works_6 rfl rfl ?_
  obtain ⟨z4, q5, hM⟩ := zw_bd hM
  refine zr_callS (q := 11) (As := [.int x3, .int y2]) (rest := []) (st' := [.int z4]) g (R_X9_has ok hI q5) zv_X9_has zl_X9_129 dX9_works_8 rfl rfl ⟨Nat.le_of_ble_eq_true rfl, Nat.le_of_ble_eq_true rfl⟩ ⟨Nat.zero_le _, Nat.zero_le _⟩ (Nat.le_of_ble_eq_true rfl) rfl rfl ?_
  refine zr_if_eq (q := 14) (tgt := 38) g dX9_works_11 rfl rfl (fun c6 => ?_) (fun c6 => ?_)
  · replace hM := zw_ift c6 hM
    refine zr_iconst (q := 39) (v := (0 : Int32)) g dX9_works_38 rfl (by decide) ?_
    cases hM
    exact zr_zret g hr hlk (by decide) dX9_works_39 rfl rfl
  · replace hM := zw_iff c6 hM
    refine zr_aload_n (q := 15) g 1 dX9_works_14 rfl rfl rfl ?_
    refine zr_getr (q := 18) (k0 := 7) (j := 33) g (hI 31 (by decide)) zs_31 rfl zf_X9_13 dX9_works_15 rfl ?_
    refine zr_iload (q := 20) g 0 dX9_works_18 rfl rfl ?_
    obtain ⟨c7, hM⟩ := zw_gd hM
    refine zr_iald (q := 21) g (hI 33 (by decide)) zs_33 c7 dX9_works_20 rfl ?_
    refine zr_iconst (q := 22) (v := (2 : Int32)) g dX9_works_21 rfl (by decide) ?_
    refine zr_icmp_ne (q := 25) (tgt := 34) g dX9_works_22 rfl rfl (fun c8 => ?_) (fun c8 => ?_)
    · replace hM := zw_iff c8 hM
      refine zr_iconst (q := 35) (v := (1 : Int32)) g dX9_works_34 rfl (by decide) ?_
      refine zr_goto (tgt := 39) g dX9_works_35 rfl ?_
      cases hM
      exact zr_zret g hr hlk (by decide) dX9_works_39 rfl rfl
    · replace hM := zw_ift c8 hM
      refine zr_aload_n (q := 26) g 2 dX9_works_25 rfl rfl rfl ?_
      refine zr_bipush (q := 28) (v := (20 : Int32)) g dX9_works_26 rfl (by decide) ?_
      obtain ⟨c9, hM⟩ := zw_gd hM
      refine zr_iald (q := 29) g (hI _ (zb_pg0 k_pp)) (zs_pg0 k_pp) c9 dX9_works_28 rfl ?_
      refine zr_iconst (q := 30) (v := (2 : Int32)) g dX9_works_29 rfl (by decide) ?_
      refine zr_irem (q := 31) g dX9_works_30 rfl (by decide) ?_
      refine zr_if_ne (q := 34) (tgt := 38) g dX9_works_31 rfl rfl (fun c10 => ?_) (fun c10 => ?_)
      · replace hM := zw_iff c10 hM
        refine zr_iconst (q := 39) (v := (0 : Int32)) g dX9_works_38 rfl (by decide) ?_
        cases hM
        exact zr_zret g hr hlk (by decide) dX9_works_39 rfl rfl
      · replace hM := zw_ift c10 hM
        refine zr_iconst (q := 35) (v := (1 : Int32)) g dX9_works_34 rfl (by decide) ?_
        refine zr_goto (tgt := 39) g dX9_works_35 rfl ?_
        cases hM
        exact zr_zret g hr hlk (by decide) dX9_works_39 rfl rfl
noncomputable def M_X9_isChild (pp : Nat) (x2 : Int32) (h : zw_Hp) : Option (Int32) :=
  if zw_ok x2 21 = true then (if zw_ok (h.1 pp (x2).toNatClampNeg) 5 = true then (if (h.1 33 ((h.1 pp (x2).toNatClampNeg)).toNatClampNeg) = (3 : Int32) then (some (1 : Int32)) else (some (0 : Int32))) else none) else none
set_option maxRecDepth 100000 in
set_option maxHeartbeats 4000000 in
theorem R_X9_isChild {pp : Nat} (k_pp : pp = 37 ∨ pp = 38) (ok : zw_Ok E) (hI : ∀ i, i < 48 → i ∈ E.2.2.1) {x2 : Int32} {h : zw_Hp} {z : Int32} (hM : M_X9_isChild pp x2 h = some z) : zw_Ct l E mt_X9_isChild [.ref (E.2.1 31), .ref (E.2.1 pp), .int x2] h (some (.int z)) h := by
  unfold M_X9_isChild at hM
  refine zw_ct (lv0 := [(0, .ref (E.2.1 31)), (1, .ref (E.2.1 pp)), (2, .int x2)]) ok (by decide) rfl (Nat.le_of_ble_eq_true rfl) (fun p e s m args below meth c g hr hlk => ?_)
  replace g : zw_G p E (zw_A E) s m args c RX9 cX9_isChild 3 := g
  show zw_V p l e s m args below meth c E mt_X9_isChild 3 (some (.int z)) h 0 [(0, .ref (E.2.1 31)), (1, .ref (E.2.1 pp)), (2, .int x2)] [] h
  refine zr_aload_n (q := 1) g 0 dX9_isChild_0 rfl rfl rfl ?_
  refine zr_getr (q := 4) (k0 := 7) (j := 33) g (hI 31 (by decide)) zs_31 rfl zf_X9_13 dX9_isChild_1 rfl ?_
  refine zr_aload_n (q := 5) g 1 dX9_isChild_4 rfl rfl rfl ?_
  refine zr_iload_n (q := 6) g 2 dX9_isChild_5 rfl rfl rfl ?_
  obtain ⟨c1, hM⟩ := zw_gd hM
  refine zr_iald (q := 7) g (hI _ (zb_pg0 k_pp)) (zs_pg0 k_pp) c1 dX9_isChild_6 rfl ?_
  obtain ⟨c2, hM⟩ := zw_gd hM
  refine zr_iald (q := 8) g (hI 33 (by decide)) zs_33 c2 dX9_isChild_7 rfl ?_
  refine zr_iconst (q := 9) (v := (3 : Int32)) g dX9_isChild_8 rfl (by decide) ?_
  refine zr_icmp_ne (q := 12) (tgt := 16) g dX9_isChild_9 rfl rfl (fun c3 => ?_) (fun c3 => ?_)
  · replace hM := zw_iff c3 hM
    refine zr_iconst (q := 17) (v := (0 : Int32)) g dX9_isChild_16 rfl (by decide) ?_
    cases hM
    exact zr_zret g hr hlk (by decide) dX9_isChild_17 rfl rfl
  · replace hM := zw_ift c3 hM
    refine zr_iconst (q := 13) (v := (1 : Int32)) g dX9_isChild_12 rfl (by decide) ?_
    refine zr_goto (tgt := 17) g dX9_isChild_13 rfl ?_
    cases hM
    exact zr_zret g hr hlk (by decide) dX9_isChild_17 rfl rfl
noncomputable def B_X9_sendBack_35 (pp : Nat) (s0 : Int32) (s1 : Int32) (h : zw_Hp) : Option (zw_Hp) :=
  if zw_ok s1 21 = true then zw_nm (zw_up h pp (s1).toNatClampNeg s0) (fun h9 => some h9) else none
set_option maxRecDepth 100000 in
set_option maxHeartbeats 4000000 in
theorem U_X9_sendBack_35 {pp : Nat} (k_pp : pp = 37 ∨ pp = 38) (ok : zw_Ok E) (hI : ∀ i, i < 48 → i ∈ E.2.2.1) (g : zw_G p E (zw_A E) s m args c RX9 cX9_sendBack 3) (hr : meth.sig.returnType = none) (hlk : meth.locks = false) :
    ∀ (s0 : Int32) (s1 : Int32) (h : zw_Hp) (z : zw_Hp), B_X9_sendBack_35 pp s0 s1 h = some z → zw_V p l e s m args below meth c E mt_X9_sendBack 3 none z 35 [] [.int s0, .int s1, .ref (E.2.1 pp)] h := by
  intro s0 s1 h z hM
  unfold B_X9_sendBack_35 at hM
  obtain ⟨c8, hM⟩ := zw_gd hM
  obtain ⟨h9, e10, hM⟩ := zw_nm_ex hM
  refine zr_iast (q := 36) (h' := h9) g (hI _ (zb_pg0 k_pp)) (zs_pg0 k_pp) c8 dX9_sendBack_35 rfl e10 ?_
  cases hM
  exact zr_vret g hr hlk dX9_sendBack_36 rfl rfl
noncomputable def M_X9_sendBack (pp : Nat) (x2 : Int32) (h : zw_Hp) : Option (zw_Hp) :=
  if zw_ok ((9 : Int32) + x2) 21 = true then zw_nm (zw_up h pp (((9 : Int32) + x2)).toNatClampNeg (0 : Int32)) (fun h2 => if zw_ok ((13 : Int32) + x2) 21 = true then zw_nm (zw_up h2 pp (((13 : Int32) + x2)).toNatClampNeg (h2.1 31 5)) (fun h5 => if (h5.1 31 5) = 0 then (B_X9_sendBack_35 pp (8 : Int32) ((5 : Int32) + x2) h5) else (B_X9_sendBack_35 pp (9 : Int32) ((5 : Int32) + x2) h5)) else none) else none
set_option maxRecDepth 100000 in
set_option maxHeartbeats 4000000 in
theorem R_X9_sendBack {pp : Nat} (k_pp : pp = 37 ∨ pp = 38) (ok : zw_Ok E) (hI : ∀ i, i < 48 → i ∈ E.2.2.1) {x2 : Int32} {h : zw_Hp} {z : zw_Hp} (hM : M_X9_sendBack pp x2 h = some z) : zw_Ct l E mt_X9_sendBack [.ref (E.2.1 31), .ref (E.2.1 pp), .int x2] h none z := by
  unfold M_X9_sendBack at hM
  refine zw_ct (lv0 := [(0, .ref (E.2.1 31)), (1, .ref (E.2.1 pp)), (2, .int x2)]) ok (by decide) rfl (Nat.le_of_ble_eq_true rfl) (fun p e s m args below meth c g hr hlk => ?_)
  replace g : zw_G p E (zw_A E) s m args c RX9 cX9_sendBack 3 := g
  show zw_V p l e s m args below meth c E mt_X9_sendBack 3 none z 0 [(0, .ref (E.2.1 31)), (1, .ref (E.2.1 pp)), (2, .int x2)] [] h
  refine zr_aload_n (q := 1) g 1 dX9_sendBack_0 rfl rfl rfl ?_
  refine zr_bipush (q := 3) (v := (9 : Int32)) g dX9_sendBack_1 rfl (by decide) ?_
  refine zr_iload_n (q := 4) g 2 dX9_sendBack_3 rfl rfl rfl ?_
  refine zr_iadd (q := 5) g dX9_sendBack_4 rfl ?_
  refine zr_iconst (q := 6) (v := (0 : Int32)) g dX9_sendBack_5 rfl (by decide) ?_
  obtain ⟨c1, hM⟩ := zw_gd hM
  obtain ⟨h2, e3, hM⟩ := zw_nm_ex hM
  refine zr_iast (q := 7) (h' := h2) g (hI _ (zb_pg0 k_pp)) (zs_pg0 k_pp) c1 dX9_sendBack_6 rfl e3 ?_
  refine zr_aload_n (q := 8) g 1 dX9_sendBack_7 rfl rfl rfl ?_
  refine zr_bipush (q := 10) (v := (13 : Int32)) g dX9_sendBack_8 rfl (by decide) ?_
  refine zr_iload_n (q := 11) g 2 dX9_sendBack_10 rfl rfl rfl ?_
  refine zr_iadd (q := 12) g dX9_sendBack_11 rfl ?_
  refine zr_aload_n (q := 13) g 0 dX9_sendBack_12 rfl rfl rfl ?_
  refine zr_geti (q := 16) (k0 := 5) g (hI 31 (by decide)) zs_31 rfl zf_X9_123 dX9_sendBack_13 rfl ?_
  obtain ⟨c4, hM⟩ := zw_gd hM
  obtain ⟨h5, e6, hM⟩ := zw_nm_ex hM
  refine zr_iast (q := 17) (h' := h5) g (hI _ (zb_pg0 k_pp)) (zs_pg0 k_pp) c4 dX9_sendBack_16 rfl e6 ?_
  refine zr_aload_n (q := 18) g 1 dX9_sendBack_17 rfl rfl rfl ?_
  refine zr_iconst (q := 19) (v := (5 : Int32)) g dX9_sendBack_18 rfl (by decide) ?_
  refine zr_iload_n (q := 20) g 2 dX9_sendBack_19 rfl rfl rfl ?_
  refine zr_iadd (q := 21) g dX9_sendBack_20 rfl ?_
  refine zr_aload_n (q := 22) g 0 dX9_sendBack_21 rfl rfl rfl ?_
  refine zr_geti (q := 25) (k0 := 5) g (hI 31 (by decide)) zs_31 rfl zf_X9_123 dX9_sendBack_22 rfl ?_
  refine zr_if_ne (q := 28) (tgt := 33) g dX9_sendBack_25 rfl rfl (fun c7 => ?_) (fun c7 => ?_)
  · replace hM := zw_iff c7 hM
    refine zr_bipush (q := 35) (v := (9 : Int32)) g dX9_sendBack_33 rfl (by decide) ?_
    refine zr_lv (lv' := []) [] rfl ?_
    exact U_X9_sendBack_35 k_pp ok hI g hr hlk _ _ _ _ hM
  · replace hM := zw_ift c7 hM
    refine zr_bipush (q := 30) (v := (8 : Int32)) g dX9_sendBack_28 rfl (by decide) ?_
    refine zr_goto (tgt := 35) g dX9_sendBack_30 rfl ?_
    refine zr_lv (lv' := []) [] rfl ?_
    exact U_X9_sendBack_35 k_pp ok hI g hr hlk _ _ _ _ hM
noncomputable def B_X9_throwsIt_79 (pp : Nat) (x3 : Int32) (x4 : Int32) (s0 : Int32) (s1 : Int32) (h : zw_Hp) : Option (Int32 × zw_Hp) :=
  if zw_ok s1 21 = true then zw_nm (zw_up h pp (s1).toNatClampNeg s0) (fun h15 => if zw_ok (19 : Int32) 21 = true then (if zw_ok (19 : Int32) 21 = true then zw_nm (zw_up h15 pp ((19 : Int32)).toNatClampNeg ((h15.1 pp ((19 : Int32)).toNatClampNeg) + x4)) (fun h19 => if zw_ok ((5 : Int32) + x3) 21 = true then zw_nm (zw_up h19 pp (((5 : Int32) + x3)).toNatClampNeg (7 : Int32)) (fun h22 => some (x3, h22)) else none) else none) else none) else none
set_option maxRecDepth 100000 in
set_option maxHeartbeats 4000000 in
theorem U_X9_throwsIt_79 {pp : Nat} (k_pp : pp = 37 ∨ pp = 38) (ok : zw_Ok E) (hI : ∀ i, i < 48 → i ∈ E.2.2.1) (g : zw_G p E (zw_A E) s m args c RX9 cX9_throwsIt 5) (hr : meth.sig.returnType = some .int) (hlk : meth.locks = false) :
    ∀ (x3 : Int32) (x4 : Int32) (s0 : Int32) (s1 : Int32) (h : zw_Hp) (z : Int32 × zw_Hp), B_X9_throwsIt_79 pp x3 x4 s0 s1 h = some z → zw_V p l e s m args below meth c E mt_X9_throwsIt 5 (some (.int z.1)) z.2 79 [(1, .ref (E.2.1 pp)), (3, .int x3), (4, .int x4)] [.int s0, .int s1, .ref (E.2.1 pp)] h := by
  intro x3 x4 s0 s1 h z hM
  unfold B_X9_throwsIt_79 at hM
  obtain ⟨c14, hM⟩ := zw_gd hM
  obtain ⟨h15, e16, hM⟩ := zw_nm_ex hM
  refine zr_iast (q := 80) (h' := h15) g (hI _ (zb_pg0 k_pp)) (zs_pg0 k_pp) c14 dX9_throwsIt_79 rfl e16 ?_
  refine zr_aload_n (q := 81) g 0 dX9_throwsIt_80 rfl rfl rfl ?_
  refine zr_bipush (q := 83) (v := (19 : Int32)) g dX9_throwsIt_81 rfl (by decide) ?_
  refine zr_dup2 (q := 84) g dX9_throwsIt_83 rfl rfl rfl ?_
  obtain ⟨c17, hM⟩ := zw_gd hM
  refine zr_iald (q := 85) g (hI _ (zb_pg0 k_pp)) (zs_pg0 k_pp) c17 dX9_throwsIt_84 rfl ?_
  refine zr_iload (q := 87) g 2 dX9_throwsIt_85 rfl rfl ?_
  refine zr_iadd (q := 88) g dX9_throwsIt_87 rfl ?_
  obtain ⟨c18, hM⟩ := zw_gd hM
  obtain ⟨h19, e20, hM⟩ := zw_nm_ex hM
  refine zr_iast (q := 89) (h' := h19) g (hI _ (zb_pg0 k_pp)) (zs_pg0 k_pp) c18 dX9_throwsIt_88 rfl e20 ?_
  refine zr_aload_n (q := 90) g 0 dX9_throwsIt_89 rfl rfl rfl ?_
  refine zr_iconst (q := 91) (v := (5 : Int32)) g dX9_throwsIt_90 rfl (by decide) ?_
  refine zr_iload_n (q := 92) g 1 dX9_throwsIt_91 rfl rfl rfl ?_
  refine zr_iadd (q := 93) g dX9_throwsIt_92 rfl ?_
  refine zr_bipush (q := 95) (v := (7 : Int32)) g dX9_throwsIt_93 rfl (by decide) ?_
  obtain ⟨c21, hM⟩ := zw_gd hM
  obtain ⟨h22, e23, hM⟩ := zw_nm_ex hM
  refine zr_iast (q := 96) (h' := h22) g (hI _ (zb_pg0 k_pp)) (zs_pg0 k_pp) c21 dX9_throwsIt_95 rfl e23 ?_
  refine zr_iload_n (q := 97) g 1 dX9_throwsIt_96 rfl rfl rfl ?_
  cases hM
  exact zr_iret g hr hlk dX9_throwsIt_97 rfl rfl
noncomputable def B_X9_throwsIt_23 (pp : Nat) (x2 : Int32) (s0 : Int32) (h : zw_Hp) : Option (Int32 × zw_Hp) :=
  if s0 = (-9 : Int32) then (some ((-9 : Int32), h)) else ((M_X9_works pp ((h.1 31 6) - (1 : Int32)) x2 h).bind (fun z5 => if z5 = 0 then (some ((-9 : Int32), h)) else (if zw_ok ((9 : Int32) + s0) 21 = true then (zw_nm (h.1 pp (((9 : Int32) + s0)).toNatClampNeg) (fun y9 => if zw_ok (18 : Int32) 21 = true then (if (h.1 pp ((18 : Int32)).toNatClampNeg) ≤ y9 then (B_X9_throwsIt_79 pp s0 y9 (0 : Int32) (18 : Int32) h) else (if zw_ok (18 : Int32) 21 = true then (B_X9_throwsIt_79 pp s0 y9 ((h.1 pp ((18 : Int32)).toNatClampNeg) - y9) (18 : Int32) h) else none)) else none)) else none)))
set_option maxRecDepth 100000 in
set_option maxHeartbeats 4000000 in
theorem U_X9_throwsIt_23 {pp : Nat} (k_pp : pp = 37 ∨ pp = 38) (ok : zw_Ok E) (hI : ∀ i, i < 48 → i ∈ E.2.2.1) (g : zw_G p E (zw_A E) s m args c RX9 cX9_throwsIt 5) (hr : meth.sig.returnType = some .int) (hlk : meth.locks = false) :
    ∀ (x2 : Int32) (s0 : Int32) (h : zw_Hp) (z : Int32 × zw_Hp), B_X9_throwsIt_23 pp x2 s0 h = some z → zw_V p l e s m args below meth c E mt_X9_throwsIt 5 (some (.int z.1)) z.2 23 [(0, .ref (E.2.1 31)), (1, .ref (E.2.1 pp)), (2, .int x2)] [.int s0] h := by
  intro x2 s0 h z hM
  unfold B_X9_throwsIt_23 at hM
  refine zr_istore_n (q := 24) (lv' := [(3, .int s0), (0, .ref (E.2.1 31)), (1, .ref (E.2.1 pp)), (2, .int x2)]) g dX9_throwsIt_23 rfl rfl (by decide) rfl ?_
  refine zr_iload_n (q := 25) g 0 dX9_throwsIt_24 rfl rfl rfl ?_
  refine zr_bipush (q := 27) (v := (-9 : Int32)) g dX9_throwsIt_25 rfl (by decide) ?_
  refine zr_icmp_eq (q := 30) (tgt := 45) g dX9_throwsIt_27 rfl rfl (fun c4 => ?_) (fun c4 => ?_)
  · replace hM := zw_ift c4 hM
    refine zr_bipush (q := 47) (v := (-9 : Int32)) g dX9_throwsIt_45 rfl (by decide) ?_
    cases hM
    exact zr_iret g hr hlk dX9_throwsIt_47 rfl rfl
  · replace hM := zw_iff c4 hM
    refine zr_aload_n (q := 31) g 1 dX9_throwsIt_30 rfl rfl rfl ?_
    refine zr_aload_n (q := 32) g 2 dX9_throwsIt_31 rfl rfl rfl ?_
    refine zr_aload_n (q := 33) g 1 dX9_throwsIt_32 rfl rfl rfl ?_
    refine zr_geti (q := 36) (k0 := 6) g (hI 31 (by decide)) zs_31 rfl zf_X9_63 dX9_throwsIt_33 rfl ?_
    refine zr_iconst (q := 37) (v := (1 : Int32)) g dX9_throwsIt_36 rfl (by decide) ?_
    refine zr_isub (q := 38) g dX9_throwsIt_37 rfl ?_
    refine zr_iload_n (q := 39) g 3 dX9_throwsIt_38 rfl rfl rfl ?_
    obtain ⟨z5, q6, hM⟩ := zw_bd hM
    refine zr_callV (q := 42) (As := [.ref (E.2.1 pp), .int ((h.1 31 6) - (1 : Int32)), .int x2]) (rest := []) (st' := [.int z5]) (i := 31) g (R_X9_works k_pp ok hI q6) zv_X9_works zl_X9_137 (hI 31 (by decide)) zs_31 zc_X9.1 dX9_throwsIt_39 rfl rfl ⟨Nat.le_of_ble_eq_true rfl, Nat.le_of_ble_eq_true rfl⟩ ⟨Nat.zero_le _, Nat.zero_le _⟩ (Nat.le_of_ble_eq_true rfl) rfl rfl ?_
    refine zr_if_ne (q := 45) (tgt := 48) g dX9_throwsIt_42 rfl rfl (fun c7 => ?_) (fun c7 => ?_)
    · replace hM := zw_iff c7 hM
      refine zr_aload_n (q := 49) g 2 dX9_throwsIt_48 rfl rfl rfl ?_
      refine zr_bipush (q := 51) (v := (9 : Int32)) g dX9_throwsIt_49 rfl (by decide) ?_
      refine zr_iload_n (q := 52) g 0 dX9_throwsIt_51 rfl rfl rfl ?_
      refine zr_iadd (q := 53) g dX9_throwsIt_52 rfl ?_
      obtain ⟨c8, hM⟩ := zw_gd hM
      refine zr_iald (q := 54) g (hI _ (zb_pg0 k_pp)) (zs_pg0 k_pp) c8 dX9_throwsIt_53 rfl ?_
      obtain ⟨y9, e10, hM⟩ := zw_nm_ex hM
      refine zr_nmi e10 ?_
      refine zr_istore (q := 56) (lv' := [(4, .int y9), (3, .int s0), (0, .ref (E.2.1 31)), (1, .ref (E.2.1 pp)), (2, .int x2)]) g dX9_throwsIt_54 rfl (by decide) rfl ?_
      refine zr_aload_n (q := 57) g 3 dX9_throwsIt_56 rfl rfl rfl ?_
      refine zr_bipush (q := 59) (v := (18 : Int32)) g dX9_throwsIt_57 rfl (by decide) ?_
      refine zr_aload_n (q := 60) g 3 dX9_throwsIt_59 rfl rfl rfl ?_
      refine zr_bipush (q := 62) (v := (18 : Int32)) g dX9_throwsIt_60 rfl (by decide) ?_
      obtain ⟨c11, hM⟩ := zw_gd hM
      refine zr_iald (q := 63) g (hI _ (zb_pg0 k_pp)) (zs_pg0 k_pp) c11 dX9_throwsIt_62 rfl ?_
      refine zr_iload (q := 65) g 0 dX9_throwsIt_63 rfl rfl ?_
      refine zr_icmp_le (q := 68) (tgt := 78) g dX9_throwsIt_65 rfl rfl (fun c12 => ?_) (fun c12 => ?_)
      · replace hM := zw_ift c12 hM
        refine zr_iconst (q := 79) (v := (0 : Int32)) g dX9_throwsIt_78 rfl (by decide) ?_
        refine zr_lv (lv' := [(1, .ref (E.2.1 pp)), (3, .int s0), (4, .int y9)]) [3, 1, 0] rfl ?_
        exact U_X9_throwsIt_79 k_pp ok hI g hr hlk _ _ _ _ _ _ hM
      · replace hM := zw_iff c12 hM
        refine zr_aload_n (q := 69) g 3 dX9_throwsIt_68 rfl rfl rfl ?_
        refine zr_bipush (q := 71) (v := (18 : Int32)) g dX9_throwsIt_69 rfl (by decide) ?_
        obtain ⟨c13, hM⟩ := zw_gd hM
        refine zr_iald (q := 72) g (hI _ (zb_pg0 k_pp)) (zs_pg0 k_pp) c13 dX9_throwsIt_71 rfl ?_
        refine zr_iload (q := 74) g 0 dX9_throwsIt_72 rfl rfl ?_
        refine zr_isub (q := 75) g dX9_throwsIt_74 rfl ?_
        refine zr_goto (tgt := 79) g dX9_throwsIt_75 rfl ?_
        refine zr_lv (lv' := [(1, .ref (E.2.1 pp)), (3, .int s0), (4, .int y9)]) [3, 1, 0] rfl ?_
        exact U_X9_throwsIt_79 k_pp ok hI g hr hlk _ _ _ _ _ _ hM
    · replace hM := zw_ift c7 hM
      refine zr_bipush (q := 47) (v := (-9 : Int32)) g dX9_throwsIt_45 rfl (by decide) ?_
      cases hM
      exact zr_iret g hr hlk dX9_throwsIt_47 rfl rfl
noncomputable def M_X9_throwsIt (pp : Nat) (x2 : Int32) (h : zw_Hp) : Option (Int32 × zw_Hp) :=
  if (h.1 31 6) = 0 then (B_X9_throwsIt_23 pp x2 (-9 : Int32) h) else ((M_X9_heldAt pp ((h.1 31 6) - (1 : Int32)) h).bind (fun z2 => B_X9_throwsIt_23 pp x2 z2 h))
set_option maxRecDepth 100000 in
set_option maxHeartbeats 4000000 in
theorem R_X9_throwsIt {pp : Nat} (k_pp : pp = 37 ∨ pp = 38) (ok : zw_Ok E) (hI : ∀ i, i < 48 → i ∈ E.2.2.1) {x2 : Int32} {h : zw_Hp} {z : Int32 × zw_Hp} (hM : M_X9_throwsIt pp x2 h = some z) : zw_Ct l E mt_X9_throwsIt [.ref (E.2.1 31), .ref (E.2.1 pp), .int x2] h (some (.int z.1)) z.2 := by
  unfold M_X9_throwsIt at hM
  refine zw_ct (lv0 := [(0, .ref (E.2.1 31)), (1, .ref (E.2.1 pp)), (2, .int x2)]) ok (by decide) rfl (Nat.le_of_ble_eq_true rfl) (fun p e s m args below meth c g hr hlk => ?_)
  replace g : zw_G p E (zw_A E) s m args c RX9 cX9_throwsIt 5 := g
  show zw_V p l e s m args below meth c E mt_X9_throwsIt 5 (some (.int z.1)) z.2 0 [(0, .ref (E.2.1 31)), (1, .ref (E.2.1 pp)), (2, .int x2)] [] h
  refine zr_aload_n (q := 1) g 0 dX9_throwsIt_0 rfl rfl rfl ?_
  refine zr_geti (q := 4) (k0 := 6) g (hI 31 (by decide)) zs_31 rfl zf_X9_63 dX9_throwsIt_1 rfl ?_
  refine zr_if_ne (q := 7) (tgt := 12) g dX9_throwsIt_4 rfl rfl (fun c1 => ?_) (fun c1 => ?_)
  · replace hM := zw_iff c1 hM
    refine zr_aload_n (q := 13) g 0 dX9_throwsIt_12 rfl rfl rfl ?_
    refine zr_aload_n (q := 14) g 1 dX9_throwsIt_13 rfl rfl rfl ?_
    refine zr_aload_n (q := 15) g 0 dX9_throwsIt_14 rfl rfl rfl ?_
    refine zr_geti (q := 18) (k0 := 6) g (hI 31 (by decide)) zs_31 rfl zf_X9_63 dX9_throwsIt_15 rfl ?_
    refine zr_iconst (q := 19) (v := (1 : Int32)) g dX9_throwsIt_18 rfl (by decide) ?_
    refine zr_isub (q := 20) g dX9_throwsIt_19 rfl ?_
    obtain ⟨z2, q3, hM⟩ := zw_bd hM
    refine zr_callV (q := 23) (As := [.ref (E.2.1 pp), .int ((h.1 31 6) - (1 : Int32))]) (rest := []) (st' := [.int z2]) (i := 31) g (R_X9_heldAt k_pp ok hI q3) zv_X9_heldAt zl_X9_133 (hI 31 (by decide)) zs_31 zc_X9.1 dX9_throwsIt_20 rfl rfl ⟨Nat.le_of_ble_eq_true rfl, Nat.le_of_ble_eq_true rfl⟩ ⟨Nat.zero_le _, Nat.zero_le _⟩ (Nat.le_of_ble_eq_true rfl) rfl rfl ?_
    exact U_X9_throwsIt_23 k_pp ok hI g hr hlk _ _ _ _ hM
  · replace hM := zw_ift c1 hM
    refine zr_bipush (q := 9) (v := (-9 : Int32)) g dX9_throwsIt_7 rfl (by decide) ?_
    refine zr_goto (tgt := 23) g dX9_throwsIt_9 rfl ?_
    exact U_X9_throwsIt_23 k_pp ok hI g hr hlk _ _ _ _ hM
noncomputable def B_X9_handOn_104 (pp : Nat) (x2 : Int32) (x4 : Int32) (s0 : Int32) (s1 : Int32) (h : zw_Hp) : Option (zw_Hp) :=
  if zw_ok s1 21 = true then zw_nm (zw_up h pp (s1).toNatClampNeg s0) (fun h24 => if zw_ok ((5 : Int32) + x4) 21 = true then zw_nm (zw_up h24 pp (((5 : Int32) + x4)).toNatClampNeg (x2 + (1 : Int32))) (fun h27 => some h27) else none) else none
set_option maxRecDepth 100000 in
set_option maxHeartbeats 4000000 in
theorem U_X9_handOn_104 {pp : Nat} (k_pp : pp = 37 ∨ pp = 38) (ok : zw_Ok E) (hI : ∀ i, i < 48 → i ∈ E.2.2.1) (g : zw_G p E (zw_A E) s m args c RX9 cX9_handOn 6) (hr : meth.sig.returnType = none) (hlk : meth.locks = false) :
    ∀ (x2 : Int32) (x4 : Int32) (s0 : Int32) (s1 : Int32) (h : zw_Hp) (z : zw_Hp), B_X9_handOn_104 pp x2 x4 s0 s1 h = some z → zw_V p l e s m args below meth c E mt_X9_handOn 6 none z 104 [(1, .ref (E.2.1 pp)), (2, .int x2), (4, .int x4)] [.int s0, .int s1, .ref (E.2.1 pp)] h := by
  intro x2 x4 s0 s1 h z hM
  unfold B_X9_handOn_104 at hM
  obtain ⟨c23, hM⟩ := zw_gd hM
  obtain ⟨h24, e25, hM⟩ := zw_nm_ex hM
  refine zr_iast (q := 105) (h' := h24) g (hI _ (zb_pg0 k_pp)) (zs_pg0 k_pp) c23 dX9_handOn_104 rfl e25 ?_
  refine zr_aload_n (q := 106) g 0 dX9_handOn_105 rfl rfl rfl ?_
  refine zr_iconst (q := 107) (v := (5 : Int32)) g dX9_handOn_106 rfl (by decide) ?_
  refine zr_iload (q := 109) g 2 dX9_handOn_107 rfl rfl ?_
  refine zr_iadd (q := 110) g dX9_handOn_109 rfl ?_
  refine zr_iload_n (q := 111) g 1 dX9_handOn_110 rfl rfl rfl ?_
  refine zr_iconst (q := 112) (v := (1 : Int32)) g dX9_handOn_111 rfl (by decide) ?_
  refine zr_iadd (q := 113) g dX9_handOn_112 rfl ?_
  obtain ⟨c26, hM⟩ := zw_gd hM
  obtain ⟨h27, e28, hM⟩ := zw_nm_ex hM
  refine zr_iast (q := 114) (h' := h27) g (hI _ (zb_pg0 k_pp)) (zs_pg0 k_pp) c26 dX9_handOn_113 rfl e28 ?_
  cases hM
  exact zr_vret g hr hlk dX9_handOn_114 rfl rfl
noncomputable def B_X9_handOn_102 (pp : Nat) (x2 : Int32) (x4 : Int32) (x5 : Int32) (s0 : Int32) (h : zw_Hp) : Option (zw_Hp) :=
  B_X9_handOn_104 pp x2 x4 x5 s0 h
set_option maxRecDepth 100000 in
set_option maxHeartbeats 4000000 in
theorem U_X9_handOn_102 {pp : Nat} (k_pp : pp = 37 ∨ pp = 38) (ok : zw_Ok E) (hI : ∀ i, i < 48 → i ∈ E.2.2.1) (g : zw_G p E (zw_A E) s m args c RX9 cX9_handOn 6) (hr : meth.sig.returnType = none) (hlk : meth.locks = false) :
    ∀ (x2 : Int32) (x4 : Int32) (x5 : Int32) (s0 : Int32) (h : zw_Hp) (z : zw_Hp), B_X9_handOn_102 pp x2 x4 x5 s0 h = some z → zw_V p l e s m args below meth c E mt_X9_handOn 6 none z 102 [(1, .ref (E.2.1 pp)), (2, .int x2), (4, .int x4), (5, .int x5)] [.int s0, .ref (E.2.1 pp)] h := by
  intro x2 x4 x5 s0 h z hM
  unfold B_X9_handOn_102 at hM
  refine zr_iload (q := 104) g 3 dX9_handOn_102 rfl rfl ?_
  refine zr_lv (lv' := [(1, .ref (E.2.1 pp)), (2, .int x2), (4, .int x4)]) [0, 1, 2] rfl ?_
  exact U_X9_handOn_104 k_pp ok hI g hr hlk _ _ _ _ _ _ hM
noncomputable def B_X9_handOn_72 (pp : Nat) (x2 : Int32) (x4 : Int32) (s0 : Int32) (s1 : Int32) (h : zw_Hp) : Option (zw_Hp) :=
  zw_nm (s1 - s0) (fun y17 => (M_X9_isChild pp (x2 + (1 : Int32)) h).bind (fun z19 => if z19 = 0 then (B_X9_handOn_102 pp x2 x4 y17 ((9 : Int32) + x4) h) else (if y17 ≤ (2 : Int32) then (B_X9_handOn_102 pp x2 x4 y17 ((9 : Int32) + x4) h) else (B_X9_handOn_104 pp x2 x4 (2 : Int32) ((9 : Int32) + x4) h))))
set_option maxRecDepth 100000 in
set_option maxHeartbeats 4000000 in
theorem U_X9_handOn_72 {pp : Nat} (k_pp : pp = 37 ∨ pp = 38) (ok : zw_Ok E) (hI : ∀ i, i < 48 → i ∈ E.2.2.1) (g : zw_G p E (zw_A E) s m args c RX9 cX9_handOn 6) (hr : meth.sig.returnType = none) (hlk : meth.locks = false) :
    ∀ (x2 : Int32) (x4 : Int32) (s0 : Int32) (s1 : Int32) (h : zw_Hp) (z : zw_Hp), B_X9_handOn_72 pp x2 x4 s0 s1 h = some z → zw_V p l e s m args below meth c E mt_X9_handOn 6 none z 72 [(0, .ref (E.2.1 31)), (1, .ref (E.2.1 pp)), (2, .int x2), (4, .int x4)] [.int s0, .int s1] h := by
  intro x2 x4 s0 s1 h z hM
  unfold B_X9_handOn_72 at hM
  refine zr_isub (q := 73) g dX9_handOn_72 rfl ?_
  obtain ⟨y17, e18, hM⟩ := zw_nm_ex hM
  refine zr_nmi e18 ?_
  refine zr_istore (q := 75) (lv' := [(5, .int y17), (0, .ref (E.2.1 31)), (1, .ref (E.2.1 pp)), (2, .int x2), (4, .int x4)]) g dX9_handOn_73 rfl (by decide) rfl ?_
  refine zr_aload_n (q := 76) g 2 dX9_handOn_75 rfl rfl rfl ?_
  refine zr_bipush (q := 78) (v := (9 : Int32)) g dX9_handOn_76 rfl (by decide) ?_
  refine zr_iload (q := 80) g 4 dX9_handOn_78 rfl rfl ?_
  refine zr_iadd (q := 81) g dX9_handOn_80 rfl ?_
  refine zr_aload_n (q := 82) g 1 dX9_handOn_81 rfl rfl rfl ?_
  refine zr_aload_n (q := 83) g 2 dX9_handOn_82 rfl rfl rfl ?_
  refine zr_iload_n (q := 84) g 3 dX9_handOn_83 rfl rfl rfl ?_
  refine zr_iconst (q := 85) (v := (1 : Int32)) g dX9_handOn_84 rfl (by decide) ?_
  refine zr_iadd (q := 86) g dX9_handOn_85 rfl ?_
  obtain ⟨z19, q20, hM⟩ := zw_bd hM
  refine zr_callV (q := 89) (As := [.ref (E.2.1 pp), .int (x2 + (1 : Int32))]) (rest := [.int ((9 : Int32) + x4), .ref (E.2.1 pp)]) (st' := [.int z19, .int ((9 : Int32) + x4), .ref (E.2.1 pp)]) (i := 31) g (R_X9_isChild k_pp ok hI q20) zv_X9_isChild zl_X9_141 (hI 31 (by decide)) zs_31 zc_X9.1 dX9_handOn_86 rfl rfl ⟨Nat.le_of_ble_eq_true rfl, Nat.le_of_ble_eq_true rfl⟩ ⟨Nat.zero_le _, Nat.zero_le _⟩ (Nat.le_of_ble_eq_true rfl) rfl rfl ?_
  refine zr_if_eq (q := 92) (tgt := 102) g dX9_handOn_89 rfl rfl (fun c21 => ?_) (fun c21 => ?_)
  · replace hM := zw_ift c21 hM
    refine zr_lv (lv' := [(1, .ref (E.2.1 pp)), (2, .int x2), (4, .int x4), (5, .int y17)]) [2, 3, 4, 0] rfl ?_
    exact U_X9_handOn_102 k_pp ok hI g hr hlk _ _ _ _ _ _ hM
  · replace hM := zw_iff c21 hM
    refine zr_iload (q := 94) g 0 dX9_handOn_92 rfl rfl ?_
    refine zr_iconst (q := 95) (v := (2 : Int32)) g dX9_handOn_94 rfl (by decide) ?_
    refine zr_icmp_le (q := 98) (tgt := 102) g dX9_handOn_95 rfl rfl (fun c22 => ?_) (fun c22 => ?_)
    · replace hM := zw_ift c22 hM
      refine zr_lv (lv' := [(1, .ref (E.2.1 pp)), (2, .int x2), (4, .int x4), (5, .int y17)]) [2, 3, 4, 0] rfl ?_
      exact U_X9_handOn_102 k_pp ok hI g hr hlk _ _ _ _ _ _ hM
    · replace hM := zw_iff c22 hM
      refine zr_iconst (q := 99) (v := (2 : Int32)) g dX9_handOn_98 rfl (by decide) ?_
      refine zr_goto (tgt := 104) g dX9_handOn_99 rfl ?_
      refine zr_lv (lv' := [(1, .ref (E.2.1 pp)), (2, .int x2), (4, .int x4)]) [2, 3, 4] rfl ?_
      exact U_X9_handOn_104 k_pp ok hI g hr hlk _ _ _ _ _ _ hM
noncomputable def B_X9_handOn_71 (pp : Nat) (x2 : Int32) (x4 : Int32) (s0 : Int32) (h : zw_Hp) : Option (zw_Hp) :=
  B_X9_handOn_72 pp x2 x4 (0 : Int32) s0 h
set_option maxRecDepth 100000 in
set_option maxHeartbeats 4000000 in
theorem U_X9_handOn_71 {pp : Nat} (k_pp : pp = 37 ∨ pp = 38) (ok : zw_Ok E) (hI : ∀ i, i < 48 → i ∈ E.2.2.1) (g : zw_G p E (zw_A E) s m args c RX9 cX9_handOn 6) (hr : meth.sig.returnType = none) (hlk : meth.locks = false) :
    ∀ (x2 : Int32) (x4 : Int32) (s0 : Int32) (h : zw_Hp) (z : zw_Hp), B_X9_handOn_71 pp x2 x4 s0 h = some z → zw_V p l e s m args below meth c E mt_X9_handOn 6 none z 71 [(0, .ref (E.2.1 31)), (1, .ref (E.2.1 pp)), (2, .int x2), (4, .int x4)] [.int s0] h := by
  intro x2 x4 s0 h z hM
  unfold B_X9_handOn_71 at hM
  refine zr_iconst (q := 72) (v := (0 : Int32)) g dX9_handOn_71 rfl (by decide) ?_
  exact U_X9_handOn_72 k_pp ok hI g hr hlk _ _ _ _ _ _ hM
noncomputable def M_X9_handOn (pp : Nat) (x2 : Int32) (x3 : Int32) (h : zw_Hp) : Option (zw_Hp) :=
  (M_X9_heldAt pp x2 h).bind (fun z1 => if z1 = (-9 : Int32) then (some h) else ((M_X9_heldAt pp (x2 + (1 : Int32)) h).bind (fun z4 => if z4 = (-9 : Int32) then ((M_X9_works pp x2 x3 h).bind (fun z7 => if z7 = 0 then (some h) else (if zw_ok ((9 : Int32) + z1) 21 = true then (zw_nm (h.1 pp (((9 : Int32) + z1)).toNatClampNeg) (fun y11 => if zw_ok x2 21 = true then (if zw_ok (h.1 pp (x2).toNatClampNeg) 5 = true then (if (h.1 33 ((h.1 pp (x2).toNatClampNeg)).toNatClampNeg) = (1 : Int32) then (if y11 ≤ 0 then (B_X9_handOn_71 pp x2 z1 y11 h) else (B_X9_handOn_72 pp x2 z1 (1 : Int32) y11 h)) else (B_X9_handOn_71 pp x2 z1 y11 h)) else none) else none)) else none))) else (some h))))
set_option maxRecDepth 100000 in
set_option maxHeartbeats 4000000 in
theorem R_X9_handOn {pp : Nat} (k_pp : pp = 37 ∨ pp = 38) (ok : zw_Ok E) (hI : ∀ i, i < 48 → i ∈ E.2.2.1) {x2 : Int32} {x3 : Int32} {h : zw_Hp} {z : zw_Hp} (hM : M_X9_handOn pp x2 x3 h = some z) : zw_Ct l E mt_X9_handOn [.ref (E.2.1 31), .ref (E.2.1 pp), .int x2, .int x3] h none z := by
  unfold M_X9_handOn at hM
  refine zw_ct (lv0 := [(0, .ref (E.2.1 31)), (1, .ref (E.2.1 pp)), (2, .int x2), (3, .int x3)]) ok (by decide) rfl (Nat.le_of_ble_eq_true rfl) (fun p e s m args below meth c g hr hlk => ?_)
  replace g : zw_G p E (zw_A E) s m args c RX9 cX9_handOn 6 := g
  show zw_V p l e s m args below meth c E mt_X9_handOn 6 none z 0 [(0, .ref (E.2.1 31)), (1, .ref (E.2.1 pp)), (2, .int x2), (3, .int x3)] [] h
  refine zr_aload_n (q := 1) g 0 dX9_handOn_0 rfl rfl rfl ?_
  refine zr_aload_n (q := 2) g 1 dX9_handOn_1 rfl rfl rfl ?_
  refine zr_iload_n (q := 3) g 2 dX9_handOn_2 rfl rfl rfl ?_
  obtain ⟨z1, q2, hM⟩ := zw_bd hM
  refine zr_callV (q := 6) (As := [.ref (E.2.1 pp), .int x2]) (rest := []) (st' := [.int z1]) (i := 31) g (R_X9_heldAt k_pp ok hI q2) zv_X9_heldAt zl_X9_133 (hI 31 (by decide)) zs_31 zc_X9.1 dX9_handOn_3 rfl rfl ⟨Nat.le_of_ble_eq_true rfl, Nat.le_of_ble_eq_true rfl⟩ ⟨Nat.zero_le _, Nat.zero_le _⟩ (Nat.le_of_ble_eq_true rfl) rfl rfl ?_
  refine zr_istore (q := 8) (lv' := [(4, .int z1), (0, .ref (E.2.1 31)), (1, .ref (E.2.1 pp)), (2, .int x2), (3, .int x3)]) g dX9_handOn_6 rfl (by decide) rfl ?_
  refine zr_iload (q := 10) g 0 dX9_handOn_8 rfl rfl ?_
  refine zr_bipush (q := 12) (v := (-9 : Int32)) g dX9_handOn_10 rfl (by decide) ?_
  refine zr_icmp_eq (q := 15) (tgt := 38) g dX9_handOn_12 rfl rfl (fun c3 => ?_) (fun c3 => ?_)
  · replace hM := zw_ift c3 hM
    cases hM
    exact zr_vret g hr hlk dX9_handOn_38 rfl rfl
  · replace hM := zw_iff c3 hM
    refine zr_aload_n (q := 16) g 1 dX9_handOn_15 rfl rfl rfl ?_
    refine zr_aload_n (q := 17) g 2 dX9_handOn_16 rfl rfl rfl ?_
    refine zr_iload_n (q := 18) g 3 dX9_handOn_17 rfl rfl rfl ?_
    refine zr_iconst (q := 19) (v := (1 : Int32)) g dX9_handOn_18 rfl (by decide) ?_
    refine zr_iadd (q := 20) g dX9_handOn_19 rfl ?_
    obtain ⟨z4, q5, hM⟩ := zw_bd hM
    refine zr_callV (q := 23) (As := [.ref (E.2.1 pp), .int (x2 + (1 : Int32))]) (rest := []) (st' := [.int z4]) (i := 31) g (R_X9_heldAt k_pp ok hI q5) zv_X9_heldAt zl_X9_133 (hI 31 (by decide)) zs_31 zc_X9.1 dX9_handOn_20 rfl rfl ⟨Nat.le_of_ble_eq_true rfl, Nat.le_of_ble_eq_true rfl⟩ ⟨Nat.zero_le _, Nat.zero_le _⟩ (Nat.le_of_ble_eq_true rfl) rfl rfl ?_
    refine zr_bipush (q := 25) (v := (-9 : Int32)) g dX9_handOn_23 rfl (by decide) ?_
    refine zr_icmp_ne (q := 28) (tgt := 38) g dX9_handOn_25 rfl rfl (fun c6 => ?_) (fun c6 => ?_)
    · replace hM := zw_iff c6 hM
      cases hM
      exact zr_vret g hr hlk dX9_handOn_38 rfl rfl
    · replace hM := zw_ift c6 hM
      refine zr_aload_n (q := 29) g 1 dX9_handOn_28 rfl rfl rfl ?_
      refine zr_aload_n (q := 30) g 2 dX9_handOn_29 rfl rfl rfl ?_
      refine zr_iload_n (q := 31) g 3 dX9_handOn_30 rfl rfl rfl ?_
      refine zr_iload_n (q := 32) g 4 dX9_handOn_31 rfl rfl rfl ?_
      obtain ⟨z7, q8, hM⟩ := zw_bd hM
      refine zr_callV (q := 35) (As := [.ref (E.2.1 pp), .int x2, .int x3]) (rest := []) (st' := [.int z7]) (i := 31) g (R_X9_works k_pp ok hI q8) zv_X9_works zl_X9_137 (hI 31 (by decide)) zs_31 zc_X9.1 dX9_handOn_32 rfl rfl ⟨Nat.le_of_ble_eq_true rfl, Nat.le_of_ble_eq_true rfl⟩ ⟨Nat.zero_le _, Nat.zero_le _⟩ (Nat.le_of_ble_eq_true rfl) rfl rfl ?_
      refine zr_if_ne (q := 38) (tgt := 39) g dX9_handOn_35 rfl rfl (fun c9 => ?_) (fun c9 => ?_)
      · replace hM := zw_iff c9 hM
        refine zr_aload_n (q := 40) g 2 dX9_handOn_39 rfl rfl rfl ?_
        refine zr_bipush (q := 42) (v := (9 : Int32)) g dX9_handOn_40 rfl (by decide) ?_
        refine zr_iload (q := 44) g 0 dX9_handOn_42 rfl rfl ?_
        refine zr_iadd (q := 45) g dX9_handOn_44 rfl ?_
        obtain ⟨c10, hM⟩ := zw_gd hM
        refine zr_iald (q := 46) g (hI _ (zb_pg0 k_pp)) (zs_pg0 k_pp) c10 dX9_handOn_45 rfl ?_
        obtain ⟨y11, e12, hM⟩ := zw_nm_ex hM
        refine zr_nmi e12 ?_
        refine zr_istore (q := 48) (lv' := [(5, .int y11), (4, .int z1), (0, .ref (E.2.1 31)), (1, .ref (E.2.1 pp)), (2, .int x2), (3, .int x3)]) g dX9_handOn_46 rfl (by decide) rfl ?_
        refine zr_iload (q := 50) g 0 dX9_handOn_48 rfl rfl ?_
        refine zr_aload_n (q := 51) g 2 dX9_handOn_50 rfl rfl rfl ?_
        refine zr_getr (q := 54) (k0 := 7) (j := 33) g (hI 31 (by decide)) zs_31 rfl zf_X9_13 dX9_handOn_51 rfl ?_
        refine zr_aload_n (q := 55) g 3 dX9_handOn_54 rfl rfl rfl ?_
        refine zr_iload_n (q := 56) g 4 dX9_handOn_55 rfl rfl rfl ?_
        obtain ⟨c13, hM⟩ := zw_gd hM
        refine zr_iald (q := 57) g (hI _ (zb_pg0 k_pp)) (zs_pg0 k_pp) c13 dX9_handOn_56 rfl ?_
        obtain ⟨c14, hM⟩ := zw_gd hM
        refine zr_iald (q := 58) g (hI 33 (by decide)) zs_33 c14 dX9_handOn_57 rfl ?_
        refine zr_iconst (q := 59) (v := (1 : Int32)) g dX9_handOn_58 rfl (by decide) ?_
        refine zr_icmp_ne (q := 62) (tgt := 71) g dX9_handOn_59 rfl rfl (fun c15 => ?_) (fun c15 => ?_)
        · replace hM := zw_iff c15 hM
          refine zr_lv (lv' := [(0, .ref (E.2.1 31)), (1, .ref (E.2.1 pp)), (2, .int x2), (4, .int z1)]) [2, 3, 4, 1] rfl ?_
          exact U_X9_handOn_71 k_pp ok hI g hr hlk _ _ _ _ _ hM
        · replace hM := zw_ift c15 hM
          refine zr_iload (q := 64) g 0 dX9_handOn_62 rfl rfl ?_
          refine zr_if_le (q := 67) (tgt := 71) g dX9_handOn_64 rfl rfl (fun c16 => ?_) (fun c16 => ?_)
          · replace hM := zw_ift c16 hM
            refine zr_lv (lv' := [(0, .ref (E.2.1 31)), (1, .ref (E.2.1 pp)), (2, .int x2), (4, .int z1)]) [2, 3, 4, 1] rfl ?_
            exact U_X9_handOn_71 k_pp ok hI g hr hlk _ _ _ _ _ hM
          · replace hM := zw_iff c16 hM
            refine zr_iconst (q := 68) (v := (1 : Int32)) g dX9_handOn_67 rfl (by decide) ?_
            refine zr_goto (tgt := 72) g dX9_handOn_68 rfl ?_
            refine zr_lv (lv' := [(0, .ref (E.2.1 31)), (1, .ref (E.2.1 pp)), (2, .int x2), (4, .int z1)]) [2, 3, 4, 1] rfl ?_
            exact U_X9_handOn_72 k_pp ok hI g hr hlk _ _ _ _ _ _ hM
      · replace hM := zw_ift c9 hM
        cases hM
        exact zr_vret g hr hlk dX9_handOn_38 rfl rfl
noncomputable def B_X9_fill_34 (pp : Nat) (k15 : (Int32 × Int32 × zw_Hp) → Option (zw_Hp)) (x3 : Int32) (s0 : Int32) (h : zw_Hp) : Option (zw_Hp) :=
  zw_nm (x3 + (-1 : Int32)) (fun y21 => k15 (s0, y21, h))
set_option maxRecDepth 100000 in
set_option maxHeartbeats 4000000 in
theorem U_X9_fill_34 {pp : Nat} (k_pp : pp = 37 ∨ pp = 38) (ok : zw_Ok E) (hI : ∀ i, i < 48 → i ∈ E.2.2.1) (g : zw_G p E (zw_A E) s m args c RX9 cX9_fill 4) (hr : meth.sig.returnType = none) (hlk : meth.locks = false) {k15 : (Int32 × Int32 × zw_Hp) → Option (zw_Hp)} (eL15 : ∀ (w : Int32 × Int32 × zw_Hp) (z : zw_Hp), k15 w = some z → zw_V p l e s m args below meth c E mt_X9_fill 4 none z 15 [(0, .ref (E.2.1 31)), (1, .ref (E.2.1 pp)), (2, .int w.1), (3, .int w.2.1)] [] w.2.2) :
    ∀ (x3 : Int32) (s0 : Int32) (h : zw_Hp) (z : zw_Hp), B_X9_fill_34 pp k15 x3 s0 h = some z → zw_V p l e s m args below meth c E mt_X9_fill 4 none z 34 [(0, .ref (E.2.1 31)), (1, .ref (E.2.1 pp)), (3, .int x3)] [.int s0] h := by
  intro x3 s0 h z hM
  unfold B_X9_fill_34 at hM
  refine zr_istore_n (q := 35) (lv' := [(2, .int s0), (0, .ref (E.2.1 31)), (1, .ref (E.2.1 pp)), (3, .int x3)]) g dX9_fill_34 rfl rfl (by decide) rfl ?_
  obtain ⟨y21, e22, hM⟩ := zw_nm_ex hM
  refine zr_iinc (q := 38) (v := y21) (lv' := [(3, .int y21), (2, .int s0), (0, .ref (E.2.1 31)), (1, .ref (E.2.1 pp))]) g 3 dX9_fill_35 rfl rfl (by rw [e22]; rfl) (by decide) rfl ?_
  refine zr_goto (tgt := 15) g dX9_fill_38 rfl ?_
  refine zr_lv (lv' := [(0, .ref (E.2.1 31)), (1, .ref (E.2.1 pp)), (2, .int s0), (3, .int y21)]) [2, 3, 1, 0] rfl ?_
  exact eL15 _ _ hM
noncomputable def B_X9_fill_106 (pp : Nat) (s0 : Int32) (s1 : Int32) (h : zw_Hp) : Option (zw_Hp) :=
  if zw_ok s1 21 = true then zw_nm (zw_up h pp (s1).toNatClampNeg s0) (fun h24 => some h24) else none
set_option maxRecDepth 100000 in
set_option maxHeartbeats 4000000 in
theorem U_X9_fill_106 {pp : Nat} (k_pp : pp = 37 ∨ pp = 38) (ok : zw_Ok E) (hI : ∀ i, i < 48 → i ∈ E.2.2.1) (g : zw_G p E (zw_A E) s m args c RX9 cX9_fill 4) (hr : meth.sig.returnType = none) (hlk : meth.locks = false) :
    ∀ (s0 : Int32) (s1 : Int32) (h : zw_Hp) (z : zw_Hp), B_X9_fill_106 pp s0 s1 h = some z → zw_V p l e s m args below meth c E mt_X9_fill 4 none z 106 [] [.int s0, .int s1, .ref (E.2.1 pp)] h := by
  intro s0 s1 h z hM
  unfold B_X9_fill_106 at hM
  obtain ⟨c23, hM⟩ := zw_gd hM
  obtain ⟨h24, e25, hM⟩ := zw_nm_ex hM
  refine zr_iast (q := 107) (h' := h24) g (hI _ (zb_pg0 k_pp)) (zs_pg0 k_pp) c23 dX9_fill_106 rfl e25 ?_
  cases hM
  exact zr_vret g hr hlk dX9_fill_107 rfl rfl
noncomputable def B_X9_fill_100 (pp : Nat) (x2 : Int32) (s0 : Int32) (h : zw_Hp) : Option (zw_Hp) :=
  if zw_ok x2 4 = true then (B_X9_fill_106 pp (h.1 34 (x2).toNatClampNeg) s0 h) else none
set_option maxRecDepth 100000 in
set_option maxHeartbeats 4000000 in
theorem U_X9_fill_100 {pp : Nat} (k_pp : pp = 37 ∨ pp = 38) (ok : zw_Ok E) (hI : ∀ i, i < 48 → i ∈ E.2.2.1) (g : zw_G p E (zw_A E) s m args c RX9 cX9_fill 4) (hr : meth.sig.returnType = none) (hlk : meth.locks = false) :
    ∀ (x2 : Int32) (s0 : Int32) (h : zw_Hp) (z : zw_Hp), B_X9_fill_100 pp x2 s0 h = some z → zw_V p l e s m args below meth c E mt_X9_fill 4 none z 100 [(0, .ref (E.2.1 31)), (2, .int x2)] [.int s0, .ref (E.2.1 pp)] h := by
  intro x2 s0 h z hM
  unfold B_X9_fill_100 at hM
  refine zr_aload_n (q := 101) g 0 dX9_fill_100 rfl rfl rfl ?_
  refine zr_getr (q := 104) (k0 := 9) (j := 34) g (hI 31 (by decide)) zs_31 rfl zf_X9_16 dX9_fill_101 rfl ?_
  refine zr_iload_n (q := 105) g 1 dX9_fill_104 rfl rfl rfl ?_
  obtain ⟨c26, hM⟩ := zw_gd hM
  refine zr_iald (q := 106) g (hI 34 (by decide)) zs_34 c26 dX9_fill_105 rfl ?_
  refine zr_lv (lv' := []) [] rfl ?_
  exact U_X9_fill_106 k_pp ok hI g hr hlk _ _ _ _ hM
noncomputable def B_X9_fill_15 (pp : Nat) (k15 : (Int32 × Int32 × zw_Hp) → Option (zw_Hp)) (x2 : Int32) (x3 : Int32) (h : zw_Hp) : Option (zw_Hp) :=
  if x3 < 0 then (if (h.1 31 6) = 0 then (some h) else (if x2 = (-9 : Int32) then (some h) else ((M_X9_heldAt pp (0 : Int32) h).bind (fun z8 => if z8 = (-9 : Int32) then (if zw_ok ((5 : Int32) + x2) 21 = true then zw_nm (zw_up h pp (((5 : Int32) + x2)).toNatClampNeg (0 : Int32)) (fun h12 => (M_X9_isChild pp (0 : Int32) h12).bind (fun z14 => if z14 = 0 then (B_X9_fill_100 pp x2 ((9 : Int32) + x2) h12) else (if zw_ok x2 4 = true then (if (h12.1 34 (x2).toNatClampNeg) ≤ (2 : Int32) then (B_X9_fill_100 pp x2 ((9 : Int32) + x2) h12) else (B_X9_fill_106 pp (2 : Int32) ((9 : Int32) + x2) h12)) else none))) else none) else (some h))))) else (if zw_ok ((5 : Int32) + x3) 21 = true then (if (h.1 pp (((5 : Int32) + x3)).toNatClampNeg) = (8 : Int32) then (B_X9_fill_34 pp k15 x3 x3 h) else (B_X9_fill_34 pp k15 x3 x2 h)) else none)
set_option maxRecDepth 100000 in
set_option maxHeartbeats 4000000 in
theorem U_X9_fill_15 {pp : Nat} (k_pp : pp = 37 ∨ pp = 38) (ok : zw_Ok E) (hI : ∀ i, i < 48 → i ∈ E.2.2.1) (g : zw_G p E (zw_A E) s m args c RX9 cX9_fill 4) (hr : meth.sig.returnType = none) (hlk : meth.locks = false) {k15 : (Int32 × Int32 × zw_Hp) → Option (zw_Hp)} (eL15 : ∀ (w : Int32 × Int32 × zw_Hp) (z : zw_Hp), k15 w = some z → zw_V p l e s m args below meth c E mt_X9_fill 4 none z 15 [(0, .ref (E.2.1 31)), (1, .ref (E.2.1 pp)), (2, .int w.1), (3, .int w.2.1)] [] w.2.2) :
    ∀ (x2 : Int32) (x3 : Int32) (h : zw_Hp) (z : zw_Hp), B_X9_fill_15 pp k15 x2 x3 h = some z → zw_V p l e s m args below meth c E mt_X9_fill 4 none z 15 [(0, .ref (E.2.1 31)), (1, .ref (E.2.1 pp)), (2, .int x2), (3, .int x3)] [] h := by
  intro x2 x3 h z hM
  unfold B_X9_fill_15 at hM
  refine zr_iload_n (q := 16) g 3 dX9_fill_15 rfl rfl rfl ?_
  refine zr_if_lt (q := 19) (tgt := 41) g dX9_fill_16 rfl rfl (fun c5 => ?_) (fun c5 => ?_)
  · replace hM := zw_ift c5 hM
    refine zr_aload_n (q := 42) g 0 dX9_fill_41 rfl rfl rfl ?_
    refine zr_geti (q := 45) (k0 := 6) g (hI 31 (by decide)) zs_31 rfl zf_X9_63 dX9_fill_42 rfl ?_
    refine zr_if_eq (q := 48) (tgt := 65) g dX9_fill_45 rfl rfl (fun c6 => ?_) (fun c6 => ?_)
    · replace hM := zw_ift c6 hM
      cases hM
      exact zr_vret g hr hlk dX9_fill_65 rfl rfl
    · replace hM := zw_iff c6 hM
      refine zr_iload_n (q := 49) g 2 dX9_fill_48 rfl rfl rfl ?_
      refine zr_bipush (q := 51) (v := (-9 : Int32)) g dX9_fill_49 rfl (by decide) ?_
      refine zr_icmp_eq (q := 54) (tgt := 65) g dX9_fill_51 rfl rfl (fun c7 => ?_) (fun c7 => ?_)
      · replace hM := zw_ift c7 hM
        cases hM
        exact zr_vret g hr hlk dX9_fill_65 rfl rfl
      · replace hM := zw_iff c7 hM
        refine zr_aload_n (q := 55) g 0 dX9_fill_54 rfl rfl rfl ?_
        refine zr_aload_n (q := 56) g 1 dX9_fill_55 rfl rfl rfl ?_
        refine zr_iconst (q := 57) (v := (0 : Int32)) g dX9_fill_56 rfl (by decide) ?_
        obtain ⟨z8, q9, hM⟩ := zw_bd hM
        refine zr_callV (q := 60) (As := [.ref (E.2.1 pp), .int (0 : Int32)]) (rest := []) (st' := [.int z8]) (i := 31) g (R_X9_heldAt k_pp ok hI q9) zv_X9_heldAt zl_X9_133 (hI 31 (by decide)) zs_31 zc_X9.1 dX9_fill_57 rfl rfl ⟨Nat.le_of_ble_eq_true rfl, Nat.le_of_ble_eq_true rfl⟩ ⟨Nat.zero_le _, Nat.zero_le _⟩ (Nat.le_of_ble_eq_true rfl) rfl rfl ?_
        refine zr_bipush (q := 62) (v := (-9 : Int32)) g dX9_fill_60 rfl (by decide) ?_
        refine zr_icmp_eq (q := 65) (tgt := 66) g dX9_fill_62 rfl rfl (fun c10 => ?_) (fun c10 => ?_)
        · replace hM := zw_ift c10 hM
          refine zr_aload_n (q := 67) g 1 dX9_fill_66 rfl rfl rfl ?_
          refine zr_iconst (q := 68) (v := (5 : Int32)) g dX9_fill_67 rfl (by decide) ?_
          refine zr_iload_n (q := 69) g 2 dX9_fill_68 rfl rfl rfl ?_
          refine zr_iadd (q := 70) g dX9_fill_69 rfl ?_
          refine zr_iconst (q := 71) (v := (0 : Int32)) g dX9_fill_70 rfl (by decide) ?_
          obtain ⟨c11, hM⟩ := zw_gd hM
          obtain ⟨h12, e13, hM⟩ := zw_nm_ex hM
          refine zr_iast (q := 72) (h' := h12) g (hI _ (zb_pg0 k_pp)) (zs_pg0 k_pp) c11 dX9_fill_71 rfl e13 ?_
          refine zr_aload_n (q := 73) g 1 dX9_fill_72 rfl rfl rfl ?_
          refine zr_bipush (q := 75) (v := (9 : Int32)) g dX9_fill_73 rfl (by decide) ?_
          refine zr_iload_n (q := 76) g 2 dX9_fill_75 rfl rfl rfl ?_
          refine zr_iadd (q := 77) g dX9_fill_76 rfl ?_
          refine zr_aload_n (q := 78) g 0 dX9_fill_77 rfl rfl rfl ?_
          refine zr_aload_n (q := 79) g 1 dX9_fill_78 rfl rfl rfl ?_
          refine zr_iconst (q := 80) (v := (0 : Int32)) g dX9_fill_79 rfl (by decide) ?_
          obtain ⟨z14, q15, hM⟩ := zw_bd hM
          refine zr_callV (q := 83) (As := [.ref (E.2.1 pp), .int (0 : Int32)]) (rest := [.int ((9 : Int32) + x2), .ref (E.2.1 pp)]) (st' := [.int z14, .int ((9 : Int32) + x2), .ref (E.2.1 pp)]) (i := 31) g (R_X9_isChild k_pp ok hI q15) zv_X9_isChild zl_X9_141 (hI 31 (by decide)) zs_31 zc_X9.1 dX9_fill_80 rfl rfl ⟨Nat.le_of_ble_eq_true rfl, Nat.le_of_ble_eq_true rfl⟩ ⟨Nat.zero_le _, Nat.zero_le _⟩ (Nat.le_of_ble_eq_true rfl) rfl rfl ?_
          refine zr_if_eq (q := 86) (tgt := 100) g dX9_fill_83 rfl rfl (fun c16 => ?_) (fun c16 => ?_)
          · replace hM := zw_ift c16 hM
            refine zr_lv (lv' := [(0, .ref (E.2.1 31)), (2, .int x2)]) [0, 2] rfl ?_
            exact U_X9_fill_100 k_pp ok hI g hr hlk _ _ _ _ hM
          · replace hM := zw_iff c16 hM
            refine zr_aload_n (q := 87) g 0 dX9_fill_86 rfl rfl rfl ?_
            refine zr_getr (q := 90) (k0 := 9) (j := 34) g (hI 31 (by decide)) zs_31 rfl zf_X9_16 dX9_fill_87 rfl ?_
            refine zr_iload_n (q := 91) g 2 dX9_fill_90 rfl rfl rfl ?_
            obtain ⟨c17, hM⟩ := zw_gd hM
            refine zr_iald (q := 92) g (hI 34 (by decide)) zs_34 c17 dX9_fill_91 rfl ?_
            refine zr_iconst (q := 93) (v := (2 : Int32)) g dX9_fill_92 rfl (by decide) ?_
            refine zr_icmp_le (q := 96) (tgt := 100) g dX9_fill_93 rfl rfl (fun c18 => ?_) (fun c18 => ?_)
            · replace hM := zw_ift c18 hM
              refine zr_lv (lv' := [(0, .ref (E.2.1 31)), (2, .int x2)]) [0, 2] rfl ?_
              exact U_X9_fill_100 k_pp ok hI g hr hlk _ _ _ _ hM
            · replace hM := zw_iff c18 hM
              refine zr_iconst (q := 97) (v := (2 : Int32)) g dX9_fill_96 rfl (by decide) ?_
              refine zr_goto (tgt := 106) g dX9_fill_97 rfl ?_
              refine zr_lv (lv' := []) [] rfl ?_
              exact U_X9_fill_106 k_pp ok hI g hr hlk _ _ _ _ hM
        · replace hM := zw_iff c10 hM
          cases hM
          exact zr_vret g hr hlk dX9_fill_65 rfl rfl
  · replace hM := zw_iff c5 hM
    refine zr_aload_n (q := 20) g 1 dX9_fill_19 rfl rfl rfl ?_
    refine zr_iconst (q := 21) (v := (5 : Int32)) g dX9_fill_20 rfl (by decide) ?_
    refine zr_iload_n (q := 22) g 3 dX9_fill_21 rfl rfl rfl ?_
    refine zr_iadd (q := 23) g dX9_fill_22 rfl ?_
    obtain ⟨c19, hM⟩ := zw_gd hM
    refine zr_iald (q := 24) g (hI _ (zb_pg0 k_pp)) (zs_pg0 k_pp) c19 dX9_fill_23 rfl ?_
    refine zr_bipush (q := 26) (v := (8 : Int32)) g dX9_fill_24 rfl (by decide) ?_
    refine zr_icmp_ne (q := 29) (tgt := 33) g dX9_fill_26 rfl rfl (fun c20 => ?_) (fun c20 => ?_)
    · replace hM := zw_iff c20 hM
      refine zr_iload_n (q := 34) g 2 dX9_fill_33 rfl rfl rfl ?_
      refine zr_lv (lv' := [(0, .ref (E.2.1 31)), (1, .ref (E.2.1 pp)), (3, .int x3)]) [0, 1, 3] rfl ?_
      exact U_X9_fill_34 k_pp ok hI g hr hlk eL15 _ _ _ _ hM
    · replace hM := zw_ift c20 hM
      refine zr_iload_n (q := 30) g 3 dX9_fill_29 rfl rfl rfl ?_
      refine zr_goto (tgt := 34) g dX9_fill_30 rfl ?_
      refine zr_lv (lv' := [(0, .ref (E.2.1 31)), (1, .ref (E.2.1 pp)), (3, .int x3)]) [0, 1, 3] rfl ?_
      exact U_X9_fill_34 k_pp ok hI g hr hlk eL15 _ _ _ _ hM
noncomputable def L_X9_fill_15 (pp : Nat) (w : Int32 × Int32 × zw_Hp) : Option (zw_Hp) :=
  zw_it (fun (k15 : (Int32 × Int32 × zw_Hp) → Option (zw_Hp)) (w : Int32 × Int32 × zw_Hp) => B_X9_fill_15 pp k15 (w.1) (w.2.1) (w.2.2)) 600 w
theorem UL_X9_fill_15 {pp : Nat} (k_pp : pp = 37 ∨ pp = 38) (ok : zw_Ok E) (hI : ∀ i, i < 48 → i ∈ E.2.2.1) (g : zw_G p E (zw_A E) s m args c RX9 cX9_fill 4) (hr : meth.sig.returnType = none) (hlk : meth.locks = false) :
    ∀ (w : Int32 × Int32 × zw_Hp) (z : zw_Hp), L_X9_fill_15 pp w = some z → zw_V p l e s m args below meth c E mt_X9_fill 4 none z 15 [(0, .ref (E.2.1 31)), (1, .ref (E.2.1 pp)), (2, .int w.1), (3, .int w.2.1)] [] w.2.2 :=
  fun w z hM => zw_it_ind (P := fun (w : Int32 × Int32 × zw_Hp) (z : zw_Hp) => zw_V p l e s m args below meth c E mt_X9_fill 4 none z 15 [(0, .ref (E.2.1 31)), (1, .ref (E.2.1 pp)), (2, .int w.1), (3, .int w.2.1)] [] w.2.2) (fun k e w z hM => U_X9_fill_15 k_pp ok hI g hr hlk e _ _ _ _ hM) 600 w z hM
noncomputable def M_X9_fill (pp : Nat) (h : zw_Hp) : Option (zw_Hp) :=
  (M_X9_heldAt pp (8 : Int32) h).bind (fun z1 => zw_nm ((h.1 31 8) - (1 : Int32)) (fun y3 => L_X9_fill_15 pp (z1, y3, h)))
set_option maxRecDepth 100000 in
set_option maxHeartbeats 4000000 in
theorem R_X9_fill {pp : Nat} (k_pp : pp = 37 ∨ pp = 38) (ok : zw_Ok E) (hI : ∀ i, i < 48 → i ∈ E.2.2.1) {h : zw_Hp} {z : zw_Hp} (hM : M_X9_fill pp h = some z) : zw_Ct l E mt_X9_fill [.ref (E.2.1 31), .ref (E.2.1 pp)] h none z := by
  unfold M_X9_fill at hM
  refine zw_ct (lv0 := [(0, .ref (E.2.1 31)), (1, .ref (E.2.1 pp))]) ok (by decide) rfl (Nat.le_of_ble_eq_true rfl) (fun p e s m args below meth c g hr hlk => ?_)
  replace g : zw_G p E (zw_A E) s m args c RX9 cX9_fill 4 := g
  show zw_V p l e s m args below meth c E mt_X9_fill 4 none z 0 [(0, .ref (E.2.1 31)), (1, .ref (E.2.1 pp))] [] h
  refine zr_aload_n (q := 1) g 0 dX9_fill_0 rfl rfl rfl ?_
  refine zr_aload_n (q := 2) g 1 dX9_fill_1 rfl rfl rfl ?_
  refine zr_bipush (q := 4) (v := (8 : Int32)) g dX9_fill_2 rfl (by decide) ?_
  obtain ⟨z1, q2, hM⟩ := zw_bd hM
  refine zr_callV (q := 7) (As := [.ref (E.2.1 pp), .int (8 : Int32)]) (rest := []) (st' := [.int z1]) (i := 31) g (R_X9_heldAt k_pp ok hI q2) zv_X9_heldAt zl_X9_133 (hI 31 (by decide)) zs_31 zc_X9.1 dX9_fill_4 rfl rfl ⟨Nat.le_of_ble_eq_true rfl, Nat.le_of_ble_eq_true rfl⟩ ⟨Nat.zero_le _, Nat.zero_le _⟩ (Nat.le_of_ble_eq_true rfl) rfl rfl ?_
  refine zr_istore_n (q := 8) (lv' := [(2, .int z1), (0, .ref (E.2.1 31)), (1, .ref (E.2.1 pp))]) g dX9_fill_7 rfl rfl (by decide) rfl ?_
  refine zr_aload_n (q := 9) g 1 dX9_fill_8 rfl rfl rfl ?_
  refine zr_geti (q := 12) (k0 := 8) g (hI 31 (by decide)) zs_31 rfl zf_X9_70 dX9_fill_9 rfl ?_
  refine zr_iconst (q := 13) (v := (1 : Int32)) g dX9_fill_12 rfl (by decide) ?_
  refine zr_isub (q := 14) g dX9_fill_13 rfl ?_
  obtain ⟨y3, e4, hM⟩ := zw_nm_ex hM
  refine zr_nmi e4 ?_
  refine zr_istore_n (q := 15) (lv' := [(3, .int y3), (2, .int z1), (0, .ref (E.2.1 31)), (1, .ref (E.2.1 pp))]) g dX9_fill_14 rfl rfl (by decide) rfl ?_
  refine zr_lv (lv' := [(0, .ref (E.2.1 31)), (1, .ref (E.2.1 pp)), (2, .int z1), (3, .int y3)]) [2, 3, 1, 0] rfl ?_
  exact UL_X9_fill_15 k_pp ok hI g hr hlk _ _ hM
noncomputable def B_X9_leak_51 (pp : Nat) (k2 : (Int32 × zw_Hp) → Option (zw_Hp)) (x2 : Int32) (s0 : Int32) (s1 : Int32) (s2 : Int32) (h : zw_Hp) : Option (zw_Hp) :=
  if zw_ok s2 21 = true then zw_nm (zw_up h pp (s2).toNatClampNeg (s1 - s0)) (fun h12 => zw_nm (x2 + (1 : Int32)) (fun y14 => k2 (y14, h12))) else none
set_option maxRecDepth 100000 in
set_option maxHeartbeats 4000000 in
theorem U_X9_leak_51 {pp : Nat} (k_pp : pp = 37 ∨ pp = 38) (ok : zw_Ok E) (hI : ∀ i, i < 48 → i ∈ E.2.2.1) (g : zw_G p E (zw_A E) s m args c RX9 cX9_leak 3) (hr : meth.sig.returnType = none) (hlk : meth.locks = false) {k2 : (Int32 × zw_Hp) → Option (zw_Hp)} (eL2 : ∀ (w : Int32 × zw_Hp) (z : zw_Hp), k2 w = some z → zw_V p l e s m args below meth c E mt_X9_leak 3 none z 2 [(0, .ref (E.2.1 31)), (1, .ref (E.2.1 pp)), (2, .int w.1)] [] w.2) :
    ∀ (x2 : Int32) (s0 : Int32) (s1 : Int32) (s2 : Int32) (h : zw_Hp) (z : zw_Hp), B_X9_leak_51 pp k2 x2 s0 s1 s2 h = some z → zw_V p l e s m args below meth c E mt_X9_leak 3 none z 51 [(0, .ref (E.2.1 31)), (1, .ref (E.2.1 pp)), (2, .int x2)] [.int s0, .int s1, .int s2, .ref (E.2.1 pp)] h := by
  intro x2 s0 s1 s2 h z hM
  unfold B_X9_leak_51 at hM
  refine zr_isub (q := 52) g dX9_leak_51 rfl ?_
  obtain ⟨c11, hM⟩ := zw_gd hM
  obtain ⟨h12, e13, hM⟩ := zw_nm_ex hM
  refine zr_iast (q := 53) (h' := h12) g (hI _ (zb_pg0 k_pp)) (zs_pg0 k_pp) c11 dX9_leak_52 rfl e13 ?_
  obtain ⟨y14, e15, hM⟩ := zw_nm_ex hM
  refine zr_iinc (q := 56) (v := y14) (lv' := [(2, .int y14), (0, .ref (E.2.1 31)), (1, .ref (E.2.1 pp))]) g 2 dX9_leak_53 rfl rfl (by rw [e15]; rfl) (by decide) rfl ?_
  refine zr_goto (tgt := 2) g dX9_leak_56 rfl ?_
  refine zr_lv (lv' := [(0, .ref (E.2.1 31)), (1, .ref (E.2.1 pp)), (2, .int y14)]) [1, 2, 0] rfl ?_
  exact eL2 _ _ hM
noncomputable def B_X9_leak_50 (pp : Nat) (k2 : (Int32 × zw_Hp) → Option (zw_Hp)) (x2 : Int32) (s0 : Int32) (s1 : Int32) (h : zw_Hp) : Option (zw_Hp) :=
  B_X9_leak_51 pp k2 x2 (0 : Int32) s0 s1 h
set_option maxRecDepth 100000 in
set_option maxHeartbeats 4000000 in
theorem U_X9_leak_50 {pp : Nat} (k_pp : pp = 37 ∨ pp = 38) (ok : zw_Ok E) (hI : ∀ i, i < 48 → i ∈ E.2.2.1) (g : zw_G p E (zw_A E) s m args c RX9 cX9_leak 3) (hr : meth.sig.returnType = none) (hlk : meth.locks = false) {k2 : (Int32 × zw_Hp) → Option (zw_Hp)} (eL2 : ∀ (w : Int32 × zw_Hp) (z : zw_Hp), k2 w = some z → zw_V p l e s m args below meth c E mt_X9_leak 3 none z 2 [(0, .ref (E.2.1 31)), (1, .ref (E.2.1 pp)), (2, .int w.1)] [] w.2) :
    ∀ (x2 : Int32) (s0 : Int32) (s1 : Int32) (h : zw_Hp) (z : zw_Hp), B_X9_leak_50 pp k2 x2 s0 s1 h = some z → zw_V p l e s m args below meth c E mt_X9_leak 3 none z 50 [(0, .ref (E.2.1 31)), (1, .ref (E.2.1 pp)), (2, .int x2)] [.int s0, .int s1, .ref (E.2.1 pp)] h := by
  intro x2 s0 s1 h z hM
  unfold B_X9_leak_50 at hM
  refine zr_iconst (q := 51) (v := (0 : Int32)) g dX9_leak_50 rfl (by decide) ?_
  exact U_X9_leak_51 k_pp ok hI g hr hlk eL2 _ _ _ _ _ _ hM
noncomputable def B_X9_leak_2 (pp : Nat) (k2 : (Int32 × zw_Hp) → Option (zw_Hp)) (x2 : Int32) (h : zw_Hp) : Option (zw_Hp) :=
  if (h.1 31 8) ≤ x2 then (some h) else (if zw_ok ((9 : Int32) + x2) 21 = true then (if zw_ok ((5 : Int32) + x2) 21 = true then (if (5 : Int32) ≤ (h.1 pp (((5 : Int32) + x2)).toNatClampNeg) then (B_X9_leak_50 pp k2 x2 (h.1 pp (((9 : Int32) + x2)).toNatClampNeg) ((9 : Int32) + x2) h) else (if zw_ok (17 : Int32) 21 = true then ((M_X9_has (h.1 pp ((17 : Int32)).toNatClampNeg) x2 h).bind (fun z6 => if z6 = 0 then (B_X9_leak_50 pp k2 x2 (h.1 pp (((9 : Int32) + x2)).toNatClampNeg) ((9 : Int32) + x2) h) else (if zw_ok ((9 : Int32) + x2) 21 = true then (if (h.1 pp (((9 : Int32) + x2)).toNatClampNeg) ≤ 0 then (B_X9_leak_50 pp k2 x2 (h.1 pp (((9 : Int32) + x2)).toNatClampNeg) ((9 : Int32) + x2) h) else (B_X9_leak_51 pp k2 x2 (1 : Int32) (h.1 pp (((9 : Int32) + x2)).toNatClampNeg) ((9 : Int32) + x2) h)) else none))) else none)) else none) else none)
set_option maxRecDepth 100000 in
set_option maxHeartbeats 4000000 in
theorem U_X9_leak_2 {pp : Nat} (k_pp : pp = 37 ∨ pp = 38) (ok : zw_Ok E) (hI : ∀ i, i < 48 → i ∈ E.2.2.1) (g : zw_G p E (zw_A E) s m args c RX9 cX9_leak 3) (hr : meth.sig.returnType = none) (hlk : meth.locks = false) {k2 : (Int32 × zw_Hp) → Option (zw_Hp)} (eL2 : ∀ (w : Int32 × zw_Hp) (z : zw_Hp), k2 w = some z → zw_V p l e s m args below meth c E mt_X9_leak 3 none z 2 [(0, .ref (E.2.1 31)), (1, .ref (E.2.1 pp)), (2, .int w.1)] [] w.2) :
    ∀ (x2 : Int32) (h : zw_Hp) (z : zw_Hp), B_X9_leak_2 pp k2 x2 h = some z → zw_V p l e s m args below meth c E mt_X9_leak 3 none z 2 [(0, .ref (E.2.1 31)), (1, .ref (E.2.1 pp)), (2, .int x2)] [] h := by
  intro x2 h z hM
  unfold B_X9_leak_2 at hM
  refine zr_iload_n (q := 3) g 2 dX9_leak_2 rfl rfl rfl ?_
  refine zr_aload_n (q := 4) g 0 dX9_leak_3 rfl rfl rfl ?_
  refine zr_geti (q := 7) (k0 := 8) g (hI 31 (by decide)) zs_31 rfl zf_X9_70 dX9_leak_4 rfl ?_
  refine zr_icmp_ge (q := 10) (tgt := 59) g dX9_leak_7 rfl rfl (fun c1 => ?_) (fun c1 => ?_)
  · replace hM := zw_ift c1 hM
    cases hM
    exact zr_vret g hr hlk dX9_leak_59 rfl rfl
  · replace hM := zw_iff c1 hM
    refine zr_aload_n (q := 11) g 1 dX9_leak_10 rfl rfl rfl ?_
    refine zr_bipush (q := 13) (v := (9 : Int32)) g dX9_leak_11 rfl (by decide) ?_
    refine zr_iload_n (q := 14) g 2 dX9_leak_13 rfl rfl rfl ?_
    refine zr_iadd (q := 15) g dX9_leak_14 rfl ?_
    refine zr_dup2 (q := 16) g dX9_leak_15 rfl rfl rfl ?_
    obtain ⟨c2, hM⟩ := zw_gd hM
    refine zr_iald (q := 17) g (hI _ (zb_pg0 k_pp)) (zs_pg0 k_pp) c2 dX9_leak_16 rfl ?_
    refine zr_aload_n (q := 18) g 1 dX9_leak_17 rfl rfl rfl ?_
    refine zr_iconst (q := 19) (v := (5 : Int32)) g dX9_leak_18 rfl (by decide) ?_
    refine zr_iload_n (q := 20) g 2 dX9_leak_19 rfl rfl rfl ?_
    refine zr_iadd (q := 21) g dX9_leak_20 rfl ?_
    obtain ⟨c3, hM⟩ := zw_gd hM
    refine zr_iald (q := 22) g (hI _ (zb_pg0 k_pp)) (zs_pg0 k_pp) c3 dX9_leak_21 rfl ?_
    refine zr_iconst (q := 23) (v := (5 : Int32)) g dX9_leak_22 rfl (by decide) ?_
    refine zr_icmp_ge (q := 26) (tgt := 50) g dX9_leak_23 rfl rfl (fun c4 => ?_) (fun c4 => ?_)
    · replace hM := zw_ift c4 hM
      exact U_X9_leak_50 k_pp ok hI g hr hlk eL2 _ _ _ _ _ hM
    · replace hM := zw_iff c4 hM
      refine zr_aload_n (q := 27) g 1 dX9_leak_26 rfl rfl rfl ?_
      refine zr_bipush (q := 29) (v := (17 : Int32)) g dX9_leak_27 rfl (by decide) ?_
      obtain ⟨c5, hM⟩ := zw_gd hM
      refine zr_iald (q := 30) g (hI _ (zb_pg0 k_pp)) (zs_pg0 k_pp) c5 dX9_leak_29 rfl ?_
      refine zr_iload_n (q := 31) g 2 dX9_leak_30 rfl rfl rfl ?_
      obtain ⟨z6, q7, hM⟩ := zw_bd hM
      refine zr_callS (q := 34) (As := [.int (h.1 pp ((17 : Int32)).toNatClampNeg), .int x2]) (rest := [.int (h.1 pp (((9 : Int32) + x2)).toNatClampNeg), .int ((9 : Int32) + x2), .ref (E.2.1 pp)]) (st' := [.int z6, .int (h.1 pp (((9 : Int32) + x2)).toNatClampNeg), .int ((9 : Int32) + x2), .ref (E.2.1 pp)]) g (R_X9_has ok hI q7) zv_X9_has zl_X9_129 dX9_leak_31 rfl rfl ⟨Nat.le_of_ble_eq_true rfl, Nat.le_of_ble_eq_true rfl⟩ ⟨Nat.zero_le _, Nat.zero_le _⟩ (Nat.le_of_ble_eq_true rfl) rfl rfl ?_
      refine zr_if_eq (q := 37) (tgt := 50) g dX9_leak_34 rfl rfl (fun c8 => ?_) (fun c8 => ?_)
      · replace hM := zw_ift c8 hM
        exact U_X9_leak_50 k_pp ok hI g hr hlk eL2 _ _ _ _ _ hM
      · replace hM := zw_iff c8 hM
        refine zr_aload_n (q := 38) g 1 dX9_leak_37 rfl rfl rfl ?_
        refine zr_bipush (q := 40) (v := (9 : Int32)) g dX9_leak_38 rfl (by decide) ?_
        refine zr_iload_n (q := 41) g 2 dX9_leak_40 rfl rfl rfl ?_
        refine zr_iadd (q := 42) g dX9_leak_41 rfl ?_
        obtain ⟨c9, hM⟩ := zw_gd hM
        refine zr_iald (q := 43) g (hI _ (zb_pg0 k_pp)) (zs_pg0 k_pp) c9 dX9_leak_42 rfl ?_
        refine zr_if_le (q := 46) (tgt := 50) g dX9_leak_43 rfl rfl (fun c10 => ?_) (fun c10 => ?_)
        · replace hM := zw_ift c10 hM
          exact U_X9_leak_50 k_pp ok hI g hr hlk eL2 _ _ _ _ _ hM
        · replace hM := zw_iff c10 hM
          refine zr_iconst (q := 47) (v := (1 : Int32)) g dX9_leak_46 rfl (by decide) ?_
          refine zr_goto (tgt := 51) g dX9_leak_47 rfl ?_
          exact U_X9_leak_51 k_pp ok hI g hr hlk eL2 _ _ _ _ _ _ hM
noncomputable def L_X9_leak_2 (pp : Nat) (w : Int32 × zw_Hp) : Option (zw_Hp) :=
  zw_it (fun (k2 : (Int32 × zw_Hp) → Option (zw_Hp)) (w : Int32 × zw_Hp) => B_X9_leak_2 pp k2 (w.1) (w.2)) 600 w
theorem UL_X9_leak_2 {pp : Nat} (k_pp : pp = 37 ∨ pp = 38) (ok : zw_Ok E) (hI : ∀ i, i < 48 → i ∈ E.2.2.1) (g : zw_G p E (zw_A E) s m args c RX9 cX9_leak 3) (hr : meth.sig.returnType = none) (hlk : meth.locks = false) :
    ∀ (w : Int32 × zw_Hp) (z : zw_Hp), L_X9_leak_2 pp w = some z → zw_V p l e s m args below meth c E mt_X9_leak 3 none z 2 [(0, .ref (E.2.1 31)), (1, .ref (E.2.1 pp)), (2, .int w.1)] [] w.2 :=
  fun w z hM => zw_it_ind (P := fun (w : Int32 × zw_Hp) (z : zw_Hp) => zw_V p l e s m args below meth c E mt_X9_leak 3 none z 2 [(0, .ref (E.2.1 31)), (1, .ref (E.2.1 pp)), (2, .int w.1)] [] w.2) (fun k e w z hM => U_X9_leak_2 k_pp ok hI g hr hlk e _ _ _ hM) 600 w z hM
noncomputable def M_X9_leak (pp : Nat) (h : zw_Hp) : Option (zw_Hp) :=
  L_X9_leak_2 pp ((0 : Int32), h)
set_option maxRecDepth 100000 in
set_option maxHeartbeats 4000000 in
theorem R_X9_leak {pp : Nat} (k_pp : pp = 37 ∨ pp = 38) (ok : zw_Ok E) (hI : ∀ i, i < 48 → i ∈ E.2.2.1) {h : zw_Hp} {z : zw_Hp} (hM : M_X9_leak pp h = some z) : zw_Ct l E mt_X9_leak [.ref (E.2.1 31), .ref (E.2.1 pp)] h none z := by
  unfold M_X9_leak at hM
  refine zw_ct (lv0 := [(0, .ref (E.2.1 31)), (1, .ref (E.2.1 pp))]) ok (by decide) rfl (Nat.le_of_ble_eq_true rfl) (fun p e s m args below meth c g hr hlk => ?_)
  replace g : zw_G p E (zw_A E) s m args c RX9 cX9_leak 3 := g
  show zw_V p l e s m args below meth c E mt_X9_leak 3 none z 0 [(0, .ref (E.2.1 31)), (1, .ref (E.2.1 pp))] [] h
  refine zr_iconst (q := 1) (v := (0 : Int32)) g dX9_leak_0 rfl (by decide) ?_
  refine zr_istore_n (q := 2) (lv' := [(2, .int (0 : Int32)), (0, .ref (E.2.1 31)), (1, .ref (E.2.1 pp))]) g dX9_leak_1 rfl rfl (by decide) rfl ?_
  refine zr_lv (lv' := [(0, .ref (E.2.1 31)), (1, .ref (E.2.1 pp)), (2, .int (0 : Int32))]) [1, 2, 0] rfl ?_
  exact UL_X9_leak_2 k_pp ok hI g hr hlk _ _ hM
noncomputable def B_X9_comeBack_51 (pp : Nat) (k2 : (Int32 × zw_Hp) → Option (zw_Hp)) (x2 : Int32) (h : zw_Hp) : Option (zw_Hp) :=
  zw_nm (x2 + (1 : Int32)) (fun y13 => k2 (y13, h))
set_option maxRecDepth 100000 in
set_option maxHeartbeats 4000000 in
theorem U_X9_comeBack_51 {pp : Nat} (k_pp : pp = 37 ∨ pp = 38) (ok : zw_Ok E) (hI : ∀ i, i < 48 → i ∈ E.2.2.1) (g : zw_G p E (zw_A E) s m args c RX9 cX9_comeBack 3) (hr : meth.sig.returnType = none) (hlk : meth.locks = false) {k2 : (Int32 × zw_Hp) → Option (zw_Hp)} (eL2 : ∀ (w : Int32 × zw_Hp) (z : zw_Hp), k2 w = some z → zw_V p l e s m args below meth c E mt_X9_comeBack 3 none z 2 [(0, .ref (E.2.1 31)), (1, .ref (E.2.1 pp)), (2, .int w.1)] [] w.2) :
    ∀ (x2 : Int32) (h : zw_Hp) (z : zw_Hp), B_X9_comeBack_51 pp k2 x2 h = some z → zw_V p l e s m args below meth c E mt_X9_comeBack 3 none z 51 [(0, .ref (E.2.1 31)), (1, .ref (E.2.1 pp)), (2, .int x2)] [] h := by
  intro x2 h z hM
  unfold B_X9_comeBack_51 at hM
  obtain ⟨y13, e14, hM⟩ := zw_nm_ex hM
  refine zr_iinc (q := 54) (v := y13) (lv' := [(2, .int y13), (0, .ref (E.2.1 31)), (1, .ref (E.2.1 pp))]) g 2 dX9_comeBack_51 rfl rfl (by rw [e14]; rfl) (by decide) rfl ?_
  refine zr_goto (tgt := 2) g dX9_comeBack_54 rfl ?_
  refine zr_lv (lv' := [(0, .ref (E.2.1 31)), (1, .ref (E.2.1 pp)), (2, .int y13)]) [1, 2, 0] rfl ?_
  exact eL2 _ _ hM
noncomputable def B_X9_comeBack_50 (pp : Nat) (k2 : (Int32 × zw_Hp) → Option (zw_Hp)) (x2 : Int32) (s0 : Int32) (s1 : Int32) (h : zw_Hp) : Option (zw_Hp) :=
  if zw_ok s1 21 = true then zw_nm (zw_up h pp (s1).toNatClampNeg s0) (fun h11 => B_X9_comeBack_51 pp k2 x2 h11) else none
set_option maxRecDepth 100000 in
set_option maxHeartbeats 4000000 in
theorem U_X9_comeBack_50 {pp : Nat} (k_pp : pp = 37 ∨ pp = 38) (ok : zw_Ok E) (hI : ∀ i, i < 48 → i ∈ E.2.2.1) (g : zw_G p E (zw_A E) s m args c RX9 cX9_comeBack 3) (hr : meth.sig.returnType = none) (hlk : meth.locks = false) {k2 : (Int32 × zw_Hp) → Option (zw_Hp)} (eL2 : ∀ (w : Int32 × zw_Hp) (z : zw_Hp), k2 w = some z → zw_V p l e s m args below meth c E mt_X9_comeBack 3 none z 2 [(0, .ref (E.2.1 31)), (1, .ref (E.2.1 pp)), (2, .int w.1)] [] w.2) :
    ∀ (x2 : Int32) (s0 : Int32) (s1 : Int32) (h : zw_Hp) (z : zw_Hp), B_X9_comeBack_50 pp k2 x2 s0 s1 h = some z → zw_V p l e s m args below meth c E mt_X9_comeBack 3 none z 50 [(0, .ref (E.2.1 31)), (1, .ref (E.2.1 pp)), (2, .int x2)] [.int s0, .int s1, .ref (E.2.1 pp)] h := by
  intro x2 s0 s1 h z hM
  unfold B_X9_comeBack_50 at hM
  obtain ⟨c10, hM⟩ := zw_gd hM
  obtain ⟨h11, e12, hM⟩ := zw_nm_ex hM
  refine zr_iast (q := 51) (h' := h11) g (hI _ (zb_pg0 k_pp)) (zs_pg0 k_pp) c10 dX9_comeBack_50 rfl e12 ?_
  exact U_X9_comeBack_51 k_pp ok hI g hr hlk eL2 _ _ _ hM
noncomputable def B_X9_comeBack_2 (pp : Nat) (k2 : (Int32 × zw_Hp) → Option (zw_Hp)) (x2 : Int32) (h : zw_Hp) : Option (zw_Hp) :=
  if (h.1 31 8) ≤ x2 then (some h) else (if zw_ok ((5 : Int32) + x2) 21 = true then (if (h.1 pp (((5 : Int32) + x2)).toNatClampNeg) = (9 : Int32) then (if zw_ok ((13 : Int32) + x2) 21 = true then (if zw_ok ((13 : Int32) + x2) 21 = true then zw_nm (zw_up h pp (((13 : Int32) + x2)).toNatClampNeg ((h.1 pp (((13 : Int32) + x2)).toNatClampNeg) - (1 : Int32))) (fun h6 => if zw_ok ((13 : Int32) + x2) 21 = true then (if (h6.1 pp (((13 : Int32) + x2)).toNatClampNeg) = 0 then (B_X9_comeBack_50 pp k2 x2 (8 : Int32) ((5 : Int32) + x2) h6) else (B_X9_comeBack_50 pp k2 x2 (9 : Int32) ((5 : Int32) + x2) h6)) else none) else none) else none) else (B_X9_comeBack_51 pp k2 x2 h)) else none)
set_option maxRecDepth 100000 in
set_option maxHeartbeats 4000000 in
theorem U_X9_comeBack_2 {pp : Nat} (k_pp : pp = 37 ∨ pp = 38) (ok : zw_Ok E) (hI : ∀ i, i < 48 → i ∈ E.2.2.1) (g : zw_G p E (zw_A E) s m args c RX9 cX9_comeBack 3) (hr : meth.sig.returnType = none) (hlk : meth.locks = false) {k2 : (Int32 × zw_Hp) → Option (zw_Hp)} (eL2 : ∀ (w : Int32 × zw_Hp) (z : zw_Hp), k2 w = some z → zw_V p l e s m args below meth c E mt_X9_comeBack 3 none z 2 [(0, .ref (E.2.1 31)), (1, .ref (E.2.1 pp)), (2, .int w.1)] [] w.2) :
    ∀ (x2 : Int32) (h : zw_Hp) (z : zw_Hp), B_X9_comeBack_2 pp k2 x2 h = some z → zw_V p l e s m args below meth c E mt_X9_comeBack 3 none z 2 [(0, .ref (E.2.1 31)), (1, .ref (E.2.1 pp)), (2, .int x2)] [] h := by
  intro x2 h z hM
  unfold B_X9_comeBack_2 at hM
  refine zr_iload_n (q := 3) g 2 dX9_comeBack_2 rfl rfl rfl ?_
  refine zr_aload_n (q := 4) g 0 dX9_comeBack_3 rfl rfl rfl ?_
  refine zr_geti (q := 7) (k0 := 8) g (hI 31 (by decide)) zs_31 rfl zf_X9_70 dX9_comeBack_4 rfl ?_
  refine zr_icmp_ge (q := 10) (tgt := 57) g dX9_comeBack_7 rfl rfl (fun c1 => ?_) (fun c1 => ?_)
  · replace hM := zw_ift c1 hM
    cases hM
    exact zr_vret g hr hlk dX9_comeBack_57 rfl rfl
  · replace hM := zw_iff c1 hM
    refine zr_aload_n (q := 11) g 1 dX9_comeBack_10 rfl rfl rfl ?_
    refine zr_iconst (q := 12) (v := (5 : Int32)) g dX9_comeBack_11 rfl (by decide) ?_
    refine zr_iload_n (q := 13) g 2 dX9_comeBack_12 rfl rfl rfl ?_
    refine zr_iadd (q := 14) g dX9_comeBack_13 rfl ?_
    obtain ⟨c2, hM⟩ := zw_gd hM
    refine zr_iald (q := 15) g (hI _ (zb_pg0 k_pp)) (zs_pg0 k_pp) c2 dX9_comeBack_14 rfl ?_
    refine zr_bipush (q := 17) (v := (9 : Int32)) g dX9_comeBack_15 rfl (by decide) ?_
    refine zr_icmp_ne (q := 20) (tgt := 51) g dX9_comeBack_17 rfl rfl (fun c3 => ?_) (fun c3 => ?_)
    · replace hM := zw_iff c3 hM
      exact U_X9_comeBack_51 k_pp ok hI g hr hlk eL2 _ _ _ hM
    · replace hM := zw_ift c3 hM
      refine zr_aload_n (q := 21) g 1 dX9_comeBack_20 rfl rfl rfl ?_
      refine zr_bipush (q := 23) (v := (13 : Int32)) g dX9_comeBack_21 rfl (by decide) ?_
      refine zr_iload_n (q := 24) g 2 dX9_comeBack_23 rfl rfl rfl ?_
      refine zr_iadd (q := 25) g dX9_comeBack_24 rfl ?_
      refine zr_dup2 (q := 26) g dX9_comeBack_25 rfl rfl rfl ?_
      obtain ⟨c4, hM⟩ := zw_gd hM
      refine zr_iald (q := 27) g (hI _ (zb_pg0 k_pp)) (zs_pg0 k_pp) c4 dX9_comeBack_26 rfl ?_
      refine zr_iconst (q := 28) (v := (1 : Int32)) g dX9_comeBack_27 rfl (by decide) ?_
      refine zr_isub (q := 29) g dX9_comeBack_28 rfl ?_
      obtain ⟨c5, hM⟩ := zw_gd hM
      obtain ⟨h6, e7, hM⟩ := zw_nm_ex hM
      refine zr_iast (q := 30) (h' := h6) g (hI _ (zb_pg0 k_pp)) (zs_pg0 k_pp) c5 dX9_comeBack_29 rfl e7 ?_
      refine zr_aload_n (q := 31) g 1 dX9_comeBack_30 rfl rfl rfl ?_
      refine zr_iconst (q := 32) (v := (5 : Int32)) g dX9_comeBack_31 rfl (by decide) ?_
      refine zr_iload_n (q := 33) g 2 dX9_comeBack_32 rfl rfl rfl ?_
      refine zr_iadd (q := 34) g dX9_comeBack_33 rfl ?_
      refine zr_aload_n (q := 35) g 1 dX9_comeBack_34 rfl rfl rfl ?_
      refine zr_bipush (q := 37) (v := (13 : Int32)) g dX9_comeBack_35 rfl (by decide) ?_
      refine zr_iload_n (q := 38) g 2 dX9_comeBack_37 rfl rfl rfl ?_
      refine zr_iadd (q := 39) g dX9_comeBack_38 rfl ?_
      obtain ⟨c8, hM⟩ := zw_gd hM
      refine zr_iald (q := 40) g (hI _ (zb_pg0 k_pp)) (zs_pg0 k_pp) c8 dX9_comeBack_39 rfl ?_
      refine zr_if_ne (q := 43) (tgt := 48) g dX9_comeBack_40 rfl rfl (fun c9 => ?_) (fun c9 => ?_)
      · replace hM := zw_iff c9 hM
        refine zr_bipush (q := 50) (v := (9 : Int32)) g dX9_comeBack_48 rfl (by decide) ?_
        exact U_X9_comeBack_50 k_pp ok hI g hr hlk eL2 _ _ _ _ _ hM
      · replace hM := zw_ift c9 hM
        refine zr_bipush (q := 45) (v := (8 : Int32)) g dX9_comeBack_43 rfl (by decide) ?_
        refine zr_goto (tgt := 50) g dX9_comeBack_45 rfl ?_
        exact U_X9_comeBack_50 k_pp ok hI g hr hlk eL2 _ _ _ _ _ hM
noncomputable def L_X9_comeBack_2 (pp : Nat) (w : Int32 × zw_Hp) : Option (zw_Hp) :=
  zw_it (fun (k2 : (Int32 × zw_Hp) → Option (zw_Hp)) (w : Int32 × zw_Hp) => B_X9_comeBack_2 pp k2 (w.1) (w.2)) 600 w
theorem UL_X9_comeBack_2 {pp : Nat} (k_pp : pp = 37 ∨ pp = 38) (ok : zw_Ok E) (hI : ∀ i, i < 48 → i ∈ E.2.2.1) (g : zw_G p E (zw_A E) s m args c RX9 cX9_comeBack 3) (hr : meth.sig.returnType = none) (hlk : meth.locks = false) :
    ∀ (w : Int32 × zw_Hp) (z : zw_Hp), L_X9_comeBack_2 pp w = some z → zw_V p l e s m args below meth c E mt_X9_comeBack 3 none z 2 [(0, .ref (E.2.1 31)), (1, .ref (E.2.1 pp)), (2, .int w.1)] [] w.2 :=
  fun w z hM => zw_it_ind (P := fun (w : Int32 × zw_Hp) (z : zw_Hp) => zw_V p l e s m args below meth c E mt_X9_comeBack 3 none z 2 [(0, .ref (E.2.1 31)), (1, .ref (E.2.1 pp)), (2, .int w.1)] [] w.2) (fun k e w z hM => U_X9_comeBack_2 k_pp ok hI g hr hlk e _ _ _ hM) 600 w z hM
noncomputable def M_X9_comeBack (pp : Nat) (h : zw_Hp) : Option (zw_Hp) :=
  L_X9_comeBack_2 pp ((0 : Int32), h)
set_option maxRecDepth 100000 in
set_option maxHeartbeats 4000000 in
theorem R_X9_comeBack {pp : Nat} (k_pp : pp = 37 ∨ pp = 38) (ok : zw_Ok E) (hI : ∀ i, i < 48 → i ∈ E.2.2.1) {h : zw_Hp} {z : zw_Hp} (hM : M_X9_comeBack pp h = some z) : zw_Ct l E mt_X9_comeBack [.ref (E.2.1 31), .ref (E.2.1 pp)] h none z := by
  unfold M_X9_comeBack at hM
  refine zw_ct (lv0 := [(0, .ref (E.2.1 31)), (1, .ref (E.2.1 pp))]) ok (by decide) rfl (Nat.le_of_ble_eq_true rfl) (fun p e s m args below meth c g hr hlk => ?_)
  replace g : zw_G p E (zw_A E) s m args c RX9 cX9_comeBack 3 := g
  show zw_V p l e s m args below meth c E mt_X9_comeBack 3 none z 0 [(0, .ref (E.2.1 31)), (1, .ref (E.2.1 pp))] [] h
  refine zr_iconst (q := 1) (v := (0 : Int32)) g dX9_comeBack_0 rfl (by decide) ?_
  refine zr_istore_n (q := 2) (lv' := [(2, .int (0 : Int32)), (0, .ref (E.2.1 31)), (1, .ref (E.2.1 pp))]) g dX9_comeBack_1 rfl rfl (by decide) rfl ?_
  refine zr_lv (lv' := [(0, .ref (E.2.1 31)), (1, .ref (E.2.1 pp)), (2, .int (0 : Int32))]) [1, 2, 0] rfl ?_
  exact UL_X9_comeBack_2 k_pp ok hI g hr hlk _ _ hM
noncomputable def B_X9_goBeat_108 (pp : Nat) (x3 : Int32) (s0 : Int32) (s1 : Int32) (h : zw_Hp) : Option (Int32 × zw_Hp) :=
  if zw_ok s1 21 = true then zw_nm (zw_up h pp (s1).toNatClampNeg s0) (fun h29 => if zw_ok (20 : Int32) 21 = true then (if zw_ok (20 : Int32) 21 = true then zw_nm (zw_up h29 pp ((20 : Int32)).toNatClampNeg ((h29.1 pp ((20 : Int32)).toNatClampNeg) + (1 : Int32))) (fun h33 => if zw_ok (19 : Int32) 21 = true then (some (((h33.1 pp ((19 : Int32)).toNatClampNeg) - x3), h33)) else none) else none) else none) else none
set_option maxRecDepth 100000 in
set_option maxHeartbeats 4000000 in
theorem U_X9_goBeat_108 {pp : Nat} (k_pp : pp = 37 ∨ pp = 38) (ok : zw_Ok E) (hI : ∀ i, i < 48 → i ∈ E.2.2.1) (g : zw_G p E (zw_A E) s m args c RX9 cX9_goBeat 6) (hr : meth.sig.returnType = some .int) (hlk : meth.locks = false) :
    ∀ (x3 : Int32) (s0 : Int32) (s1 : Int32) (h : zw_Hp) (z : Int32 × zw_Hp), B_X9_goBeat_108 pp x3 s0 s1 h = some z → zw_V p l e s m args below meth c E mt_X9_goBeat 6 (some (.int z.1)) z.2 108 [(1, .ref (E.2.1 pp)), (3, .int x3)] [.int s0, .int s1, .ref (E.2.1 pp)] h := by
  intro x3 s0 s1 h z hM
  unfold B_X9_goBeat_108 at hM
  obtain ⟨c28, hM⟩ := zw_gd hM
  obtain ⟨h29, e30, hM⟩ := zw_nm_ex hM
  refine zr_iast (q := 109) (h' := h29) g (hI _ (zb_pg0 k_pp)) (zs_pg0 k_pp) c28 dX9_goBeat_108 rfl e30 ?_
  refine zr_aload_n (q := 110) g 0 dX9_goBeat_109 rfl rfl rfl ?_
  refine zr_bipush (q := 112) (v := (20 : Int32)) g dX9_goBeat_110 rfl (by decide) ?_
  refine zr_dup2 (q := 113) g dX9_goBeat_112 rfl rfl rfl ?_
  obtain ⟨c31, hM⟩ := zw_gd hM
  refine zr_iald (q := 114) g (hI _ (zb_pg0 k_pp)) (zs_pg0 k_pp) c31 dX9_goBeat_113 rfl ?_
  refine zr_iconst (q := 115) (v := (1 : Int32)) g dX9_goBeat_114 rfl (by decide) ?_
  refine zr_iadd (q := 116) g dX9_goBeat_115 rfl ?_
  obtain ⟨c32, hM⟩ := zw_gd hM
  obtain ⟨h33, e34, hM⟩ := zw_nm_ex hM
  refine zr_iast (q := 117) (h' := h33) g (hI _ (zb_pg0 k_pp)) (zs_pg0 k_pp) c32 dX9_goBeat_116 rfl e34 ?_
  refine zr_aload_n (q := 118) g 0 dX9_goBeat_117 rfl rfl rfl ?_
  refine zr_bipush (q := 120) (v := (19 : Int32)) g dX9_goBeat_118 rfl (by decide) ?_
  obtain ⟨c35, hM⟩ := zw_gd hM
  refine zr_iald (q := 121) g (hI _ (zb_pg0 k_pp)) (zs_pg0 k_pp) c35 dX9_goBeat_120 rfl ?_
  refine zr_iload_n (q := 122) g 1 dX9_goBeat_121 rfl rfl rfl ?_
  refine zr_isub (q := 123) g dX9_goBeat_122 rfl ?_
  cases hM
  exact zr_iret g hr hlk dX9_goBeat_123 rfl rfl
noncomputable def B_X9_goBeat_89 (pp : Nat) (x3 : Int32) (s0 : Int32) (h : zw_Hp) : Option (Int32 × zw_Hp) :=
  if s0 ≤ (99 : Int32) then (B_X9_goBeat_108 pp x3 s0 (18 : Int32) h) else (B_X9_goBeat_108 pp x3 (99 : Int32) (18 : Int32) h)
set_option maxRecDepth 100000 in
set_option maxHeartbeats 4000000 in
theorem U_X9_goBeat_89 {pp : Nat} (k_pp : pp = 37 ∨ pp = 38) (ok : zw_Ok E) (hI : ∀ i, i < 48 → i ∈ E.2.2.1) (g : zw_G p E (zw_A E) s m args c RX9 cX9_goBeat 6) (hr : meth.sig.returnType = some .int) (hlk : meth.locks = false) :
    ∀ (x3 : Int32) (s0 : Int32) (h : zw_Hp) (z : Int32 × zw_Hp), B_X9_goBeat_89 pp x3 s0 h = some z → zw_V p l e s m args below meth c E mt_X9_goBeat 6 (some (.int z.1)) z.2 89 [(1, .ref (E.2.1 pp)), (3, .int x3)] [.int s0] h := by
  intro x3 s0 h z hM
  unfold B_X9_goBeat_89 at hM
  refine zr_istore (q := 91) (lv' := [(5, .int s0), (1, .ref (E.2.1 pp)), (3, .int x3)]) g dX9_goBeat_89 rfl (by decide) rfl ?_
  refine zr_aload_n (q := 92) g 1 dX9_goBeat_91 rfl rfl rfl ?_
  refine zr_bipush (q := 94) (v := (18 : Int32)) g dX9_goBeat_92 rfl (by decide) ?_
  refine zr_iload (q := 96) g 0 dX9_goBeat_94 rfl rfl ?_
  refine zr_bipush (q := 98) (v := (99 : Int32)) g dX9_goBeat_96 rfl (by decide) ?_
  refine zr_icmp_le (q := 101) (tgt := 106) g dX9_goBeat_98 rfl rfl (fun c27 => ?_) (fun c27 => ?_)
  · replace hM := zw_ift c27 hM
    refine zr_iload (q := 108) g 0 dX9_goBeat_106 rfl rfl ?_
    refine zr_lv (lv' := [(1, .ref (E.2.1 pp)), (3, .int x3)]) [1, 2] rfl ?_
    exact U_X9_goBeat_108 k_pp ok hI g hr hlk _ _ _ _ _ hM
  · replace hM := zw_iff c27 hM
    refine zr_bipush (q := 103) (v := (99 : Int32)) g dX9_goBeat_101 rfl (by decide) ?_
    refine zr_goto (tgt := 108) g dX9_goBeat_103 rfl ?_
    refine zr_lv (lv' := [(1, .ref (E.2.1 pp)), (3, .int x3)]) [1, 2] rfl ?_
    exact U_X9_goBeat_108 k_pp ok hI g hr hlk _ _ _ _ _ hM
noncomputable def B_X9_goBeat_69 (pp : Nat) (x3 : Int32) (h : zw_Hp) : Option (Int32 × zw_Hp) :=
  if zw_ok (18 : Int32) 21 = true then (if (h.1 pp ((18 : Int32)).toNatClampNeg) = 0 then (B_X9_goBeat_89 pp x3 (0 : Int32) h) else (if zw_ok (18 : Int32) 21 = true then (B_X9_goBeat_89 pp x3 ((h.1 pp ((18 : Int32)).toNatClampNeg) + (h.1 31 4)) h) else none)) else none
set_option maxRecDepth 100000 in
set_option maxHeartbeats 4000000 in
theorem U_X9_goBeat_69 {pp : Nat} (k_pp : pp = 37 ∨ pp = 38) (ok : zw_Ok E) (hI : ∀ i, i < 48 → i ∈ E.2.2.1) (g : zw_G p E (zw_A E) s m args c RX9 cX9_goBeat 6) (hr : meth.sig.returnType = some .int) (hlk : meth.locks = false) :
    ∀ (x3 : Int32) (h : zw_Hp) (z : Int32 × zw_Hp), B_X9_goBeat_69 pp x3 h = some z → zw_V p l e s m args below meth c E mt_X9_goBeat 6 (some (.int z.1)) z.2 69 [(0, .ref (E.2.1 31)), (1, .ref (E.2.1 pp)), (3, .int x3)] [] h := by
  intro x3 h z hM
  unfold B_X9_goBeat_69 at hM
  refine zr_aload_n (q := 70) g 1 dX9_goBeat_69 rfl rfl rfl ?_
  refine zr_bipush (q := 72) (v := (18 : Int32)) g dX9_goBeat_70 rfl (by decide) ?_
  obtain ⟨c24, hM⟩ := zw_gd hM
  refine zr_iald (q := 73) g (hI _ (zb_pg0 k_pp)) (zs_pg0 k_pp) c24 dX9_goBeat_72 rfl ?_
  refine zr_if_ne (q := 76) (tgt := 80) g dX9_goBeat_73 rfl rfl (fun c25 => ?_) (fun c25 => ?_)
  · replace hM := zw_iff c25 hM
    refine zr_aload_n (q := 81) g 1 dX9_goBeat_80 rfl rfl rfl ?_
    refine zr_bipush (q := 83) (v := (18 : Int32)) g dX9_goBeat_81 rfl (by decide) ?_
    obtain ⟨c26, hM⟩ := zw_gd hM
    refine zr_iald (q := 84) g (hI _ (zb_pg0 k_pp)) (zs_pg0 k_pp) c26 dX9_goBeat_83 rfl ?_
    refine zr_aload_n (q := 85) g 0 dX9_goBeat_84 rfl rfl rfl ?_
    refine zr_geti (q := 88) (k0 := 4) g (hI 31 (by decide)) zs_31 rfl zf_X9_120 dX9_goBeat_85 rfl ?_
    refine zr_iadd (q := 89) g dX9_goBeat_88 rfl ?_
    refine zr_lv (lv' := [(1, .ref (E.2.1 pp)), (3, .int x3)]) [1, 2] rfl ?_
    exact U_X9_goBeat_89 k_pp ok hI g hr hlk _ _ _ _ hM
  · replace hM := zw_ift c25 hM
    refine zr_iconst (q := 77) (v := (0 : Int32)) g dX9_goBeat_76 rfl (by decide) ?_
    refine zr_goto (tgt := 89) g dX9_goBeat_77 rfl ?_
    refine zr_lv (lv' := [(1, .ref (E.2.1 pp)), (3, .int x3)]) [1, 2] rfl ?_
    exact U_X9_goBeat_89 k_pp ok hI g hr hlk _ _ _ _ hM
noncomputable def B_X9_goBeat_21 (pp : Nat) (k21 : (Int32 × Int32 × Int32 × Int32 × zw_Hp) → Option (Int32 × zw_Hp)) (x2 : Int32) (x3 : Int32) (x4 : Int32) (x5 : Int32) (h : zw_Hp) : Option (Int32 × zw_Hp) :=
  if x5 < 0 then ((M_X9_fill pp h).bind (fun z11 => (M_X9_leak pp z11).bind (fun z13 => (M_X9_comeBack pp z13).bind (fun z15 => if x4 = (-9 : Int32) then (B_X9_goBeat_69 pp x3 z15) else ((M_X9_sendBack pp x4 z15).bind (fun z18 => B_X9_goBeat_69 pp x3 z18)))))) else ((M_X9_handOn pp x5 x2 h).bind (fun z20 => zw_nm (x5 + (-1 : Int32)) (fun y22 => k21 (x2, x3, x4, y22, z20))))
set_option maxRecDepth 100000 in
set_option maxHeartbeats 4000000 in
theorem U_X9_goBeat_21 {pp : Nat} (k_pp : pp = 37 ∨ pp = 38) (ok : zw_Ok E) (hI : ∀ i, i < 48 → i ∈ E.2.2.1) (g : zw_G p E (zw_A E) s m args c RX9 cX9_goBeat 6) (hr : meth.sig.returnType = some .int) (hlk : meth.locks = false) {k21 : (Int32 × Int32 × Int32 × Int32 × zw_Hp) → Option (Int32 × zw_Hp)} (eL21 : ∀ (w : Int32 × Int32 × Int32 × Int32 × zw_Hp) (z : Int32 × zw_Hp), k21 w = some z → zw_V p l e s m args below meth c E mt_X9_goBeat 6 (some (.int z.1)) z.2 21 [(0, .ref (E.2.1 31)), (1, .ref (E.2.1 pp)), (2, .int w.1), (3, .int w.2.1), (4, .int w.2.2.1), (5, .int w.2.2.2.1)] [] w.2.2.2.2) :
    ∀ (x2 : Int32) (x3 : Int32) (x4 : Int32) (x5 : Int32) (h : zw_Hp) (z : Int32 × zw_Hp), B_X9_goBeat_21 pp k21 x2 x3 x4 x5 h = some z → zw_V p l e s m args below meth c E mt_X9_goBeat 6 (some (.int z.1)) z.2 21 [(0, .ref (E.2.1 31)), (1, .ref (E.2.1 pp)), (2, .int x2), (3, .int x3), (4, .int x4), (5, .int x5)] [] h := by
  intro x2 x3 x4 x5 h z hM
  unfold B_X9_goBeat_21 at hM
  refine zr_iload (q := 23) g 5 dX9_goBeat_21 rfl rfl ?_
  refine zr_if_lt (q := 26) (tgt := 40) g dX9_goBeat_23 rfl rfl (fun c10 => ?_) (fun c10 => ?_)
  · replace hM := zw_ift c10 hM
    refine zr_aload_n (q := 41) g 0 dX9_goBeat_40 rfl rfl rfl ?_
    refine zr_aload_n (q := 42) g 1 dX9_goBeat_41 rfl rfl rfl ?_
    obtain ⟨z11, q12, hM⟩ := zw_bd hM
    refine zr_callV (q := 45) (As := [.ref (E.2.1 pp)]) (rest := []) (st' := []) (i := 31) g (R_X9_fill k_pp ok hI q12) zv_X9_fill zl_X9_152 (hI 31 (by decide)) zs_31 zc_X9.1 dX9_goBeat_42 rfl rfl ⟨Nat.le_of_ble_eq_true rfl, Nat.le_of_ble_eq_true rfl⟩ ⟨Nat.zero_le _, Nat.zero_le _⟩ (Nat.le_of_ble_eq_true rfl) rfl rfl ?_
    refine zr_aload_n (q := 46) g 0 dX9_goBeat_45 rfl rfl rfl ?_
    refine zr_aload_n (q := 47) g 1 dX9_goBeat_46 rfl rfl rfl ?_
    obtain ⟨z13, q14, hM⟩ := zw_bd hM
    refine zr_callV (q := 50) (As := [.ref (E.2.1 pp)]) (rest := []) (st' := []) (i := 31) g (R_X9_leak k_pp ok hI q14) zv_X9_leak zl_X9_156 (hI 31 (by decide)) zs_31 zc_X9.1 dX9_goBeat_47 rfl rfl ⟨Nat.le_of_ble_eq_true rfl, Nat.le_of_ble_eq_true rfl⟩ ⟨Nat.zero_le _, Nat.zero_le _⟩ (Nat.le_of_ble_eq_true rfl) rfl rfl ?_
    refine zr_aload_n (q := 51) g 0 dX9_goBeat_50 rfl rfl rfl ?_
    refine zr_aload_n (q := 52) g 1 dX9_goBeat_51 rfl rfl rfl ?_
    obtain ⟨z15, q16, hM⟩ := zw_bd hM
    refine zr_callV (q := 55) (As := [.ref (E.2.1 pp)]) (rest := []) (st' := []) (i := 31) g (R_X9_comeBack k_pp ok hI q16) zv_X9_comeBack zl_X9_159 (hI 31 (by decide)) zs_31 zc_X9.1 dX9_goBeat_52 rfl rfl ⟨Nat.le_of_ble_eq_true rfl, Nat.le_of_ble_eq_true rfl⟩ ⟨Nat.zero_le _, Nat.zero_le _⟩ (Nat.le_of_ble_eq_true rfl) rfl rfl ?_
    refine zr_iload (q := 57) g 4 dX9_goBeat_55 rfl rfl ?_
    refine zr_bipush (q := 59) (v := (-9 : Int32)) g dX9_goBeat_57 rfl (by decide) ?_
    refine zr_icmp_eq (q := 62) (tgt := 69) g dX9_goBeat_59 rfl rfl (fun c17 => ?_) (fun c17 => ?_)
    · replace hM := zw_ift c17 hM
      refine zr_lv (lv' := [(0, .ref (E.2.1 31)), (1, .ref (E.2.1 pp)), (3, .int x3)]) [0, 1, 3] rfl ?_
      exact U_X9_goBeat_69 k_pp ok hI g hr hlk _ _ _ hM
    · replace hM := zw_iff c17 hM
      refine zr_aload_n (q := 63) g 0 dX9_goBeat_62 rfl rfl rfl ?_
      refine zr_aload_n (q := 64) g 1 dX9_goBeat_63 rfl rfl rfl ?_
      refine zr_iload (q := 66) g 4 dX9_goBeat_64 rfl rfl ?_
      obtain ⟨z18, q19, hM⟩ := zw_bd hM
      refine zr_callV (q := 69) (As := [.ref (E.2.1 pp), .int x4]) (rest := []) (st' := []) (i := 31) g (R_X9_sendBack k_pp ok hI q19) zv_X9_sendBack zl_X9_162 (hI 31 (by decide)) zs_31 zc_X9.1 dX9_goBeat_66 rfl rfl ⟨Nat.le_of_ble_eq_true rfl, Nat.le_of_ble_eq_true rfl⟩ ⟨Nat.zero_le _, Nat.zero_le _⟩ (Nat.le_of_ble_eq_true rfl) rfl rfl ?_
      refine zr_lv (lv' := [(0, .ref (E.2.1 31)), (1, .ref (E.2.1 pp)), (3, .int x3)]) [0, 1, 3] rfl ?_
      exact U_X9_goBeat_69 k_pp ok hI g hr hlk _ _ _ hM
  · replace hM := zw_iff c10 hM
    refine zr_aload_n (q := 27) g 0 dX9_goBeat_26 rfl rfl rfl ?_
    refine zr_aload_n (q := 28) g 1 dX9_goBeat_27 rfl rfl rfl ?_
    refine zr_iload (q := 30) g 5 dX9_goBeat_28 rfl rfl ?_
    refine zr_iload_n (q := 31) g 2 dX9_goBeat_30 rfl rfl rfl ?_
    obtain ⟨z20, q21, hM⟩ := zw_bd hM
    refine zr_callV (q := 34) (As := [.ref (E.2.1 pp), .int x5, .int x2]) (rest := []) (st' := []) (i := 31) g (R_X9_handOn k_pp ok hI q21) zv_X9_handOn zl_X9_148 (hI 31 (by decide)) zs_31 zc_X9.1 dX9_goBeat_31 rfl rfl ⟨Nat.le_of_ble_eq_true rfl, Nat.le_of_ble_eq_true rfl⟩ ⟨Nat.zero_le _, Nat.zero_le _⟩ (Nat.le_of_ble_eq_true rfl) rfl rfl ?_
    obtain ⟨y22, e23, hM⟩ := zw_nm_ex hM
    refine zr_iinc (q := 37) (v := y22) (lv' := [(5, .int y22), (0, .ref (E.2.1 31)), (1, .ref (E.2.1 pp)), (2, .int x2), (3, .int x3), (4, .int x4)]) g 5 dX9_goBeat_34 rfl rfl (by rw [e23]; rfl) (by decide) rfl ?_
    refine zr_goto (tgt := 21) g dX9_goBeat_37 rfl ?_
    refine zr_lv (lv' := [(0, .ref (E.2.1 31)), (1, .ref (E.2.1 pp)), (2, .int x2), (3, .int x3), (4, .int x4), (5, .int y22)]) [1, 2, 3, 4, 5, 0] rfl ?_
    exact eL21 _ _ hM
noncomputable def L_X9_goBeat_21 (pp : Nat) (w : Int32 × Int32 × Int32 × Int32 × zw_Hp) : Option (Int32 × zw_Hp) :=
  zw_it (fun (k21 : (Int32 × Int32 × Int32 × Int32 × zw_Hp) → Option (Int32 × zw_Hp)) (w : Int32 × Int32 × Int32 × Int32 × zw_Hp) => B_X9_goBeat_21 pp k21 (w.1) (w.2.1) (w.2.2.1) (w.2.2.2.1) (w.2.2.2.2)) 600 w
theorem UL_X9_goBeat_21 {pp : Nat} (k_pp : pp = 37 ∨ pp = 38) (ok : zw_Ok E) (hI : ∀ i, i < 48 → i ∈ E.2.2.1) (g : zw_G p E (zw_A E) s m args c RX9 cX9_goBeat 6) (hr : meth.sig.returnType = some .int) (hlk : meth.locks = false) :
    ∀ (w : Int32 × Int32 × Int32 × Int32 × zw_Hp) (z : Int32 × zw_Hp), L_X9_goBeat_21 pp w = some z → zw_V p l e s m args below meth c E mt_X9_goBeat 6 (some (.int z.1)) z.2 21 [(0, .ref (E.2.1 31)), (1, .ref (E.2.1 pp)), (2, .int w.1), (3, .int w.2.1), (4, .int w.2.2.1), (5, .int w.2.2.2.1)] [] w.2.2.2.2 :=
  fun w z hM => zw_it_ind (P := fun (w : Int32 × Int32 × Int32 × Int32 × zw_Hp) (z : Int32 × zw_Hp) => zw_V p l e s m args below meth c E mt_X9_goBeat 6 (some (.int z.1)) z.2 21 [(0, .ref (E.2.1 31)), (1, .ref (E.2.1 pp)), (2, .int w.1), (3, .int w.2.1), (4, .int w.2.2.1), (5, .int w.2.2.2.1)] [] w.2.2.2.2) (fun k e w z hM => U_X9_goBeat_21 k_pp ok hI g hr hlk e _ _ _ _ _ _ hM) 600 w z hM
noncomputable def M_X9_goBeat (pp : Nat) (x2 : Int32) (h : zw_Hp) : Option (Int32 × zw_Hp) :=
  if zw_ok (19 : Int32) 21 = true then (zw_nm (h.1 pp ((19 : Int32)).toNatClampNeg) (fun y2 => (M_X9_throwsIt pp x2 h).bind (fun z4 => zw_nm z4.1 (fun y6 => zw_nm ((z4.2.1 31 6) - (2 : Int32)) (fun y8 => L_X9_goBeat_21 pp (x2, y2, y6, y8, z4.2)))))) else none
set_option maxRecDepth 100000 in
set_option maxHeartbeats 4000000 in
theorem R_X9_goBeat {pp : Nat} (k_pp : pp = 37 ∨ pp = 38) (ok : zw_Ok E) (hI : ∀ i, i < 48 → i ∈ E.2.2.1) {x2 : Int32} {h : zw_Hp} {z : Int32 × zw_Hp} (hM : M_X9_goBeat pp x2 h = some z) : zw_Ct l E mt_X9_goBeat [.ref (E.2.1 31), .ref (E.2.1 pp), .int x2] h (some (.int z.1)) z.2 := by
  unfold M_X9_goBeat at hM
  refine zw_ct (lv0 := [(0, .ref (E.2.1 31)), (1, .ref (E.2.1 pp)), (2, .int x2)]) ok (by decide) rfl (Nat.le_of_ble_eq_true rfl) (fun p e s m args below meth c g hr hlk => ?_)
  replace g : zw_G p E (zw_A E) s m args c RX9 cX9_goBeat 6 := g
  show zw_V p l e s m args below meth c E mt_X9_goBeat 6 (some (.int z.1)) z.2 0 [(0, .ref (E.2.1 31)), (1, .ref (E.2.1 pp)), (2, .int x2)] [] h
  refine zr_aload_n (q := 1) g 1 dX9_goBeat_0 rfl rfl rfl ?_
  refine zr_bipush (q := 3) (v := (19 : Int32)) g dX9_goBeat_1 rfl (by decide) ?_
  obtain ⟨c1, hM⟩ := zw_gd hM
  refine zr_iald (q := 4) g (hI _ (zb_pg0 k_pp)) (zs_pg0 k_pp) c1 dX9_goBeat_3 rfl ?_
  obtain ⟨y2, e3, hM⟩ := zw_nm_ex hM
  refine zr_nmi e3 ?_
  refine zr_istore_n (q := 5) (lv' := [(3, .int y2), (0, .ref (E.2.1 31)), (1, .ref (E.2.1 pp)), (2, .int x2)]) g dX9_goBeat_4 rfl rfl (by decide) rfl ?_
  refine zr_aload_n (q := 6) g 1 dX9_goBeat_5 rfl rfl rfl ?_
  refine zr_aload_n (q := 7) g 2 dX9_goBeat_6 rfl rfl rfl ?_
  refine zr_iload_n (q := 8) g 3 dX9_goBeat_7 rfl rfl rfl ?_
  obtain ⟨z4, q5, hM⟩ := zw_bd hM
  refine zr_callV (q := 11) (As := [.ref (E.2.1 pp), .int x2]) (rest := []) (st' := [.int z4.1]) (i := 31) g (R_X9_throwsIt k_pp ok hI q5) zv_X9_throwsIt zl_X9_145 (hI 31 (by decide)) zs_31 zc_X9.1 dX9_goBeat_8 rfl rfl ⟨Nat.le_of_ble_eq_true rfl, Nat.le_of_ble_eq_true rfl⟩ ⟨Nat.zero_le _, Nat.zero_le _⟩ (Nat.le_of_ble_eq_true rfl) rfl rfl ?_
  obtain ⟨y6, e7, hM⟩ := zw_nm_ex hM
  refine zr_nmi e7 ?_
  refine zr_istore (q := 13) (lv' := [(4, .int y6), (3, .int y2), (0, .ref (E.2.1 31)), (1, .ref (E.2.1 pp)), (2, .int x2)]) g dX9_goBeat_11 rfl (by decide) rfl ?_
  refine zr_aload_n (q := 14) g 2 dX9_goBeat_13 rfl rfl rfl ?_
  refine zr_geti (q := 17) (k0 := 6) g (hI 31 (by decide)) zs_31 rfl zf_X9_63 dX9_goBeat_14 rfl ?_
  refine zr_iconst (q := 18) (v := (2 : Int32)) g dX9_goBeat_17 rfl (by decide) ?_
  refine zr_isub (q := 19) g dX9_goBeat_18 rfl ?_
  obtain ⟨y8, e9, hM⟩ := zw_nm_ex hM
  refine zr_nmi e9 ?_
  refine zr_istore (q := 21) (lv' := [(5, .int y8), (4, .int y6), (3, .int y2), (0, .ref (E.2.1 31)), (1, .ref (E.2.1 pp)), (2, .int x2)]) g dX9_goBeat_19 rfl (by decide) rfl ?_
  refine zr_lv (lv' := [(0, .ref (E.2.1 31)), (1, .ref (E.2.1 pp)), (2, .int x2), (3, .int y2), (4, .int y6), (5, .int y8)]) [3, 4, 5, 2, 1, 0] rfl ?_
  exact UL_X9_goBeat_21 k_pp ok hI g hr hlk _ _ hM
noncomputable def B_X9_bucketsAt_42 (pp : Nat) (h : zw_Hp) (k6 : (Int32 × Int32 × Int32 × Int32) → Option (Int32)) (x2 : Int32) (x3 : Int32) (x5 : Int32) (s0 : Int32) (s1 : Int32) : Option (Int32) :=
  zw_nm (s1 ||| s0) (fun y6 => zw_nm (x5 + (1 : Int32)) (fun y8 => k6 (x2, x3, y6, y8)))
set_option maxRecDepth 100000 in
set_option maxHeartbeats 4000000 in
theorem U_X9_bucketsAt_42 {pp : Nat} (k_pp : pp = 37 ∨ pp = 38) {h : zw_Hp} (ok : zw_Ok E) (hI : ∀ i, i < 48 → i ∈ E.2.2.1) (g : zw_G p E (zw_A E) s m args c RX9 cX9_bucketsAt 6) (hr : meth.sig.returnType = some .int) (hlk : meth.locks = false) {k6 : (Int32 × Int32 × Int32 × Int32) → Option (Int32)} (eL6 : ∀ (w : Int32 × Int32 × Int32 × Int32) (z : Int32), k6 w = some z → zw_V p l e s m args below meth c E mt_X9_bucketsAt 6 (some (.int z)) h 6 [(0, .ref (E.2.1 31)), (1, .ref (E.2.1 pp)), (2, .int w.1), (3, .int w.2.1), (4, .int w.2.2.1), (5, .int w.2.2.2)] [] h) :
    ∀ (x2 : Int32) (x3 : Int32) (x5 : Int32) (s0 : Int32) (s1 : Int32) (z : Int32), B_X9_bucketsAt_42 pp h k6 x2 x3 x5 s0 s1 = some z → zw_V p l e s m args below meth c E mt_X9_bucketsAt 6 (some (.int z)) h 42 [(0, .ref (E.2.1 31)), (1, .ref (E.2.1 pp)), (2, .int x2), (3, .int x3), (5, .int x5)] [.int s0, .int s1] h := by
  intro x2 x3 x5 s0 s1 z hM
  unfold B_X9_bucketsAt_42 at hM
  refine zr_ior (q := 43) g dX9_bucketsAt_42 rfl ?_
  obtain ⟨y6, e7, hM⟩ := zw_nm_ex hM
  refine zr_nmi e7 ?_
  refine zr_istore (q := 45) (lv' := [(4, .int y6), (0, .ref (E.2.1 31)), (1, .ref (E.2.1 pp)), (2, .int x2), (3, .int x3), (5, .int x5)]) g dX9_bucketsAt_43 rfl (by decide) rfl ?_
  obtain ⟨y8, e9, hM⟩ := zw_nm_ex hM
  refine zr_iinc (q := 48) (v := y8) (lv' := [(5, .int y8), (4, .int y6), (0, .ref (E.2.1 31)), (1, .ref (E.2.1 pp)), (2, .int x2), (3, .int x3)]) g 5 dX9_bucketsAt_45 rfl rfl (by rw [e9]; rfl) (by decide) rfl ?_
  refine zr_goto (tgt := 6) g dX9_bucketsAt_48 rfl ?_
  refine zr_lv (lv' := [(0, .ref (E.2.1 31)), (1, .ref (E.2.1 pp)), (2, .int x2), (3, .int x3), (4, .int y6), (5, .int y8)]) [2, 3, 4, 5, 1, 0] rfl ?_
  exact eL6 _ _ hM
noncomputable def B_X9_bucketsAt_6 (pp : Nat) (h : zw_Hp) (k6 : (Int32 × Int32 × Int32 × Int32) → Option (Int32)) (x2 : Int32) (x3 : Int32) (x4 : Int32) (x5 : Int32) : Option (Int32) :=
  if (h.1 31 8) ≤ x5 then (some x4) else (if zw_ok ((5 : Int32) + x5) 21 = true then ((M_X9_in ((h.1 pp (((5 : Int32) + x5)).toNatClampNeg)).toInt64 (x2).toInt64 (x3).toInt64 h).bind (fun z3 => if z3 = 0 then (B_X9_bucketsAt_42 pp h k6 x2 x3 x5 (0 : Int32) x4) else (B_X9_bucketsAt_42 pp h k6 x2 x3 x5 ((1 : Int32) <<< (x5 &&& 31)) x4))) else none)
set_option maxRecDepth 100000 in
set_option maxHeartbeats 4000000 in
theorem U_X9_bucketsAt_6 {pp : Nat} (k_pp : pp = 37 ∨ pp = 38) {h : zw_Hp} (ok : zw_Ok E) (hI : ∀ i, i < 48 → i ∈ E.2.2.1) (g : zw_G p E (zw_A E) s m args c RX9 cX9_bucketsAt 6) (hr : meth.sig.returnType = some .int) (hlk : meth.locks = false) {k6 : (Int32 × Int32 × Int32 × Int32) → Option (Int32)} (eL6 : ∀ (w : Int32 × Int32 × Int32 × Int32) (z : Int32), k6 w = some z → zw_V p l e s m args below meth c E mt_X9_bucketsAt 6 (some (.int z)) h 6 [(0, .ref (E.2.1 31)), (1, .ref (E.2.1 pp)), (2, .int w.1), (3, .int w.2.1), (4, .int w.2.2.1), (5, .int w.2.2.2)] [] h) :
    ∀ (x2 : Int32) (x3 : Int32) (x4 : Int32) (x5 : Int32) (z : Int32), B_X9_bucketsAt_6 pp h k6 x2 x3 x4 x5 = some z → zw_V p l e s m args below meth c E mt_X9_bucketsAt 6 (some (.int z)) h 6 [(0, .ref (E.2.1 31)), (1, .ref (E.2.1 pp)), (2, .int x2), (3, .int x3), (4, .int x4), (5, .int x5)] [] h := by
  intro x2 x3 x4 x5 z hM
  unfold B_X9_bucketsAt_6 at hM
  refine zr_iload (q := 8) g 5 dX9_bucketsAt_6 rfl rfl ?_
  refine zr_aload_n (q := 9) g 0 dX9_bucketsAt_8 rfl rfl rfl ?_
  refine zr_geti (q := 12) (k0 := 8) g (hI 31 (by decide)) zs_31 rfl zf_X9_70 dX9_bucketsAt_9 rfl ?_
  refine zr_icmp_ge (q := 15) (tgt := 51) g dX9_bucketsAt_12 rfl rfl (fun c1 => ?_) (fun c1 => ?_)
  · replace hM := zw_ift c1 hM
    refine zr_iload (q := 53) g 4 dX9_bucketsAt_51 rfl rfl ?_
    cases hM
    exact zr_iret g hr hlk dX9_bucketsAt_53 rfl rfl
  · replace hM := zw_iff c1 hM
    refine zr_iload (q := 17) g 4 dX9_bucketsAt_15 rfl rfl ?_
    refine zr_aload_n (q := 18) g 1 dX9_bucketsAt_17 rfl rfl rfl ?_
    refine zr_iconst (q := 19) (v := (5 : Int32)) g dX9_bucketsAt_18 rfl (by decide) ?_
    refine zr_iload (q := 21) g 5 dX9_bucketsAt_19 rfl rfl ?_
    refine zr_iadd (q := 22) g dX9_bucketsAt_21 rfl ?_
    obtain ⟨c2, hM⟩ := zw_gd hM
    refine zr_iald (q := 23) g (hI _ (zb_pg0 k_pp)) (zs_pg0 k_pp) c2 dX9_bucketsAt_22 rfl ?_
    refine zr_i2l (q := 24) g dX9_bucketsAt_23 rfl ?_
    refine zr_iload_n (q := 25) g 2 dX9_bucketsAt_24 rfl rfl rfl ?_
    refine zr_i2l (q := 26) g dX9_bucketsAt_25 rfl ?_
    refine zr_iload_n (q := 27) g 3 dX9_bucketsAt_26 rfl rfl rfl ?_
    refine zr_i2l (q := 28) g dX9_bucketsAt_27 rfl ?_
    obtain ⟨z3, q4, hM⟩ := zw_bd hM
    refine zr_callS (q := 31) (As := [.long ((h.1 pp (((5 : Int32) + x5)).toNatClampNeg)).toInt64, .long (x2).toInt64, .long (x3).toInt64]) (rest := [.int x4]) (st' := [.int z3, .int x4]) g (R_X9_in ok hI q4) zv_X9_in zl_X9_66 dX9_bucketsAt_28 rfl rfl ⟨Nat.le_of_ble_eq_true rfl, Nat.le_of_ble_eq_true rfl⟩ ⟨Nat.zero_le _, Nat.zero_le _⟩ (Nat.le_of_ble_eq_true rfl) rfl rfl ?_
    refine zr_if_eq (q := 34) (tgt := 41) g dX9_bucketsAt_31 rfl rfl (fun c5 => ?_) (fun c5 => ?_)
    · replace hM := zw_ift c5 hM
      refine zr_iconst (q := 42) (v := (0 : Int32)) g dX9_bucketsAt_41 rfl (by decide) ?_
      refine zr_lv (lv' := [(0, .ref (E.2.1 31)), (1, .ref (E.2.1 pp)), (2, .int x2), (3, .int x3), (5, .int x5)]) [0, 1, 2, 3, 5] rfl ?_
      exact U_X9_bucketsAt_42 k_pp ok hI g hr hlk eL6 _ _ _ _ _ _ hM
    · replace hM := zw_iff c5 hM
      refine zr_iconst (q := 35) (v := (1 : Int32)) g dX9_bucketsAt_34 rfl (by decide) ?_
      refine zr_iload (q := 37) g 5 dX9_bucketsAt_35 rfl rfl ?_
      refine zr_ishl (q := 38) g dX9_bucketsAt_37 rfl ?_
      refine zr_goto (tgt := 42) g dX9_bucketsAt_38 rfl ?_
      refine zr_lv (lv' := [(0, .ref (E.2.1 31)), (1, .ref (E.2.1 pp)), (2, .int x2), (3, .int x3), (5, .int x5)]) [0, 1, 2, 3, 5] rfl ?_
      exact U_X9_bucketsAt_42 k_pp ok hI g hr hlk eL6 _ _ _ _ _ _ hM
noncomputable def L_X9_bucketsAt_6 (pp : Nat) (h : zw_Hp) (w : Int32 × Int32 × Int32 × Int32) : Option (Int32) :=
  zw_it (fun (k6 : (Int32 × Int32 × Int32 × Int32) → Option (Int32)) (w : Int32 × Int32 × Int32 × Int32) => B_X9_bucketsAt_6 pp h k6 (w.1) (w.2.1) (w.2.2.1) (w.2.2.2)) 600 w
theorem UL_X9_bucketsAt_6 {pp : Nat} (k_pp : pp = 37 ∨ pp = 38) {h : zw_Hp} (ok : zw_Ok E) (hI : ∀ i, i < 48 → i ∈ E.2.2.1) (g : zw_G p E (zw_A E) s m args c RX9 cX9_bucketsAt 6) (hr : meth.sig.returnType = some .int) (hlk : meth.locks = false) :
    ∀ (w : Int32 × Int32 × Int32 × Int32) (z : Int32), L_X9_bucketsAt_6 pp h w = some z → zw_V p l e s m args below meth c E mt_X9_bucketsAt 6 (some (.int z)) h 6 [(0, .ref (E.2.1 31)), (1, .ref (E.2.1 pp)), (2, .int w.1), (3, .int w.2.1), (4, .int w.2.2.1), (5, .int w.2.2.2)] [] h :=
  fun w z hM => zw_it_ind (P := fun (w : Int32 × Int32 × Int32 × Int32) (z : Int32) => zw_V p l e s m args below meth c E mt_X9_bucketsAt 6 (some (.int z)) h 6 [(0, .ref (E.2.1 31)), (1, .ref (E.2.1 pp)), (2, .int w.1), (3, .int w.2.1), (4, .int w.2.2.1), (5, .int w.2.2.2)] [] h) (fun k e w z hM => U_X9_bucketsAt_6 k_pp ok hI g hr hlk e _ _ _ _ _ hM) 600 w z hM
noncomputable def M_X9_bucketsAt (pp : Nat) (x2 : Int32) (x3 : Int32) (h : zw_Hp) : Option (Int32) :=
  L_X9_bucketsAt_6 pp h (x2, x3, (0 : Int32), (0 : Int32))
set_option maxRecDepth 100000 in
set_option maxHeartbeats 4000000 in
theorem R_X9_bucketsAt {pp : Nat} (k_pp : pp = 37 ∨ pp = 38) (ok : zw_Ok E) (hI : ∀ i, i < 48 → i ∈ E.2.2.1) {x2 : Int32} {x3 : Int32} {h : zw_Hp} {z : Int32} (hM : M_X9_bucketsAt pp x2 x3 h = some z) : zw_Ct l E mt_X9_bucketsAt [.ref (E.2.1 31), .ref (E.2.1 pp), .int x2, .int x3] h (some (.int z)) h := by
  unfold M_X9_bucketsAt at hM
  refine zw_ct (lv0 := [(0, .ref (E.2.1 31)), (1, .ref (E.2.1 pp)), (2, .int x2), (3, .int x3)]) ok (by decide) rfl (Nat.le_of_ble_eq_true rfl) (fun p e s m args below meth c g hr hlk => ?_)
  replace g : zw_G p E (zw_A E) s m args c RX9 cX9_bucketsAt 6 := g
  show zw_V p l e s m args below meth c E mt_X9_bucketsAt 6 (some (.int z)) h 0 [(0, .ref (E.2.1 31)), (1, .ref (E.2.1 pp)), (2, .int x2), (3, .int x3)] [] h
  refine zr_iconst (q := 1) (v := (0 : Int32)) g dX9_bucketsAt_0 rfl (by decide) ?_
  refine zr_istore (q := 3) (lv' := [(4, .int (0 : Int32)), (0, .ref (E.2.1 31)), (1, .ref (E.2.1 pp)), (2, .int x2), (3, .int x3)]) g dX9_bucketsAt_1 rfl (by decide) rfl ?_
  refine zr_iconst (q := 4) (v := (0 : Int32)) g dX9_bucketsAt_3 rfl (by decide) ?_
  refine zr_istore (q := 6) (lv' := [(5, .int (0 : Int32)), (4, .int (0 : Int32)), (0, .ref (E.2.1 31)), (1, .ref (E.2.1 pp)), (2, .int x2), (3, .int x3)]) g dX9_bucketsAt_4 rfl (by decide) rfl ?_
  refine zr_lv (lv' := [(0, .ref (E.2.1 31)), (1, .ref (E.2.1 pp)), (2, .int x2), (3, .int x3), (4, .int (0 : Int32)), (5, .int (0 : Int32))]) [2, 3, 4, 5, 1, 0] rfl ?_
  exact UL_X9_bucketsAt_6 k_pp ok hI g hr hlk _ _ hM
noncomputable def B_X9_standsWith_33 (pp : Nat) (h : zw_Hp) (k4 : (Int32 × Int32) → Option (Int32)) (x3 : Int32) (s0 : Int32) (s1 : Int32) : Option (Int32) :=
  zw_nm (s1 ||| s0) (fun y5 => zw_nm (x3 + (1 : Int32)) (fun y7 => k4 (y5, y7)))
set_option maxRecDepth 100000 in
set_option maxHeartbeats 4000000 in
theorem U_X9_standsWith_33 {pp : Nat} (k_pp : pp = 37 ∨ pp = 38) {h : zw_Hp} (ok : zw_Ok E) (hI : ∀ i, i < 48 → i ∈ E.2.2.1) (g : zw_G p E (zw_A E) s m args c RX9 cX9_standsWith 4) (hr : meth.sig.returnType = some .int) (hlk : meth.locks = false) {k4 : (Int32 × Int32) → Option (Int32)} (eL4 : ∀ (w : Int32 × Int32) (z : Int32), k4 w = some z → zw_V p l e s m args below meth c E mt_X9_standsWith 4 (some (.int z)) h 4 [(0, .ref (E.2.1 31)), (1, .ref (E.2.1 pp)), (2, .int w.1), (3, .int w.2)] [] h) :
    ∀ (x3 : Int32) (s0 : Int32) (s1 : Int32) (z : Int32), B_X9_standsWith_33 pp h k4 x3 s0 s1 = some z → zw_V p l e s m args below meth c E mt_X9_standsWith 4 (some (.int z)) h 33 [(0, .ref (E.2.1 31)), (1, .ref (E.2.1 pp)), (3, .int x3)] [.int s0, .int s1] h := by
  intro x3 s0 s1 z hM
  unfold B_X9_standsWith_33 at hM
  refine zr_ior (q := 34) g dX9_standsWith_33 rfl ?_
  obtain ⟨y5, e6, hM⟩ := zw_nm_ex hM
  refine zr_nmi e6 ?_
  refine zr_istore_n (q := 35) (lv' := [(2, .int y5), (0, .ref (E.2.1 31)), (1, .ref (E.2.1 pp)), (3, .int x3)]) g dX9_standsWith_34 rfl rfl (by decide) rfl ?_
  obtain ⟨y7, e8, hM⟩ := zw_nm_ex hM
  refine zr_iinc (q := 38) (v := y7) (lv' := [(3, .int y7), (2, .int y5), (0, .ref (E.2.1 31)), (1, .ref (E.2.1 pp))]) g 3 dX9_standsWith_35 rfl rfl (by rw [e8]; rfl) (by decide) rfl ?_
  refine zr_goto (tgt := 4) g dX9_standsWith_38 rfl ?_
  refine zr_lv (lv' := [(0, .ref (E.2.1 31)), (1, .ref (E.2.1 pp)), (2, .int y5), (3, .int y7)]) [2, 3, 1, 0] rfl ?_
  exact eL4 _ _ hM
noncomputable def B_X9_standsWith_4 (pp : Nat) (h : zw_Hp) (k4 : (Int32 × Int32) → Option (Int32)) (x2 : Int32) (x3 : Int32) : Option (Int32) :=
  if (h.1 31 8) ≤ x3 then (some x2) else (if zw_ok ((5 : Int32) + x3) 21 = true then (if (5 : Int32) ≤ (h.1 pp (((5 : Int32) + x3)).toNatClampNeg) then (B_X9_standsWith_33 pp h k4 x3 (0 : Int32) x2) else (if zw_ok ((5 : Int32) + x3) 21 = true then (B_X9_standsWith_33 pp h k4 x3 ((1 : Int32) <<< ((h.1 pp (((5 : Int32) + x3)).toNatClampNeg) &&& 31)) x2) else none)) else none)
set_option maxRecDepth 100000 in
set_option maxHeartbeats 4000000 in
theorem U_X9_standsWith_4 {pp : Nat} (k_pp : pp = 37 ∨ pp = 38) {h : zw_Hp} (ok : zw_Ok E) (hI : ∀ i, i < 48 → i ∈ E.2.2.1) (g : zw_G p E (zw_A E) s m args c RX9 cX9_standsWith 4) (hr : meth.sig.returnType = some .int) (hlk : meth.locks = false) {k4 : (Int32 × Int32) → Option (Int32)} (eL4 : ∀ (w : Int32 × Int32) (z : Int32), k4 w = some z → zw_V p l e s m args below meth c E mt_X9_standsWith 4 (some (.int z)) h 4 [(0, .ref (E.2.1 31)), (1, .ref (E.2.1 pp)), (2, .int w.1), (3, .int w.2)] [] h) :
    ∀ (x2 : Int32) (x3 : Int32) (z : Int32), B_X9_standsWith_4 pp h k4 x2 x3 = some z → zw_V p l e s m args below meth c E mt_X9_standsWith 4 (some (.int z)) h 4 [(0, .ref (E.2.1 31)), (1, .ref (E.2.1 pp)), (2, .int x2), (3, .int x3)] [] h := by
  intro x2 x3 z hM
  unfold B_X9_standsWith_4 at hM
  refine zr_iload_n (q := 5) g 3 dX9_standsWith_4 rfl rfl rfl ?_
  refine zr_aload_n (q := 6) g 0 dX9_standsWith_5 rfl rfl rfl ?_
  refine zr_geti (q := 9) (k0 := 8) g (hI 31 (by decide)) zs_31 rfl zf_X9_70 dX9_standsWith_6 rfl ?_
  refine zr_icmp_ge (q := 12) (tgt := 41) g dX9_standsWith_9 rfl rfl (fun c1 => ?_) (fun c1 => ?_)
  · replace hM := zw_ift c1 hM
    refine zr_iload_n (q := 42) g 2 dX9_standsWith_41 rfl rfl rfl ?_
    cases hM
    exact zr_iret g hr hlk dX9_standsWith_42 rfl rfl
  · replace hM := zw_iff c1 hM
    refine zr_iload_n (q := 13) g 2 dX9_standsWith_12 rfl rfl rfl ?_
    refine zr_aload_n (q := 14) g 1 dX9_standsWith_13 rfl rfl rfl ?_
    refine zr_iconst (q := 15) (v := (5 : Int32)) g dX9_standsWith_14 rfl (by decide) ?_
    refine zr_iload_n (q := 16) g 3 dX9_standsWith_15 rfl rfl rfl ?_
    refine zr_iadd (q := 17) g dX9_standsWith_16 rfl ?_
    obtain ⟨c2, hM⟩ := zw_gd hM
    refine zr_iald (q := 18) g (hI _ (zb_pg0 k_pp)) (zs_pg0 k_pp) c2 dX9_standsWith_17 rfl ?_
    refine zr_iconst (q := 19) (v := (5 : Int32)) g dX9_standsWith_18 rfl (by decide) ?_
    refine zr_icmp_ge (q := 22) (tgt := 32) g dX9_standsWith_19 rfl rfl (fun c3 => ?_) (fun c3 => ?_)
    · replace hM := zw_ift c3 hM
      refine zr_iconst (q := 33) (v := (0 : Int32)) g dX9_standsWith_32 rfl (by decide) ?_
      refine zr_lv (lv' := [(0, .ref (E.2.1 31)), (1, .ref (E.2.1 pp)), (3, .int x3)]) [0, 1, 3] rfl ?_
      exact U_X9_standsWith_33 k_pp ok hI g hr hlk eL4 _ _ _ _ hM
    · replace hM := zw_iff c3 hM
      refine zr_iconst (q := 23) (v := (1 : Int32)) g dX9_standsWith_22 rfl (by decide) ?_
      refine zr_aload_n (q := 24) g 1 dX9_standsWith_23 rfl rfl rfl ?_
      refine zr_iconst (q := 25) (v := (5 : Int32)) g dX9_standsWith_24 rfl (by decide) ?_
      refine zr_iload_n (q := 26) g 3 dX9_standsWith_25 rfl rfl rfl ?_
      refine zr_iadd (q := 27) g dX9_standsWith_26 rfl ?_
      obtain ⟨c4, hM⟩ := zw_gd hM
      refine zr_iald (q := 28) g (hI _ (zb_pg0 k_pp)) (zs_pg0 k_pp) c4 dX9_standsWith_27 rfl ?_
      refine zr_ishl (q := 29) g dX9_standsWith_28 rfl ?_
      refine zr_goto (tgt := 33) g dX9_standsWith_29 rfl ?_
      refine zr_lv (lv' := [(0, .ref (E.2.1 31)), (1, .ref (E.2.1 pp)), (3, .int x3)]) [0, 1, 3] rfl ?_
      exact U_X9_standsWith_33 k_pp ok hI g hr hlk eL4 _ _ _ _ hM
noncomputable def L_X9_standsWith_4 (pp : Nat) (h : zw_Hp) (w : Int32 × Int32) : Option (Int32) :=
  zw_it (fun (k4 : (Int32 × Int32) → Option (Int32)) (w : Int32 × Int32) => B_X9_standsWith_4 pp h k4 (w.1) (w.2)) 600 w
theorem UL_X9_standsWith_4 {pp : Nat} (k_pp : pp = 37 ∨ pp = 38) {h : zw_Hp} (ok : zw_Ok E) (hI : ∀ i, i < 48 → i ∈ E.2.2.1) (g : zw_G p E (zw_A E) s m args c RX9 cX9_standsWith 4) (hr : meth.sig.returnType = some .int) (hlk : meth.locks = false) :
    ∀ (w : Int32 × Int32) (z : Int32), L_X9_standsWith_4 pp h w = some z → zw_V p l e s m args below meth c E mt_X9_standsWith 4 (some (.int z)) h 4 [(0, .ref (E.2.1 31)), (1, .ref (E.2.1 pp)), (2, .int w.1), (3, .int w.2)] [] h :=
  fun w z hM => zw_it_ind (P := fun (w : Int32 × Int32) (z : Int32) => zw_V p l e s m args below meth c E mt_X9_standsWith 4 (some (.int z)) h 4 [(0, .ref (E.2.1 31)), (1, .ref (E.2.1 pp)), (2, .int w.1), (3, .int w.2)] [] h) (fun k e w z hM => U_X9_standsWith_4 k_pp ok hI g hr hlk e _ _ _ hM) 600 w z hM
noncomputable def M_X9_standsWith (pp : Nat) (h : zw_Hp) : Option (Int32) :=
  L_X9_standsWith_4 pp h ((0 : Int32), (0 : Int32))
set_option maxRecDepth 100000 in
set_option maxHeartbeats 4000000 in
theorem R_X9_standsWith {pp : Nat} (k_pp : pp = 37 ∨ pp = 38) (ok : zw_Ok E) (hI : ∀ i, i < 48 → i ∈ E.2.2.1) {h : zw_Hp} {z : Int32} (hM : M_X9_standsWith pp h = some z) : zw_Ct l E mt_X9_standsWith [.ref (E.2.1 31), .ref (E.2.1 pp)] h (some (.int z)) h := by
  unfold M_X9_standsWith at hM
  refine zw_ct (lv0 := [(0, .ref (E.2.1 31)), (1, .ref (E.2.1 pp))]) ok (by decide) rfl (Nat.le_of_ble_eq_true rfl) (fun p e s m args below meth c g hr hlk => ?_)
  replace g : zw_G p E (zw_A E) s m args c RX9 cX9_standsWith 4 := g
  show zw_V p l e s m args below meth c E mt_X9_standsWith 4 (some (.int z)) h 0 [(0, .ref (E.2.1 31)), (1, .ref (E.2.1 pp))] [] h
  refine zr_iconst (q := 1) (v := (0 : Int32)) g dX9_standsWith_0 rfl (by decide) ?_
  refine zr_istore_n (q := 2) (lv' := [(2, .int (0 : Int32)), (0, .ref (E.2.1 31)), (1, .ref (E.2.1 pp))]) g dX9_standsWith_1 rfl rfl (by decide) rfl ?_
  refine zr_iconst (q := 3) (v := (0 : Int32)) g dX9_standsWith_2 rfl (by decide) ?_
  refine zr_istore_n (q := 4) (lv' := [(3, .int (0 : Int32)), (2, .int (0 : Int32)), (0, .ref (E.2.1 31)), (1, .ref (E.2.1 pp))]) g dX9_standsWith_3 rfl rfl (by decide) rfl ?_
  refine zr_lv (lv' := [(0, .ref (E.2.1 31)), (1, .ref (E.2.1 pp)), (2, .int (0 : Int32)), (3, .int (0 : Int32))]) [2, 3, 1, 0] rfl ?_
  exact UL_X9_standsWith_4 k_pp ok hI g hr hlk _ _ hM
noncomputable def M_X9_about (x1 : Int32) (h : zw_Hp) : Option (Int32 × zw_Hp) :=
  zw_nm (zw_up h 31 0 (0 : Int32)) (fun h1 => if x1 = (0 : Int32) then (some ((h1.1 31 6), h1)) else (if x1 = (1 : Int32) then (some ((h1.1 31 8), h1)) else (if x1 = (2 : Int32) then (if zw_ok (18 : Int32) 21 = true then (some ((h1.1 37 ((18 : Int32)).toNatClampNeg), h1)) else none) else (if x1 = (3 : Int32) then (some ((h1.1 31 4), h1)) else (if x1 = (4 : Int32) then (some ((h1.1 31 5), h1)) else (if x1 = (5 : Int32) then (if zw_ok (20 : Int32) 21 = true then (some ((h1.1 37 ((20 : Int32)).toNatClampNeg), h1)) else none) else (if x1 = (6 : Int32) then (if zw_ok (19 : Int32) 21 = true then (some ((h1.1 37 ((19 : Int32)).toNatClampNeg), h1)) else none) else (if x1 = (7 : Int32) then ((M_X9_standsWith 37 h1).bind (fun z14 => some (z14, h1))) else (if x1 = (8 : Int32) then ((M_X9_bucketsAt 37 (8 : Int32) (8 : Int32) h1).bind (fun z17 => some (z17, h1))) else (if x1 = (9 : Int32) then ((M_X9_bucketsAt 37 (9 : Int32) (9 : Int32) h1).bind (fun z20 => some (z20, h1))) else (if x1 = (10 : Int32) then (if zw_ok (17 : Int32) 21 = true then (some ((h1.1 37 ((17 : Int32)).toNatClampNeg), h1)) else none) else (if x1 = (11 : Int32) then (some ((h1.1 31 21), h1)) else (if x1 = (12 : Int32) then (some ((h1.1 31 24), h1)) else (if x1 = (13 : Int32) then (some ((h1.1 31 2), h1)) else (some ((-2 : Int32), h1))))))))))))))))
set_option maxRecDepth 100000 in
set_option maxHeartbeats 4000000 in
theorem R_X9_about (ok : zw_Ok E) (hI : ∀ i, i < 48 → i ∈ E.2.2.1) {x1 : Int32} {h : zw_Hp} {z : Int32 × zw_Hp} (hM : M_X9_about x1 h = some z) : zw_Ct l E mt_X9_about [.ref (E.2.1 31), .int x1] h (some (.int z.1)) z.2 := by
  unfold M_X9_about at hM
  refine zw_ct (lv0 := [(0, .ref (E.2.1 31)), (1, .int x1)]) ok (by decide) rfl (Nat.le_of_ble_eq_true rfl) (fun p e s m args below meth c g hr hlk => ?_)
  replace g : zw_G p E (zw_A E) s m args c RX9 cX9_about 2 := g
  show zw_V p l e s m args below meth c E mt_X9_about 2 (some (.int z.1)) z.2 0 [(0, .ref (E.2.1 31)), (1, .int x1)] [] h
  refine zr_aload_n (q := 1) g 0 dX9_about_0 rfl rfl rfl ?_
  refine zr_iconst (q := 2) (v := (0 : Int32)) g dX9_about_1 rfl (by decide) ?_
  obtain ⟨h1, e2, hM⟩ := zw_nm_ex hM
  refine zr_puti (q := 5) (k0 := 0) (h' := h1) g (hI 31 (by decide)) zs_31 rfl zp_X9_59 dX9_about_2 rfl e2 ?_
  refine zr_iload_n (q := 6) g 1 dX9_about_5 rfl rfl rfl ?_
  by_cases c3 : x1 = (0 : Int32)
  · replace hM := zw_ift c3 hM
    refine zr_tabIn (tgt := 76) (off := 70) g dX9_about_6 c3 (by decide) rfl ?_
    refine zr_aload_n (q := 77) g 0 dX9_about_76 rfl rfl rfl ?_
    refine zr_geti (q := 80) (k0 := 6) g (hI 31 (by decide)) zs_31 rfl zf_X9_63 dX9_about_77 rfl ?_
    cases hM
    exact zr_iret g hr hlk dX9_about_80 rfl rfl
  · replace hM := zw_iff c3 hM
    by_cases c4 : x1 = (1 : Int32)
    · replace hM := zw_ift c4 hM
      refine zr_tabIn (tgt := 81) (off := 75) g dX9_about_6 c4 (by decide) rfl ?_
      refine zr_aload_n (q := 82) g 0 dX9_about_81 rfl rfl rfl ?_
      refine zr_geti (q := 85) (k0 := 8) g (hI 31 (by decide)) zs_31 rfl zf_X9_70 dX9_about_82 rfl ?_
      cases hM
      exact zr_iret g hr hlk dX9_about_85 rfl rfl
    · replace hM := zw_iff c4 hM
      by_cases c5 : x1 = (2 : Int32)
      · replace hM := zw_ift c5 hM
        refine zr_tabIn (tgt := 86) (off := 80) g dX9_about_6 c5 (by decide) rfl ?_
        refine zr_aload_n (q := 87) g 0 dX9_about_86 rfl rfl rfl ?_
        refine zr_getr (q := 90) (k0 := 18) (j := 37) g (hI 31 (by decide)) zs_31 rfl zf_X9_25 dX9_about_87 rfl ?_
        refine zr_bipush (q := 92) (v := (18 : Int32)) g dX9_about_90 rfl (by decide) ?_
        obtain ⟨c6, hM⟩ := zw_gd hM
        refine zr_iald (q := 93) g (hI 37 (by decide)) zs_37 c6 dX9_about_92 rfl ?_
        cases hM
        exact zr_iret g hr hlk dX9_about_93 rfl rfl
      · replace hM := zw_iff c5 hM
        by_cases c7 : x1 = (3 : Int32)
        · replace hM := zw_ift c7 hM
          refine zr_tabIn (tgt := 94) (off := 88) g dX9_about_6 c7 (by decide) rfl ?_
          refine zr_aload_n (q := 95) g 0 dX9_about_94 rfl rfl rfl ?_
          refine zr_geti (q := 98) (k0 := 4) g (hI 31 (by decide)) zs_31 rfl zf_X9_120 dX9_about_95 rfl ?_
          cases hM
          exact zr_iret g hr hlk dX9_about_98 rfl rfl
        · replace hM := zw_iff c7 hM
          by_cases c8 : x1 = (4 : Int32)
          · replace hM := zw_ift c8 hM
            refine zr_tabIn (tgt := 99) (off := 93) g dX9_about_6 c8 (by decide) rfl ?_
            refine zr_aload_n (q := 100) g 0 dX9_about_99 rfl rfl rfl ?_
            refine zr_geti (q := 103) (k0 := 5) g (hI 31 (by decide)) zs_31 rfl zf_X9_123 dX9_about_100 rfl ?_
            cases hM
            exact zr_iret g hr hlk dX9_about_103 rfl rfl
          · replace hM := zw_iff c8 hM
            by_cases c9 : x1 = (5 : Int32)
            · replace hM := zw_ift c9 hM
              refine zr_tabIn (tgt := 104) (off := 98) g dX9_about_6 c9 (by decide) rfl ?_
              refine zr_aload_n (q := 105) g 0 dX9_about_104 rfl rfl rfl ?_
              refine zr_getr (q := 108) (k0 := 18) (j := 37) g (hI 31 (by decide)) zs_31 rfl zf_X9_25 dX9_about_105 rfl ?_
              refine zr_bipush (q := 110) (v := (20 : Int32)) g dX9_about_108 rfl (by decide) ?_
              obtain ⟨c10, hM⟩ := zw_gd hM
              refine zr_iald (q := 111) g (hI 37 (by decide)) zs_37 c10 dX9_about_110 rfl ?_
              cases hM
              exact zr_iret g hr hlk dX9_about_111 rfl rfl
            · replace hM := zw_iff c9 hM
              by_cases c11 : x1 = (6 : Int32)
              · replace hM := zw_ift c11 hM
                refine zr_tabIn (tgt := 112) (off := 106) g dX9_about_6 c11 (by decide) rfl ?_
                refine zr_aload_n (q := 113) g 0 dX9_about_112 rfl rfl rfl ?_
                refine zr_getr (q := 116) (k0 := 18) (j := 37) g (hI 31 (by decide)) zs_31 rfl zf_X9_25 dX9_about_113 rfl ?_
                refine zr_bipush (q := 118) (v := (19 : Int32)) g dX9_about_116 rfl (by decide) ?_
                obtain ⟨c12, hM⟩ := zw_gd hM
                refine zr_iald (q := 119) g (hI 37 (by decide)) zs_37 c12 dX9_about_118 rfl ?_
                cases hM
                exact zr_iret g hr hlk dX9_about_119 rfl rfl
              · replace hM := zw_iff c11 hM
                by_cases c13 : x1 = (7 : Int32)
                · replace hM := zw_ift c13 hM
                  refine zr_tabIn (tgt := 120) (off := 114) g dX9_about_6 c13 (by decide) rfl ?_
                  refine zr_aload_n (q := 121) g 0 dX9_about_120 rfl rfl rfl ?_
                  refine zr_aload_n (q := 122) g 0 dX9_about_121 rfl rfl rfl ?_
                  refine zr_getr (q := 125) (k0 := 18) (j := 37) g (hI 31 (by decide)) zs_31 rfl zf_X9_25 dX9_about_122 rfl ?_
                  obtain ⟨z14, q15, hM⟩ := zw_bd hM
                  refine zr_callV (q := 128) (As := [.ref (E.2.1 37)]) (rest := []) (st' := [.int z14]) (i := 31) g (R_X9_standsWith (Or.inl rfl) ok hI q15) zv_X9_standsWith zl_X9_166 (hI 31 (by decide)) zs_31 zc_X9.1 dX9_about_125 rfl rfl ⟨Nat.le_of_ble_eq_true rfl, Nat.le_of_ble_eq_true rfl⟩ ⟨Nat.zero_le _, Nat.zero_le _⟩ (Nat.le_of_ble_eq_true rfl) rfl rfl ?_
                  cases hM
                  exact zr_iret g hr hlk dX9_about_128 rfl rfl
                · replace hM := zw_iff c13 hM
                  by_cases c16 : x1 = (8 : Int32)
                  · replace hM := zw_ift c16 hM
                    refine zr_tabIn (tgt := 129) (off := 123) g dX9_about_6 c16 (by decide) rfl ?_
                    refine zr_aload_n (q := 130) g 0 dX9_about_129 rfl rfl rfl ?_
                    refine zr_aload_n (q := 131) g 0 dX9_about_130 rfl rfl rfl ?_
                    refine zr_getr (q := 134) (k0 := 18) (j := 37) g (hI 31 (by decide)) zs_31 rfl zf_X9_25 dX9_about_131 rfl ?_
                    refine zr_bipush (q := 136) (v := (8 : Int32)) g dX9_about_134 rfl (by decide) ?_
                    refine zr_bipush (q := 138) (v := (8 : Int32)) g dX9_about_136 rfl (by decide) ?_
                    obtain ⟨z17, q18, hM⟩ := zw_bd hM
                    refine zr_callV (q := 141) (As := [.ref (E.2.1 37), .int (8 : Int32), .int (8 : Int32)]) (rest := []) (st' := [.int z17]) (i := 31) g (R_X9_bucketsAt (Or.inl rfl) ok hI q18) zv_X9_bucketsAt zl_X9_170 (hI 31 (by decide)) zs_31 zc_X9.1 dX9_about_138 rfl rfl ⟨Nat.le_of_ble_eq_true rfl, Nat.le_of_ble_eq_true rfl⟩ ⟨Nat.zero_le _, Nat.zero_le _⟩ (Nat.le_of_ble_eq_true rfl) rfl rfl ?_
                    cases hM
                    exact zr_iret g hr hlk dX9_about_141 rfl rfl
                  · replace hM := zw_iff c16 hM
                    by_cases c19 : x1 = (9 : Int32)
                    · replace hM := zw_ift c19 hM
                      refine zr_tabIn (tgt := 142) (off := 136) g dX9_about_6 c19 (by decide) rfl ?_
                      refine zr_aload_n (q := 143) g 0 dX9_about_142 rfl rfl rfl ?_
                      refine zr_aload_n (q := 144) g 0 dX9_about_143 rfl rfl rfl ?_
                      refine zr_getr (q := 147) (k0 := 18) (j := 37) g (hI 31 (by decide)) zs_31 rfl zf_X9_25 dX9_about_144 rfl ?_
                      refine zr_bipush (q := 149) (v := (9 : Int32)) g dX9_about_147 rfl (by decide) ?_
                      refine zr_bipush (q := 151) (v := (9 : Int32)) g dX9_about_149 rfl (by decide) ?_
                      obtain ⟨z20, q21, hM⟩ := zw_bd hM
                      refine zr_callV (q := 154) (As := [.ref (E.2.1 37), .int (9 : Int32), .int (9 : Int32)]) (rest := []) (st' := [.int z20]) (i := 31) g (R_X9_bucketsAt (Or.inl rfl) ok hI q21) zv_X9_bucketsAt zl_X9_170 (hI 31 (by decide)) zs_31 zc_X9.1 dX9_about_151 rfl rfl ⟨Nat.le_of_ble_eq_true rfl, Nat.le_of_ble_eq_true rfl⟩ ⟨Nat.zero_le _, Nat.zero_le _⟩ (Nat.le_of_ble_eq_true rfl) rfl rfl ?_
                      cases hM
                      exact zr_iret g hr hlk dX9_about_154 rfl rfl
                    · replace hM := zw_iff c19 hM
                      by_cases c22 : x1 = (10 : Int32)
                      · replace hM := zw_ift c22 hM
                        refine zr_tabIn (tgt := 155) (off := 149) g dX9_about_6 c22 (by decide) rfl ?_
                        refine zr_aload_n (q := 156) g 0 dX9_about_155 rfl rfl rfl ?_
                        refine zr_getr (q := 159) (k0 := 18) (j := 37) g (hI 31 (by decide)) zs_31 rfl zf_X9_25 dX9_about_156 rfl ?_
                        refine zr_bipush (q := 161) (v := (17 : Int32)) g dX9_about_159 rfl (by decide) ?_
                        obtain ⟨c23, hM⟩ := zw_gd hM
                        refine zr_iald (q := 162) g (hI 37 (by decide)) zs_37 c23 dX9_about_161 rfl ?_
                        cases hM
                        exact zr_iret g hr hlk dX9_about_162 rfl rfl
                      · replace hM := zw_iff c22 hM
                        by_cases c24 : x1 = (11 : Int32)
                        · replace hM := zw_ift c24 hM
                          refine zr_tabIn (tgt := 163) (off := 157) g dX9_about_6 c24 (by decide) rfl ?_
                          refine zr_aload_n (q := 164) g 0 dX9_about_163 rfl rfl rfl ?_
                          refine zr_geti (q := 167) (k0 := 21) g (hI 31 (by decide)) zs_31 rfl zf_X9_126 dX9_about_164 rfl ?_
                          cases hM
                          exact zr_iret g hr hlk dX9_about_167 rfl rfl
                        · replace hM := zw_iff c24 hM
                          by_cases c25 : x1 = (12 : Int32)
                          · replace hM := zw_ift c25 hM
                            refine zr_tabIn (tgt := 168) (off := 162) g dX9_about_6 c25 (by decide) rfl ?_
                            refine zr_aload_n (q := 169) g 0 dX9_about_168 rfl rfl rfl ?_
                            refine zr_geti (q := 172) (k0 := 24) g (hI 31 (by decide)) zs_31 rfl zf_X9_174 dX9_about_169 rfl ?_
                            cases hM
                            exact zr_iret g hr hlk dX9_about_172 rfl rfl
                          · replace hM := zw_iff c25 hM
                            by_cases c26 : x1 = (13 : Int32)
                            · replace hM := zw_ift c26 hM
                              refine zr_tabIn (tgt := 173) (off := 167) g dX9_about_6 c26 (by decide) rfl ?_
                              refine zr_aload_n (q := 174) g 0 dX9_about_173 rfl rfl rfl ?_
                              refine zr_geti (q := 177) (k0 := 2) g (hI 31 (by decide)) zs_31 rfl zf_X9_75 dX9_about_174 rfl ?_
                              cases hM
                              exact zr_iret g hr hlk dX9_about_177 rfl rfl
                            · replace hM := zw_iff c26 hM
                              have hx : (x1).toInt < 0 ∨ 13 < (x1).toInt := by
                                  have := lv_neT (a := 0) c3 (by decide)
                                  have := lv_neT (a := 1) c4 (by decide)
                                  have := lv_neT (a := 2) c5 (by decide)
                                  have := lv_neT (a := 3) c7 (by decide)
                                  have := lv_neT (a := 4) c8 (by decide)
                                  have := lv_neT (a := 5) c9 (by decide)
                                  have := lv_neT (a := 6) c11 (by decide)
                                  have := lv_neT (a := 7) c13 (by decide)
                                  have := lv_neT (a := 8) c16 (by decide)
                                  have := lv_neT (a := 9) c19 (by decide)
                                  have := lv_neT (a := 10) c22 (by decide)
                                  have := lv_neT (a := 11) c24 (by decide)
                                  have := lv_neT (a := 12) c25 (by decide)
                                  have := lv_neT (a := 13) c26 (by decide)
                                  omega
                              refine zr_tabOut (tgt := 178) g dX9_about_6 hx rfl ?_
                              refine zr_bipush (q := 180) (v := (-2 : Int32)) g dX9_about_178 rfl (by decide) ?_
                              cases hM
                              exact zr_iret g hr hlk dX9_about_180 rfl rfl
end
