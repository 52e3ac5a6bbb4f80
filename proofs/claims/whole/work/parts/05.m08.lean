section
variable {p : Program} {l : Launch} {e : Env} {s : State} {m : MethodId} {args : Array Value} {below : List Frame} {meth : Method} {c : Code} {E : zw_En}
noncomputable def B_X9_rests_90 (k44 : (Int32 × Int32 × Int32 × Int32 × zw_Hp) → Option (Int32 × zw_Hp)) (x1 : Int32) (x2 : Int32) (x3 : Int32) (x4 : Int32) (s0 : Int32) (s1 : Int32) (s2 : Int32) (h : zw_Hp) : Option (Int32 × zw_Hp) :=
  (M_X9_goBeats s2 (s1 &&& (s0 ^^^ (-1 : Int32))) h).bind (fun z22 => if zw_ok (19 : Int32) 21 = true then (if zw_ok (19 : Int32) 21 = true then (zw_nm ((z22.1 38 ((19 : Int32)).toNatClampNeg) - (z22.1 37 ((19 : Int32)).toNatClampNeg)) (fun y26 => if zw_ok ((2 : Int32) * x4) 8 = true then zw_nm (zw_up z22 45 (((2 : Int32) * x4)).toNatClampNeg (y26 - ((6 : Int32) * (x4 / (2 : Int32))))) (fun h29 => if zw_ok (((2 : Int32) * x4) + (1 : Int32)) 8 = true then zw_nm (zw_up h29 45 ((((2 : Int32) * x4) + (1 : Int32))).toNatClampNeg (y26 - ((6 : Int32) * (x4 - x4 / (2 : Int32) * (2 : Int32))))) (fun h32 => zw_nm (x4 + (1 : Int32)) (fun y34 => k44 (x1, x2, x3, y34, h32))) else none) else none)) else none) else none)
set_option maxRecDepth 100000 in
set_option maxHeartbeats 4000000 in
theorem U_X9_rests_90 (ok : zw_Ok E) (hI : ∀ i, i < 48 → i ∈ E.2.2.1) (g : zw_G p E (zw_A E) s m args c RX9 cX9_rests 6) (hr : meth.sig.returnType = some .int) (hlk : meth.locks = false) {k44 : (Int32 × Int32 × Int32 × Int32 × zw_Hp) → Option (Int32 × zw_Hp)} (eL44 : ∀ (w : Int32 × Int32 × Int32 × Int32 × zw_Hp) (z : Int32 × zw_Hp), k44 w = some z → zw_V p l e s m args below meth c E mt_X9_rests 6 (some (.int z.1)) z.2 44 [(0, .ref (E.2.1 31)), (1, .int w.1), (2, .int w.2.1), (3, .int w.2.2.1), (4, .int w.2.2.2.1)] [] w.2.2.2.2) :
    ∀ (x1 : Int32) (x2 : Int32) (x3 : Int32) (x4 : Int32) (s0 : Int32) (s1 : Int32) (s2 : Int32) (h : zw_Hp) (z : Int32 × zw_Hp), B_X9_rests_90 k44 x1 x2 x3 x4 s0 s1 s2 h = some z → zw_V p l e s m args below meth c E mt_X9_rests 6 (some (.int z.1)) z.2 90 [(0, .ref (E.2.1 31)), (1, .int x1), (2, .int x2), (3, .int x3), (4, .int x4)] [.int s0, .int s1, .int s2, .ref (E.2.1 31)] h := by
  intro x1 x2 x3 x4 s0 s1 s2 h z hM
  unfold B_X9_rests_90 at hM
  refine zr_iconst (q := 91) (v := (-1 : Int32)) g dX9_rests_90 rfl (by decide) ?_
  refine zr_ixor (q := 92) g dX9_rests_91 rfl ?_
  refine zr_iand (q := 93) g dX9_rests_92 rfl ?_
  obtain ⟨z22, q23, hM⟩ := zw_bd hM
  refine zr_callV (q := 96) (As := [.int s2, .int (s1 &&& (s0 ^^^ (-1 : Int32)))]) (rest := []) (st' := []) (i := 31) g (R_X9_goBeats ok hI q23) zv_X9_goBeats zl_X9_205 (hI 31 (by decide)) zs_31 zc_X9.1 dX9_rests_93 rfl rfl ⟨Nat.le_of_ble_eq_true rfl, Nat.le_of_ble_eq_true rfl⟩ ⟨Nat.zero_le _, Nat.zero_le _⟩ (Nat.le_of_ble_eq_true rfl) rfl rfl ?_
  refine zr_aload_n (q := 97) g 0 dX9_rests_96 rfl rfl rfl ?_
  refine zr_getr (q := 100) (k0 := 19) (j := 38) g (hI 31 (by decide)) zs_31 rfl zf_X9_28 dX9_rests_97 rfl ?_
  refine zr_bipush (q := 102) (v := (19 : Int32)) g dX9_rests_100 rfl (by decide) ?_
  obtain ⟨c24, hM⟩ := zw_gd hM
  refine zr_iald (q := 103) g (hI 38 (by decide)) zs_38 c24 dX9_rests_102 rfl ?_
  refine zr_aload_n (q := 104) g 0 dX9_rests_103 rfl rfl rfl ?_
  refine zr_getr (q := 107) (k0 := 18) (j := 37) g (hI 31 (by decide)) zs_31 rfl zf_X9_25 dX9_rests_104 rfl ?_
  refine zr_bipush (q := 109) (v := (19 : Int32)) g dX9_rests_107 rfl (by decide) ?_
  obtain ⟨c25, hM⟩ := zw_gd hM
  refine zr_iald (q := 110) g (hI 37 (by decide)) zs_37 c25 dX9_rests_109 rfl ?_
  refine zr_isub (q := 111) g dX9_rests_110 rfl ?_
  obtain ⟨y26, e27, hM⟩ := zw_nm_ex hM
  refine zr_nmi e27 ?_
  refine zr_istore (q := 113) (lv' := [(5, .int y26), (0, .ref (E.2.1 31)), (1, .int x1), (2, .int x2), (3, .int x3), (4, .int x4)]) g dX9_rests_111 rfl (by decide) rfl ?_
  refine zr_aload_n (q := 114) g 1 dX9_rests_113 rfl rfl rfl ?_
  refine zr_getr (q := 117) (k0 := 35) (j := 45) g (hI 31 (by decide)) zs_31 rfl zf_X9_50 dX9_rests_114 rfl ?_
  refine zr_iconst (q := 118) (v := (2 : Int32)) g dX9_rests_117 rfl (by decide) ?_
  refine zr_iload (q := 120) g 5 dX9_rests_118 rfl rfl ?_
  refine zr_imul (q := 121) g dX9_rests_120 rfl ?_
  refine zr_iload (q := 123) g 0 dX9_rests_121 rfl rfl ?_
  refine zr_bipush (q := 125) (v := (6 : Int32)) g dX9_rests_123 rfl (by decide) ?_
  refine zr_iload (q := 127) g 5 dX9_rests_125 rfl rfl ?_
  refine zr_iconst (q := 128) (v := (2 : Int32)) g dX9_rests_127 rfl (by decide) ?_
  refine zr_idiv (q := 129) g dX9_rests_128 rfl (by decide) ?_
  refine zr_imul (q := 130) g dX9_rests_129 rfl ?_
  refine zr_isub (q := 131) g dX9_rests_130 rfl ?_
  obtain ⟨c28, hM⟩ := zw_gd hM
  obtain ⟨h29, e30, hM⟩ := zw_nm_ex hM
  refine zr_iast (q := 132) (h' := h29) g (hI 45 (by decide)) zs_45 c28 dX9_rests_131 rfl e30 ?_
  refine zr_aload_n (q := 133) g 1 dX9_rests_132 rfl rfl rfl ?_
  refine zr_getr (q := 136) (k0 := 35) (j := 45) g (hI 31 (by decide)) zs_31 rfl zf_X9_50 dX9_rests_133 rfl ?_
  refine zr_iconst (q := 137) (v := (2 : Int32)) g dX9_rests_136 rfl (by decide) ?_
  refine zr_iload (q := 139) g 5 dX9_rests_137 rfl rfl ?_
  refine zr_imul (q := 140) g dX9_rests_139 rfl ?_
  refine zr_iconst (q := 141) (v := (1 : Int32)) g dX9_rests_140 rfl (by decide) ?_
  refine zr_iadd (q := 142) g dX9_rests_141 rfl ?_
  refine zr_iload (q := 144) g 0 dX9_rests_142 rfl rfl ?_
  refine zr_bipush (q := 146) (v := (6 : Int32)) g dX9_rests_144 rfl (by decide) ?_
  refine zr_iload (q := 148) g 5 dX9_rests_146 rfl rfl ?_
  refine zr_iconst (q := 149) (v := (2 : Int32)) g dX9_rests_148 rfl (by decide) ?_
  refine zr_irem (q := 150) g dX9_rests_149 rfl (by decide) ?_
  refine zr_imul (q := 151) g dX9_rests_150 rfl ?_
  refine zr_isub (q := 152) g dX9_rests_151 rfl ?_
  obtain ⟨c31, hM⟩ := zw_gd hM
  obtain ⟨h32, e33, hM⟩ := zw_nm_ex hM
  refine zr_iast (q := 153) (h' := h32) g (hI 45 (by decide)) zs_45 c31 dX9_rests_152 rfl e33 ?_
  obtain ⟨y34, e35, hM⟩ := zw_nm_ex hM
  refine zr_iinc (q := 156) (v := y34) (lv' := [(4, .int y34), (5, .int y26), (0, .ref (E.2.1 31)), (1, .int x1), (2, .int x2), (3, .int x3)]) g 5 dX9_rests_153 rfl rfl (by rw [e35]; rfl) (by decide) rfl ?_
  refine zr_goto (tgt := 44) g dX9_rests_156 rfl ?_
  refine zr_lv (lv' := [(0, .ref (E.2.1 31)), (1, .int x1), (2, .int x2), (3, .int x3), (4, .int y34)]) [2, 3, 4, 5, 0] rfl ?_
  exact eL44 _ _ hM
noncomputable def B_X9_rests_72 (k44 : (Int32 × Int32 × Int32 × Int32 × zw_Hp) → Option (Int32 × zw_Hp)) (x1 : Int32) (x2 : Int32) (x3 : Int32) (x4 : Int32) (s0 : Int32) (s1 : Int32) (s2 : Int32) (h : zw_Hp) : Option (Int32 × zw_Hp) :=
  if (x4 - x4 / (2 : Int32) * (2 : Int32)) = (1 : Int32) then (B_X9_rests_90 k44 x1 x2 x3 x4 (0 : Int32) (s1 &&& (s0 ^^^ (-1 : Int32))) s2 h) else (B_X9_rests_90 k44 x1 x2 x3 x4 ((1 : Int32) <<< (x2 &&& 31)) (s1 &&& (s0 ^^^ (-1 : Int32))) s2 h)
set_option maxRecDepth 100000 in
set_option maxHeartbeats 4000000 in
theorem U_X9_rests_72 (ok : zw_Ok E) (hI : ∀ i, i < 48 → i ∈ E.2.2.1) (g : zw_G p E (zw_A E) s m args c RX9 cX9_rests 6) (hr : meth.sig.returnType = some .int) (hlk : meth.locks = false) {k44 : (Int32 × Int32 × Int32 × Int32 × zw_Hp) → Option (Int32 × zw_Hp)} (eL44 : ∀ (w : Int32 × Int32 × Int32 × Int32 × zw_Hp) (z : Int32 × zw_Hp), k44 w = some z → zw_V p l e s m args below meth c E mt_X9_rests 6 (some (.int z.1)) z.2 44 [(0, .ref (E.2.1 31)), (1, .int w.1), (2, .int w.2.1), (3, .int w.2.2.1), (4, .int w.2.2.2.1)] [] w.2.2.2.2) :
    ∀ (x1 : Int32) (x2 : Int32) (x3 : Int32) (x4 : Int32) (s0 : Int32) (s1 : Int32) (s2 : Int32) (h : zw_Hp) (z : Int32 × zw_Hp), B_X9_rests_72 k44 x1 x2 x3 x4 s0 s1 s2 h = some z → zw_V p l e s m args below meth c E mt_X9_rests 6 (some (.int z.1)) z.2 72 [(0, .ref (E.2.1 31)), (1, .int x1), (2, .int x2), (3, .int x3), (4, .int x4)] [.int s0, .int s1, .int s2, .ref (E.2.1 31)] h := by
  intro x1 x2 x3 x4 s0 s1 s2 h z hM
  unfold B_X9_rests_72 at hM
  refine zr_iconst (q := 73) (v := (-1 : Int32)) g dX9_rests_72 rfl (by decide) ?_
  refine zr_ixor (q := 74) g dX9_rests_73 rfl ?_
  refine zr_iand (q := 75) g dX9_rests_74 rfl ?_
  refine zr_iload (q := 77) g 4 dX9_rests_75 rfl rfl ?_
  refine zr_iconst (q := 78) (v := (2 : Int32)) g dX9_rests_77 rfl (by decide) ?_
  refine zr_irem (q := 79) g dX9_rests_78 rfl (by decide) ?_
  refine zr_iconst (q := 80) (v := (1 : Int32)) g dX9_rests_79 rfl (by decide) ?_
  refine zr_icmp_ne (q := 83) (tgt := 87) g dX9_rests_80 rfl rfl (fun c21 => ?_) (fun c21 => ?_)
  · replace hM := zw_iff c21 hM
    refine zr_iconst (q := 88) (v := (1 : Int32)) g dX9_rests_87 rfl (by decide) ?_
    refine zr_iload_n (q := 89) g 2 dX9_rests_88 rfl rfl rfl ?_
    refine zr_ishl (q := 90) g dX9_rests_89 rfl ?_
    exact U_X9_rests_90 ok hI g hr hlk eL44 _ _ _ _ _ _ _ _ _ hM
  · replace hM := zw_ift c21 hM
    refine zr_iconst (q := 84) (v := (0 : Int32)) g dX9_rests_83 rfl (by decide) ?_
    refine zr_goto (tgt := 90) g dX9_rests_84 rfl ?_
    exact U_X9_rests_90 ok hI g hr hlk eL44 _ _ _ _ _ _ _ _ _ hM
noncomputable def B_X9_rests_286 (k173 : (Int32 × Int32 × zw_Hp) → Option (Int32 × zw_Hp)) (x3 : Int32) (x4 : Int32) (s0 : Int32) (s1 : Int32) (h : zw_Hp) : Option (Int32 × zw_Hp) :=
  zw_nm (zw_up h 31 33 (s1 + s0)) (fun h49 => zw_nm (x4 + (1 : Int32)) (fun y51 => k173 (x3, y51, h49)))
set_option maxRecDepth 100000 in
set_option maxHeartbeats 4000000 in
theorem U_X9_rests_286 (ok : zw_Ok E) (hI : ∀ i, i < 48 → i ∈ E.2.2.1) (g : zw_G p E (zw_A E) s m args c RX9 cX9_rests 6) (hr : meth.sig.returnType = some .int) (hlk : meth.locks = false) {k173 : (Int32 × Int32 × zw_Hp) → Option (Int32 × zw_Hp)} (eL173 : ∀ (w : Int32 × Int32 × zw_Hp) (z : Int32 × zw_Hp), k173 w = some z → zw_V p l e s m args below meth c E mt_X9_rests 6 (some (.int z.1)) z.2 173 [(0, .ref (E.2.1 31)), (3, .int w.1), (4, .int w.2.1)] [] w.2.2) :
    ∀ (x3 : Int32) (x4 : Int32) (s0 : Int32) (s1 : Int32) (h : zw_Hp) (z : Int32 × zw_Hp), B_X9_rests_286 k173 x3 x4 s0 s1 h = some z → zw_V p l e s m args below meth c E mt_X9_rests 6 (some (.int z.1)) z.2 286 [(0, .ref (E.2.1 31)), (3, .int x3), (4, .int x4)] [.int s0, .int s1, .ref (E.2.1 31)] h := by
  intro x3 x4 s0 s1 h z hM
  unfold B_X9_rests_286 at hM
  refine zr_iadd (q := 287) g dX9_rests_286 rfl ?_
  obtain ⟨h49, e50, hM⟩ := zw_nm_ex hM
  refine zr_puti (q := 290) (k0 := 33) (h' := h49) g (hI 31 (by decide)) zs_31 rfl zp_X9_270 dX9_rests_287 rfl e50 ?_
  obtain ⟨y51, e52, hM⟩ := zw_nm_ex hM
  refine zr_iinc (q := 293) (v := y51) (lv' := [(4, .int y51), (0, .ref (E.2.1 31)), (3, .int x3)]) g 2 dX9_rests_290 rfl rfl (by rw [e52]; rfl) (by decide) rfl ?_
  refine zr_goto (tgt := 173) g dX9_rests_293 rfl ?_
  refine zr_lv (lv' := [(0, .ref (E.2.1 31)), (3, .int x3), (4, .int y51)]) [1, 2, 0] rfl ?_
  exact eL173 _ _ hM
noncomputable def B_X9_rests_268 (k173 : (Int32 × Int32 × zw_Hp) → Option (Int32 × zw_Hp)) (x3 : Int32) (x4 : Int32) (x5 : Int32) (s0 : Int32) (h : zw_Hp) : Option (Int32 × zw_Hp) :=
  zw_nm (zw_up h 31 34 s0) (fun h46 => if x5 = 0 then (B_X9_rests_286 k173 x3 x4 (0 : Int32) (h46.1 31 33) h46) else (B_X9_rests_286 k173 x3 x4 (1 : Int32) (h46.1 31 33) h46))
set_option maxRecDepth 100000 in
set_option maxHeartbeats 4000000 in
theorem U_X9_rests_268 (ok : zw_Ok E) (hI : ∀ i, i < 48 → i ∈ E.2.2.1) (g : zw_G p E (zw_A E) s m args c RX9 cX9_rests 6) (hr : meth.sig.returnType = some .int) (hlk : meth.locks = false) {k173 : (Int32 × Int32 × zw_Hp) → Option (Int32 × zw_Hp)} (eL173 : ∀ (w : Int32 × Int32 × zw_Hp) (z : Int32 × zw_Hp), k173 w = some z → zw_V p l e s m args below meth c E mt_X9_rests 6 (some (.int z.1)) z.2 173 [(0, .ref (E.2.1 31)), (3, .int w.1), (4, .int w.2.1)] [] w.2.2) :
    ∀ (x3 : Int32) (x4 : Int32) (x5 : Int32) (s0 : Int32) (h : zw_Hp) (z : Int32 × zw_Hp), B_X9_rests_268 k173 x3 x4 x5 s0 h = some z → zw_V p l e s m args below meth c E mt_X9_rests 6 (some (.int z.1)) z.2 268 [(0, .ref (E.2.1 31)), (3, .int x3), (4, .int x4), (5, .int x5)] [.int s0, .ref (E.2.1 31)] h := by
  intro x3 x4 x5 s0 h z hM
  unfold B_X9_rests_268 at hM
  obtain ⟨h46, e47, hM⟩ := zw_nm_ex hM
  refine zr_puti (q := 271) (k0 := 34) (h' := h46) g (hI 31 (by decide)) zs_31 rfl zp_X9_273 dX9_rests_268 rfl e47 ?_
  refine zr_aload_n (q := 272) g 0 dX9_rests_271 rfl rfl rfl ?_
  refine zr_dup (q := 273) g dX9_rests_272 rfl rfl ?_
  refine zr_geti (q := 276) (k0 := 33) g (hI 31 (by decide)) zs_31 rfl zf_X9_270 dX9_rests_273 rfl ?_
  refine zr_iload (q := 278) g 3 dX9_rests_276 rfl rfl ?_
  refine zr_if_eq (q := 281) (tgt := 285) g dX9_rests_278 rfl rfl (fun c48 => ?_) (fun c48 => ?_)
  · replace hM := zw_ift c48 hM
    refine zr_iconst (q := 286) (v := (0 : Int32)) g dX9_rests_285 rfl (by decide) ?_
    refine zr_lv (lv' := [(0, .ref (E.2.1 31)), (3, .int x3), (4, .int x4)]) [0, 1, 2] rfl ?_
    exact U_X9_rests_286 ok hI g hr hlk eL173 _ _ _ _ _ _ hM
  · replace hM := zw_iff c48 hM
    refine zr_iconst (q := 282) (v := (1 : Int32)) g dX9_rests_281 rfl (by decide) ?_
    refine zr_goto (tgt := 286) g dX9_rests_282 rfl ?_
    refine zr_lv (lv' := [(0, .ref (E.2.1 31)), (3, .int x3), (4, .int x4)]) [0, 1, 2] rfl ?_
    exact U_X9_rests_286 ok hI g hr hlk eL173 _ _ _ _ _ _ hM
noncomputable def B_X9_rests_264 (k173 : (Int32 × Int32 × zw_Hp) → Option (Int32 × zw_Hp)) (x3 : Int32) (x4 : Int32) (x5 : Int32) (h : zw_Hp) : Option (Int32 × zw_Hp) :=
  B_X9_rests_268 k173 x3 x4 x5 (h.1 31 34) h
set_option maxRecDepth 100000 in
set_option maxHeartbeats 4000000 in
theorem U_X9_rests_264 (ok : zw_Ok E) (hI : ∀ i, i < 48 → i ∈ E.2.2.1) (g : zw_G p E (zw_A E) s m args c RX9 cX9_rests 6) (hr : meth.sig.returnType = some .int) (hlk : meth.locks = false) {k173 : (Int32 × Int32 × zw_Hp) → Option (Int32 × zw_Hp)} (eL173 : ∀ (w : Int32 × Int32 × zw_Hp) (z : Int32 × zw_Hp), k173 w = some z → zw_V p l e s m args below meth c E mt_X9_rests 6 (some (.int z.1)) z.2 173 [(0, .ref (E.2.1 31)), (3, .int w.1), (4, .int w.2.1)] [] w.2.2) :
    ∀ (x3 : Int32) (x4 : Int32) (x5 : Int32) (h : zw_Hp) (z : Int32 × zw_Hp), B_X9_rests_264 k173 x3 x4 x5 h = some z → zw_V p l e s m args below meth c E mt_X9_rests 6 (some (.int z.1)) z.2 264 [(0, .ref (E.2.1 31)), (3, .int x3), (4, .int x4), (5, .int x5)] [.ref (E.2.1 31)] h := by
  intro x3 x4 x5 h z hM
  unfold B_X9_rests_264 at hM
  refine zr_aload_n (q := 265) g 0 dX9_rests_264 rfl rfl rfl ?_
  refine zr_geti (q := 268) (k0 := 34) g (hI 31 (by decide)) zs_31 rfl zf_X9_273 dX9_rests_265 rfl ?_
  exact U_X9_rests_268 ok hI g hr hlk eL173 _ _ _ _ _ _ hM
noncomputable def B_X9_rests_234 (k173 : (Int32 × Int32 × zw_Hp) → Option (Int32 × zw_Hp)) (x3 : Int32) (x4 : Int32) (s0 : Int32) (h : zw_Hp) : Option (Int32 × zw_Hp) :=
  if s0 = 0 then (B_X9_rests_264 k173 x3 x4 s0 h) else (if (h.1 31 33) = 0 then (B_X9_rests_268 k173 x3 x4 s0 (((10 : Int32) * (x4 / (2 : Int32))) + (x4 - x4 / (2 : Int32) * (2 : Int32))) h) else (B_X9_rests_264 k173 x3 x4 s0 h))
set_option maxRecDepth 100000 in
set_option maxHeartbeats 4000000 in
theorem U_X9_rests_234 (ok : zw_Ok E) (hI : ∀ i, i < 48 → i ∈ E.2.2.1) (g : zw_G p E (zw_A E) s m args c RX9 cX9_rests 6) (hr : meth.sig.returnType = some .int) (hlk : meth.locks = false) {k173 : (Int32 × Int32 × zw_Hp) → Option (Int32 × zw_Hp)} (eL173 : ∀ (w : Int32 × Int32 × zw_Hp) (z : Int32 × zw_Hp), k173 w = some z → zw_V p l e s m args below meth c E mt_X9_rests 6 (some (.int z.1)) z.2 173 [(0, .ref (E.2.1 31)), (3, .int w.1), (4, .int w.2.1)] [] w.2.2) :
    ∀ (x3 : Int32) (x4 : Int32) (s0 : Int32) (h : zw_Hp) (z : Int32 × zw_Hp), B_X9_rests_234 k173 x3 x4 s0 h = some z → zw_V p l e s m args below meth c E mt_X9_rests 6 (some (.int z.1)) z.2 234 [(0, .ref (E.2.1 31)), (3, .int x3), (4, .int x4)] [.int s0] h := by
  intro x3 x4 s0 h z hM
  unfold B_X9_rests_234 at hM
  refine zr_istore (q := 236) (lv' := [(5, .int s0), (0, .ref (E.2.1 31)), (3, .int x3), (4, .int x4)]) g dX9_rests_234 rfl (by decide) rfl ?_
  refine zr_aload_n (q := 237) g 1 dX9_rests_236 rfl rfl rfl ?_
  refine zr_iload (q := 239) g 0 dX9_rests_237 rfl rfl ?_
  refine zr_if_eq (q := 242) (tgt := 264) g dX9_rests_239 rfl rfl (fun c44 => ?_) (fun c44 => ?_)
  · replace hM := zw_ift c44 hM
    refine zr_lv (lv' := [(0, .ref (E.2.1 31)), (3, .int x3), (4, .int x4), (5, .int s0)]) [1, 2, 3, 0] rfl ?_
    exact U_X9_rests_264 ok hI g hr hlk eL173 _ _ _ _ _ hM
  · replace hM := zw_iff c44 hM
    refine zr_aload_n (q := 243) g 1 dX9_rests_242 rfl rfl rfl ?_
    refine zr_geti (q := 246) (k0 := 33) g (hI 31 (by decide)) zs_31 rfl zf_X9_270 dX9_rests_243 rfl ?_
    refine zr_if_ne (q := 249) (tgt := 264) g dX9_rests_246 rfl rfl (fun c45 => ?_) (fun c45 => ?_)
    · replace hM := zw_iff c45 hM
      refine zr_lv (lv' := [(0, .ref (E.2.1 31)), (3, .int x3), (4, .int x4), (5, .int s0)]) [1, 2, 3, 0] rfl ?_
      exact U_X9_rests_264 ok hI g hr hlk eL173 _ _ _ _ _ hM
    · replace hM := zw_ift c45 hM
      refine zr_bipush (q := 251) (v := (10 : Int32)) g dX9_rests_249 rfl (by decide) ?_
      refine zr_iload (q := 253) g 3 dX9_rests_251 rfl rfl ?_
      refine zr_iconst (q := 254) (v := (2 : Int32)) g dX9_rests_253 rfl (by decide) ?_
      refine zr_idiv (q := 255) g dX9_rests_254 rfl (by decide) ?_
      refine zr_imul (q := 256) g dX9_rests_255 rfl ?_
      refine zr_iload (q := 258) g 3 dX9_rests_256 rfl rfl ?_
      refine zr_iconst (q := 259) (v := (2 : Int32)) g dX9_rests_258 rfl (by decide) ?_
      refine zr_irem (q := 260) g dX9_rests_259 rfl (by decide) ?_
      refine zr_iadd (q := 261) g dX9_rests_260 rfl ?_
      refine zr_goto (tgt := 268) g dX9_rests_261 rfl ?_
      refine zr_lv (lv' := [(0, .ref (E.2.1 31)), (3, .int x3), (4, .int x4), (5, .int s0)]) [1, 2, 3, 0] rfl ?_
      exact U_X9_rests_268 ok hI g hr hlk eL173 _ _ _ _ _ _ hM
noncomputable def B_X9_rests_233 (k173 : (Int32 × Int32 × zw_Hp) → Option (Int32 × zw_Hp)) (x3 : Int32) (x4 : Int32) (h : zw_Hp) : Option (Int32 × zw_Hp) :=
  B_X9_rests_234 k173 x3 x4 (0 : Int32) h
set_option maxRecDepth 100000 in
set_option maxHeartbeats 4000000 in
theorem U_X9_rests_233 (ok : zw_Ok E) (hI : ∀ i, i < 48 → i ∈ E.2.2.1) (g : zw_G p E (zw_A E) s m args c RX9 cX9_rests 6) (hr : meth.sig.returnType = some .int) (hlk : meth.locks = false) {k173 : (Int32 × Int32 × zw_Hp) → Option (Int32 × zw_Hp)} (eL173 : ∀ (w : Int32 × Int32 × zw_Hp) (z : Int32 × zw_Hp), k173 w = some z → zw_V p l e s m args below meth c E mt_X9_rests 6 (some (.int z.1)) z.2 173 [(0, .ref (E.2.1 31)), (3, .int w.1), (4, .int w.2.1)] [] w.2.2) :
    ∀ (x3 : Int32) (x4 : Int32) (h : zw_Hp) (z : Int32 × zw_Hp), B_X9_rests_233 k173 x3 x4 h = some z → zw_V p l e s m args below meth c E mt_X9_rests 6 (some (.int z.1)) z.2 233 [(0, .ref (E.2.1 31)), (3, .int x3), (4, .int x4)] [] h := by
  intro x3 x4 h z hM
  unfold B_X9_rests_233 at hM
  refine zr_iconst (q := 234) (v := (0 : Int32)) g dX9_rests_233 rfl (by decide) ?_
  exact U_X9_rests_234 ok hI g hr hlk eL173 _ _ _ _ _ hM
noncomputable def B_X9_rests_173 (k173 : (Int32 × Int32 × zw_Hp) → Option (Int32 × zw_Hp)) (x3 : Int32) (x4 : Int32) (h : zw_Hp) : Option (Int32 × zw_Hp) :=
  if (4 : Int32) ≤ x4 then (if x3 = 0 then (some ((h.1 31 33), h)) else (some ((h.1 31 34), h))) else (if zw_ok ((2 : Int32) * (x4 ^^^ (2 : Int32))) 8 = true then (if zw_ok ((2 : Int32) * x4) 8 = true then (if (h.1 45 (((2 : Int32) * x4)).toNatClampNeg) < (h.1 45 (((2 : Int32) * (x4 ^^^ (2 : Int32)))).toNatClampNeg) then (B_X9_rests_233 k173 x3 x4 h) else (if zw_ok (((2 : Int32) * (x4 ^^^ (1 : Int32))) + (1 : Int32)) 8 = true then (if zw_ok (((2 : Int32) * x4) + (1 : Int32)) 8 = true then (if (h.1 45 ((((2 : Int32) * x4) + (1 : Int32))).toNatClampNeg) < (h.1 45 ((((2 : Int32) * (x4 ^^^ (1 : Int32))) + (1 : Int32))).toNatClampNeg) then (B_X9_rests_233 k173 x3 x4 h) else (B_X9_rests_234 k173 x3 x4 (1 : Int32) h)) else none) else none)) else none) else none)
set_option maxRecDepth 100000 in
set_option maxHeartbeats 4000000 in
theorem U_X9_rests_173 (ok : zw_Ok E) (hI : ∀ i, i < 48 → i ∈ E.2.2.1) (g : zw_G p E (zw_A E) s m args c RX9 cX9_rests 6) (hr : meth.sig.returnType = some .int) (hlk : meth.locks = false) {k173 : (Int32 × Int32 × zw_Hp) → Option (Int32 × zw_Hp)} (eL173 : ∀ (w : Int32 × Int32 × zw_Hp) (z : Int32 × zw_Hp), k173 w = some z → zw_V p l e s m args below meth c E mt_X9_rests 6 (some (.int z.1)) z.2 173 [(0, .ref (E.2.1 31)), (3, .int w.1), (4, .int w.2.1)] [] w.2.2) :
    ∀ (x3 : Int32) (x4 : Int32) (h : zw_Hp) (z : Int32 × zw_Hp), B_X9_rests_173 k173 x3 x4 h = some z → zw_V p l e s m args below meth c E mt_X9_rests 6 (some (.int z.1)) z.2 173 [(0, .ref (E.2.1 31)), (3, .int x3), (4, .int x4)] [] h := by
  intro x3 x4 h z hM
  unfold B_X9_rests_173 at hM
  refine zr_iload (q := 175) g 2 dX9_rests_173 rfl rfl ?_
  refine zr_iconst (q := 176) (v := (4 : Int32)) g dX9_rests_175 rfl (by decide) ?_
  refine zr_icmp_ge (q := 179) (tgt := 296) g dX9_rests_176 rfl rfl (fun c36 => ?_) (fun c36 => ?_)
  · replace hM := zw_ift c36 hM
    refine zr_iload_n (q := 297) g 1 dX9_rests_296 rfl rfl rfl ?_
    refine zr_if_ne (q := 300) (tgt := 307) g dX9_rests_297 rfl rfl (fun c37 => ?_) (fun c37 => ?_)
    · replace hM := zw_iff c37 hM
      refine zr_aload_n (q := 308) g 0 dX9_rests_307 rfl rfl rfl ?_
      refine zr_geti (q := 311) (k0 := 34) g (hI 31 (by decide)) zs_31 rfl zf_X9_273 dX9_rests_308 rfl ?_
      cases hM
      exact zr_iret g hr hlk dX9_rests_311 rfl rfl
    · replace hM := zw_ift c37 hM
      refine zr_aload_n (q := 301) g 0 dX9_rests_300 rfl rfl rfl ?_
      refine zr_geti (q := 304) (k0 := 33) g (hI 31 (by decide)) zs_31 rfl zf_X9_270 dX9_rests_301 rfl ?_
      refine zr_goto (tgt := 311) g dX9_rests_304 rfl ?_
      cases hM
      exact zr_iret g hr hlk dX9_rests_311 rfl rfl
  · replace hM := zw_iff c36 hM
    refine zr_aload_n (q := 180) g 0 dX9_rests_179 rfl rfl rfl ?_
    refine zr_getr (q := 183) (k0 := 35) (j := 45) g (hI 31 (by decide)) zs_31 rfl zf_X9_50 dX9_rests_180 rfl ?_
    refine zr_iconst (q := 184) (v := (2 : Int32)) g dX9_rests_183 rfl (by decide) ?_
    refine zr_iload (q := 186) g 2 dX9_rests_184 rfl rfl ?_
    refine zr_iconst (q := 187) (v := (2 : Int32)) g dX9_rests_186 rfl (by decide) ?_
    refine zr_ixor (q := 188) g dX9_rests_187 rfl ?_
    refine zr_imul (q := 189) g dX9_rests_188 rfl ?_
    obtain ⟨c38, hM⟩ := zw_gd hM
    refine zr_iald (q := 190) g (hI 45 (by decide)) zs_45 c38 dX9_rests_189 rfl ?_
    refine zr_aload_n (q := 191) g 0 dX9_rests_190 rfl rfl rfl ?_
    refine zr_getr (q := 194) (k0 := 35) (j := 45) g (hI 31 (by decide)) zs_31 rfl zf_X9_50 dX9_rests_191 rfl ?_
    refine zr_iconst (q := 195) (v := (2 : Int32)) g dX9_rests_194 rfl (by decide) ?_
    refine zr_iload (q := 197) g 2 dX9_rests_195 rfl rfl ?_
    refine zr_imul (q := 198) g dX9_rests_197 rfl ?_
    obtain ⟨c39, hM⟩ := zw_gd hM
    refine zr_iald (q := 199) g (hI 45 (by decide)) zs_45 c39 dX9_rests_198 rfl ?_
    refine zr_icmp_gt (q := 202) (tgt := 233) g dX9_rests_199 rfl rfl (fun c40 => ?_) (fun c40 => ?_)
    · replace hM := zw_ift c40 hM
      exact U_X9_rests_233 ok hI g hr hlk eL173 _ _ _ _ hM
    · replace hM := zw_iff c40 hM
      refine zr_aload_n (q := 203) g 0 dX9_rests_202 rfl rfl rfl ?_
      refine zr_getr (q := 206) (k0 := 35) (j := 45) g (hI 31 (by decide)) zs_31 rfl zf_X9_50 dX9_rests_203 rfl ?_
      refine zr_iconst (q := 207) (v := (2 : Int32)) g dX9_rests_206 rfl (by decide) ?_
      refine zr_iload (q := 209) g 2 dX9_rests_207 rfl rfl ?_
      refine zr_iconst (q := 210) (v := (1 : Int32)) g dX9_rests_209 rfl (by decide) ?_
      refine zr_ixor (q := 211) g dX9_rests_210 rfl ?_
      refine zr_imul (q := 212) g dX9_rests_211 rfl ?_
      refine zr_iconst (q := 213) (v := (1 : Int32)) g dX9_rests_212 rfl (by decide) ?_
      refine zr_iadd (q := 214) g dX9_rests_213 rfl ?_
      obtain ⟨c41, hM⟩ := zw_gd hM
      refine zr_iald (q := 215) g (hI 45 (by decide)) zs_45 c41 dX9_rests_214 rfl ?_
      refine zr_aload_n (q := 216) g 0 dX9_rests_215 rfl rfl rfl ?_
      refine zr_getr (q := 219) (k0 := 35) (j := 45) g (hI 31 (by decide)) zs_31 rfl zf_X9_50 dX9_rests_216 rfl ?_
      refine zr_iconst (q := 220) (v := (2 : Int32)) g dX9_rests_219 rfl (by decide) ?_
      refine zr_iload (q := 222) g 2 dX9_rests_220 rfl rfl ?_
      refine zr_imul (q := 223) g dX9_rests_222 rfl ?_
      refine zr_iconst (q := 224) (v := (1 : Int32)) g dX9_rests_223 rfl (by decide) ?_
      refine zr_iadd (q := 225) g dX9_rests_224 rfl ?_
      obtain ⟨c42, hM⟩ := zw_gd hM
      refine zr_iald (q := 226) g (hI 45 (by decide)) zs_45 c42 dX9_rests_225 rfl ?_
      refine zr_icmp_gt (q := 229) (tgt := 233) g dX9_rests_226 rfl rfl (fun c43 => ?_) (fun c43 => ?_)
      · replace hM := zw_ift c43 hM
        exact U_X9_rests_233 ok hI g hr hlk eL173 _ _ _ _ hM
      · replace hM := zw_iff c43 hM
        refine zr_iconst (q := 230) (v := (1 : Int32)) g dX9_rests_229 rfl (by decide) ?_
        refine zr_goto (tgt := 234) g dX9_rests_230 rfl ?_
        exact U_X9_rests_234 ok hI g hr hlk eL173 _ _ _ _ _ hM
noncomputable def L_X9_rests_173 (w : Int32 × Int32 × zw_Hp) : Option (Int32 × zw_Hp) :=
  zw_it (fun (k173 : (Int32 × Int32 × zw_Hp) → Option (Int32 × zw_Hp)) (w : Int32 × Int32 × zw_Hp) => B_X9_rests_173 k173 (w.1) (w.2.1) (w.2.2)) 600 w
theorem UL_X9_rests_173 (ok : zw_Ok E) (hI : ∀ i, i < 48 → i ∈ E.2.2.1) (g : zw_G p E (zw_A E) s m args c RX9 cX9_rests 6) (hr : meth.sig.returnType = some .int) (hlk : meth.locks = false) :
    ∀ (w : Int32 × Int32 × zw_Hp) (z : Int32 × zw_Hp), L_X9_rests_173 w = some z → zw_V p l e s m args below meth c E mt_X9_rests 6 (some (.int z.1)) z.2 173 [(0, .ref (E.2.1 31)), (3, .int w.1), (4, .int w.2.1)] [] w.2.2 :=
  fun w z hM => zw_it_ind (P := fun (w : Int32 × Int32 × zw_Hp) (z : Int32 × zw_Hp) => zw_V p l e s m args below meth c E mt_X9_rests 6 (some (.int z.1)) z.2 173 [(0, .ref (E.2.1 31)), (3, .int w.1), (4, .int w.2.1)] [] w.2.2) (fun k e w z hM => U_X9_rests_173 ok hI g hr hlk e _ _ _ _ hM) 600 w z hM
noncomputable def B_X9_rests_44 (k44 : (Int32 × Int32 × Int32 × Int32 × zw_Hp) → Option (Int32 × zw_Hp)) (x1 : Int32) (x2 : Int32) (x3 : Int32) (x4 : Int32) (h : zw_Hp) : Option (Int32 × zw_Hp) :=
  if (4 : Int32) ≤ x4 then (zw_nm (zw_up h 31 33 (0 : Int32)) (fun h14 => zw_nm (zw_up h14 31 34 (-9 : Int32)) (fun h16 => L_X9_rests_173 (x3, (0 : Int32), h16)))) else ((M_X9_begin h).bind (fun z18 => if x4 ≤ (1 : Int32) then (B_X9_rests_72 k44 x1 x2 x3 x4 ((1 : Int32) <<< (x1 &&& 31)) (31 : Int32) (8 : Int32) z18) else (B_X9_rests_72 k44 x1 x2 x3 x4 (0 : Int32) (31 : Int32) (8 : Int32) z18)))
set_option maxRecDepth 100000 in
set_option maxHeartbeats 4000000 in
theorem U_X9_rests_44 (ok : zw_Ok E) (hI : ∀ i, i < 48 → i ∈ E.2.2.1) (g : zw_G p E (zw_A E) s m args c RX9 cX9_rests 6) (hr : meth.sig.returnType = some .int) (hlk : meth.locks = false) {k44 : (Int32 × Int32 × Int32 × Int32 × zw_Hp) → Option (Int32 × zw_Hp)} (eL44 : ∀ (w : Int32 × Int32 × Int32 × Int32 × zw_Hp) (z : Int32 × zw_Hp), k44 w = some z → zw_V p l e s m args below meth c E mt_X9_rests 6 (some (.int z.1)) z.2 44 [(0, .ref (E.2.1 31)), (1, .int w.1), (2, .int w.2.1), (3, .int w.2.2.1), (4, .int w.2.2.2.1)] [] w.2.2.2.2) :
    ∀ (x1 : Int32) (x2 : Int32) (x3 : Int32) (x4 : Int32) (h : zw_Hp) (z : Int32 × zw_Hp), B_X9_rests_44 k44 x1 x2 x3 x4 h = some z → zw_V p l e s m args below meth c E mt_X9_rests 6 (some (.int z.1)) z.2 44 [(0, .ref (E.2.1 31)), (1, .int x1), (2, .int x2), (3, .int x3), (4, .int x4)] [] h := by
  intro x1 x2 x3 x4 h z hM
  unfold B_X9_rests_44 at hM
  refine zr_iload (q := 46) g 4 dX9_rests_44 rfl rfl ?_
  refine zr_iconst (q := 47) (v := (4 : Int32)) g dX9_rests_46 rfl (by decide) ?_
  refine zr_icmp_ge (q := 50) (tgt := 159) g dX9_rests_47 rfl rfl (fun c13 => ?_) (fun c13 => ?_)
  · replace hM := zw_ift c13 hM
    refine zr_aload_n (q := 160) g 0 dX9_rests_159 rfl rfl rfl ?_
    refine zr_iconst (q := 161) (v := (0 : Int32)) g dX9_rests_160 rfl (by decide) ?_
    obtain ⟨h14, e15, hM⟩ := zw_nm_ex hM
    refine zr_puti (q := 164) (k0 := 33) (h' := h14) g (hI 31 (by decide)) zs_31 rfl zp_X9_270 dX9_rests_161 rfl e15 ?_
    refine zr_aload_n (q := 165) g 0 dX9_rests_164 rfl rfl rfl ?_
    refine zr_bipush (q := 167) (v := (-9 : Int32)) g dX9_rests_165 rfl (by decide) ?_
    obtain ⟨h16, e17, hM⟩ := zw_nm_ex hM
    refine zr_puti (q := 170) (k0 := 34) (h' := h16) g (hI 31 (by decide)) zs_31 rfl zp_X9_273 dX9_rests_167 rfl e17 ?_
    refine zr_iconst (q := 171) (v := (0 : Int32)) g dX9_rests_170 rfl (by decide) ?_
    refine zr_istore (q := 173) (lv' := [(4, .int (0 : Int32)), (0, .ref (E.2.1 31)), (1, .int x1), (2, .int x2), (3, .int x3)]) g dX9_rests_171 rfl (by decide) rfl ?_
    refine zr_lv (lv' := [(0, .ref (E.2.1 31)), (3, .int x3), (4, .int (0 : Int32))]) [1, 4, 0] rfl ?_
    exact UL_X9_rests_173 ok hI g hr hlk _ _ hM
  · replace hM := zw_iff c13 hM
    refine zr_aload_n (q := 51) g 0 dX9_rests_50 rfl rfl rfl ?_
    obtain ⟨z18, q19, hM⟩ := zw_bd hM
    refine zr_callV (q := 54) (As := []) (rest := []) (st' := []) (i := 31) g (R_X9_begin ok hI q19) zv_X9_begin zl_X9_202 (hI 31 (by decide)) zs_31 zc_X9.1 dX9_rests_51 rfl rfl ⟨Nat.le_of_ble_eq_true rfl, Nat.le_of_ble_eq_true rfl⟩ ⟨Nat.zero_le _, Nat.zero_le _⟩ (Nat.le_of_ble_eq_true rfl) rfl rfl ?_
    refine zr_aload_n (q := 55) g 0 dX9_rests_54 rfl rfl rfl ?_
    refine zr_bipush (q := 57) (v := (8 : Int32)) g dX9_rests_55 rfl (by decide) ?_
    refine zr_bipush (q := 59) (v := (31 : Int32)) g dX9_rests_57 rfl (by decide) ?_
    refine zr_iload (q := 61) g 4 dX9_rests_59 rfl rfl ?_
    refine zr_iconst (q := 62) (v := (1 : Int32)) g dX9_rests_61 rfl (by decide) ?_
    refine zr_icmp_le (q := 65) (tgt := 69) g dX9_rests_62 rfl rfl (fun c20 => ?_) (fun c20 => ?_)
    · replace hM := zw_ift c20 hM
      refine zr_iconst (q := 70) (v := (1 : Int32)) g dX9_rests_69 rfl (by decide) ?_
      refine zr_iload_n (q := 71) g 1 dX9_rests_70 rfl rfl rfl ?_
      refine zr_ishl (q := 72) g dX9_rests_71 rfl ?_
      exact U_X9_rests_72 ok hI g hr hlk eL44 _ _ _ _ _ _ _ _ _ hM
    · replace hM := zw_iff c20 hM
      refine zr_iconst (q := 66) (v := (0 : Int32)) g dX9_rests_65 rfl (by decide) ?_
      refine zr_goto (tgt := 72) g dX9_rests_66 rfl ?_
      exact U_X9_rests_72 ok hI g hr hlk eL44 _ _ _ _ _ _ _ _ _ hM
noncomputable def L_X9_rests_44 (w : Int32 × Int32 × Int32 × Int32 × zw_Hp) : Option (Int32 × zw_Hp) :=
  zw_it (fun (k44 : (Int32 × Int32 × Int32 × Int32 × zw_Hp) → Option (Int32 × zw_Hp)) (w : Int32 × Int32 × Int32 × Int32 × zw_Hp) => B_X9_rests_44 k44 (w.1) (w.2.1) (w.2.2.1) (w.2.2.2.1) (w.2.2.2.2)) 600 w
theorem UL_X9_rests_44 (ok : zw_Ok E) (hI : ∀ i, i < 48 → i ∈ E.2.2.1) (g : zw_G p E (zw_A E) s m args c RX9 cX9_rests 6) (hr : meth.sig.returnType = some .int) (hlk : meth.locks = false) :
    ∀ (w : Int32 × Int32 × Int32 × Int32 × zw_Hp) (z : Int32 × zw_Hp), L_X9_rests_44 w = some z → zw_V p l e s m args below meth c E mt_X9_rests 6 (some (.int z.1)) z.2 44 [(0, .ref (E.2.1 31)), (1, .int w.1), (2, .int w.2.1), (3, .int w.2.2.1), (4, .int w.2.2.2.1)] [] w.2.2.2.2 :=
  fun w z hM => zw_it_ind (P := fun (w : Int32 × Int32 × Int32 × Int32 × zw_Hp) (z : Int32 × zw_Hp) => zw_V p l e s m args below meth c E mt_X9_rests 6 (some (.int z.1)) z.2 44 [(0, .ref (E.2.1 31)), (1, .int w.1), (2, .int w.2.1), (3, .int w.2.2.1), (4, .int w.2.2.2.1)] [] w.2.2.2.2) (fun k e w z hM => U_X9_rests_44 ok hI g hr hlk e _ _ _ _ _ _ hM) 600 w z hM
noncomputable def M_X9_rests (x1 : Int32) (x2 : Int32) (x3 : Int32) (h : zw_Hp) : Option (Int32 × zw_Hp) :=
  zw_nm (zw_up h 31 0 (0 : Int32)) (fun h1 => (M_X9_noOne x1 h1).bind (fun z3 => if z3 = 0 then ((M_X9_noOne x2 h1).bind (fun z6 => if z6 = 0 then (if x1 = x2 then (some ((-2 : Int32), h1)) else ((M_X9_in (x3).toInt64 (0 : Int64) (1 : Int64) h1).bind (fun z10 => if z10 = 0 then (some ((-2 : Int32), h1)) else (L_X9_rests_44 (x1, x2, x3, (0 : Int32), h1))))) else (some ((-1 : Int32), h1)))) else (some ((-1 : Int32), h1))))
set_option maxRecDepth 100000 in
set_option maxHeartbeats 4000000 in
theorem R_X9_rests (ok : zw_Ok E) (hI : ∀ i, i < 48 → i ∈ E.2.2.1) {x1 : Int32} {x2 : Int32} {x3 : Int32} {h : zw_Hp} {z : Int32 × zw_Hp} (hM : M_X9_rests x1 x2 x3 h = some z) : zw_Ct l E mt_X9_rests [.ref (E.2.1 31), .int x1, .int x2, .int x3] h (some (.int z.1)) z.2 := by
  unfold M_X9_rests at hM
  refine zw_ct (lv0 := [(0, .ref (E.2.1 31)), (1, .int x1), (2, .int x2), (3, .int x3)]) ok (by decide) rfl (Nat.le_of_ble_eq_true rfl) (fun p e s m args below meth c g hr hlk => ?_)
  replace g : zw_G p E (zw_A E) s m args c RX9 cX9_rests 6 := g
  show zw_V p l e s m args below meth c E mt_X9_rests 6 (some (.int z.1)) z.2 0 [(0, .ref (E.2.1 31)), (1, .int x1), (2, .int x2), (3, .int x3)] [] h
  refine zr_aload_n (q := 1) g 0 dX9_rests_0 rfl rfl rfl ?_
  refine zr_iconst (q := 2) (v := (0 : Int32)) g dX9_rests_1 rfl (by decide) ?_
  obtain ⟨h1, e2, hM⟩ := zw_nm_ex hM
  refine zr_puti (q := 5) (k0 := 0) (h' := h1) g (hI 31 (by decide)) zs_31 rfl zp_X9_59 dX9_rests_2 rfl e2 ?_
  refine zr_aload_n (q := 6) g 0 dX9_rests_5 rfl rfl rfl ?_
  refine zr_iload_n (q := 7) g 1 dX9_rests_6 rfl rfl rfl ?_
  obtain ⟨z3, q4, hM⟩ := zw_bd hM
  refine zr_callV (q := 10) (As := [.int x1]) (rest := []) (st' := [.int z3]) (i := 31) g (R_X9_noOne ok hI q4) zv_X9_noOne zl_X9_177 (hI 31 (by decide)) zs_31 zc_X9.1 dX9_rests_7 rfl rfl ⟨Nat.le_of_ble_eq_true rfl, Nat.le_of_ble_eq_true rfl⟩ ⟨Nat.zero_le _, Nat.zero_le _⟩ (Nat.le_of_ble_eq_true rfl) rfl rfl ?_
  refine zr_if_ne (q := 13) (tgt := 21) g dX9_rests_10 rfl rfl (fun c5 => ?_) (fun c5 => ?_)
  · replace hM := zw_iff c5 hM
    refine zr_iconst (q := 22) (v := (-1 : Int32)) g dX9_rests_21 rfl (by decide) ?_
    cases hM
    exact zr_iret g hr hlk dX9_rests_22 rfl rfl
  · replace hM := zw_ift c5 hM
    refine zr_aload_n (q := 14) g 0 dX9_rests_13 rfl rfl rfl ?_
    refine zr_iload_n (q := 15) g 2 dX9_rests_14 rfl rfl rfl ?_
    obtain ⟨z6, q7, hM⟩ := zw_bd hM
    refine zr_callV (q := 18) (As := [.int x2]) (rest := []) (st' := [.int z6]) (i := 31) g (R_X9_noOne ok hI q7) zv_X9_noOne zl_X9_177 (hI 31 (by decide)) zs_31 zc_X9.1 dX9_rests_15 rfl rfl ⟨Nat.le_of_ble_eq_true rfl, Nat.le_of_ble_eq_true rfl⟩ ⟨Nat.zero_le _, Nat.zero_le _⟩ (Nat.le_of_ble_eq_true rfl) rfl rfl ?_
    refine zr_if_eq (q := 21) (tgt := 23) g dX9_rests_18 rfl rfl (fun c8 => ?_) (fun c8 => ?_)
    · replace hM := zw_ift c8 hM
      refine zr_iload_n (q := 24) g 1 dX9_rests_23 rfl rfl rfl ?_
      refine zr_iload_n (q := 25) g 2 dX9_rests_24 rfl rfl rfl ?_
      refine zr_icmp_eq (q := 28) (tgt := 38) g dX9_rests_25 rfl rfl (fun c9 => ?_) (fun c9 => ?_)
      · replace hM := zw_ift c9 hM
        refine zr_bipush (q := 40) (v := (-2 : Int32)) g dX9_rests_38 rfl (by decide) ?_
        cases hM
        exact zr_iret g hr hlk dX9_rests_40 rfl rfl
      · replace hM := zw_iff c9 hM
        refine zr_iload_n (q := 29) g 3 dX9_rests_28 rfl rfl rfl ?_
        refine zr_i2l (q := 30) g dX9_rests_29 rfl ?_
        refine zr_lconst (q := 31) (v := (0 : Int64)) g dX9_rests_30 rfl (by decide) ?_
        refine zr_lconst (q := 32) (v := (1 : Int64)) g dX9_rests_31 rfl (by decide) ?_
        obtain ⟨z10, q11, hM⟩ := zw_bd hM
        refine zr_callS (q := 35) (As := [.long (x3).toInt64, .long (0 : Int64), .long (1 : Int64)]) (rest := []) (st' := [.int z10]) g (R_X9_in ok hI q11) zv_X9_in zl_X9_66 dX9_rests_32 rfl rfl ⟨Nat.le_of_ble_eq_true rfl, Nat.le_of_ble_eq_true rfl⟩ ⟨Nat.zero_le _, Nat.zero_le _⟩ (Nat.le_of_ble_eq_true rfl) rfl rfl ?_
        refine zr_if_ne (q := 38) (tgt := 41) g dX9_rests_35 rfl rfl (fun c12 => ?_) (fun c12 => ?_)
        · replace hM := zw_iff c12 hM
          refine zr_iconst (q := 42) (v := (0 : Int32)) g dX9_rests_41 rfl (by decide) ?_
          refine zr_istore (q := 44) (lv' := [(4, .int (0 : Int32)), (0, .ref (E.2.1 31)), (1, .int x1), (2, .int x2), (3, .int x3)]) g dX9_rests_42 rfl (by decide) rfl ?_
          refine zr_lv (lv' := [(0, .ref (E.2.1 31)), (1, .int x1), (2, .int x2), (3, .int x3), (4, .int (0 : Int32))]) [1, 2, 3, 4, 0] rfl ?_
          exact UL_X9_rests_44 ok hI g hr hlk _ _ hM
        · replace hM := zw_ift c12 hM
          refine zr_bipush (q := 40) (v := (-2 : Int32)) g dX9_rests_38 rfl (by decide) ?_
          cases hM
          exact zr_iret g hr hlk dX9_rests_40 rfl rfl
    · replace hM := zw_iff c8 hM
      refine zr_iconst (q := 22) (v := (-1 : Int32)) g dX9_rests_21 rfl (by decide) ?_
      cases hM
      exact zr_iret g hr hlk dX9_rests_22 rfl rfl
noncomputable def B_X9_falls_114 (k57 : (Int32 × Int32 × Int32 × Int32 × Int32 × Int32 × Int32 × zw_Hp) → Option (Int32 × zw_Hp)) (k85 : (Int32 × Int32 × Int32 × Int32 × Int32 × Int32 × Int32 × Int32 × zw_Hp) → Option (Int32 × zw_Hp)) (x1 : Int32) (x2 : Int32) (x3 : Int32) (x4 : Int32) (x5 : Int32) (x6 : Int32) (x7 : Int32) (x8 : Int32) (h : zw_Hp) : Option (Int32 × zw_Hp) :=
  zw_nm (x8 + (1 : Int32)) (fun y38 => k85 (x1, x2, x3, x4, x5, x6, x7, y38, h))
set_option maxRecDepth 100000 in
set_option maxHeartbeats 4000000 in
theorem U_X9_falls_114 (ok : zw_Ok E) (hI : ∀ i, i < 48 → i ∈ E.2.2.1) (g : zw_G p E (zw_A E) s m args c RX9 cX9_falls 9) (hr : meth.sig.returnType = some .int) (hlk : meth.locks = false) {k57 : (Int32 × Int32 × Int32 × Int32 × Int32 × Int32 × Int32 × zw_Hp) → Option (Int32 × zw_Hp)} (eL57 : ∀ (w : Int32 × Int32 × Int32 × Int32 × Int32 × Int32 × Int32 × zw_Hp) (z : Int32 × zw_Hp), k57 w = some z → zw_V p l e s m args below meth c E mt_X9_falls 9 (some (.int z.1)) z.2 57 [(0, .ref (E.2.1 31)), (1, .int w.1), (2, .int w.2.1), (3, .int w.2.2.1), (4, .int w.2.2.2.1), (5, .int w.2.2.2.2.1), (6, .int w.2.2.2.2.2.1), (7, .int w.2.2.2.2.2.2.1)] [] w.2.2.2.2.2.2.2) {k85 : (Int32 × Int32 × Int32 × Int32 × Int32 × Int32 × Int32 × Int32 × zw_Hp) → Option (Int32 × zw_Hp)} (eL85 : ∀ (w : Int32 × Int32 × Int32 × Int32 × Int32 × Int32 × Int32 × Int32 × zw_Hp) (z : Int32 × zw_Hp), k85 w = some z → zw_V p l e s m args below meth c E mt_X9_falls 9 (some (.int z.1)) z.2 85 [(0, .ref (E.2.1 31)), (1, .int w.1), (2, .int w.2.1), (3, .int w.2.2.1), (4, .int w.2.2.2.1), (5, .int w.2.2.2.2.1), (6, .int w.2.2.2.2.2.1), (7, .int w.2.2.2.2.2.2.1), (8, .int w.2.2.2.2.2.2.2.1)] [] w.2.2.2.2.2.2.2.2) :
    ∀ (x1 : Int32) (x2 : Int32) (x3 : Int32) (x4 : Int32) (x5 : Int32) (x6 : Int32) (x7 : Int32) (x8 : Int32) (h : zw_Hp) (z : Int32 × zw_Hp), B_X9_falls_114 k57 k85 x1 x2 x3 x4 x5 x6 x7 x8 h = some z → zw_V p l e s m args below meth c E mt_X9_falls 9 (some (.int z.1)) z.2 114 [(0, .ref (E.2.1 31)), (1, .int x1), (2, .int x2), (3, .int x3), (4, .int x4), (5, .int x5), (6, .int x6), (7, .int x7), (8, .int x8)] [] h := by
  intro x1 x2 x3 x4 x5 x6 x7 x8 h z hM
  unfold B_X9_falls_114 at hM
  obtain ⟨y38, e39, hM⟩ := zw_nm_ex hM
  refine zr_iinc (q := 117) (v := y38) (lv' := [(8, .int y38), (0, .ref (E.2.1 31)), (1, .int x1), (2, .int x2), (3, .int x3), (4, .int x4), (5, .int x5), (6, .int x6), (7, .int x7)]) g 8 dX9_falls_114 rfl rfl (by rw [e39]; rfl) (by decide) rfl ?_
  refine zr_goto (tgt := 85) g dX9_falls_117 rfl ?_
  refine zr_lv (lv' := [(0, .ref (E.2.1 31)), (1, .int x1), (2, .int x2), (3, .int x3), (4, .int x4), (5, .int x5), (6, .int x6), (7, .int x7), (8, .int y38)]) [1, 2, 3, 4, 5, 6, 7, 8, 0] rfl ?_
  exact eL85 _ _ hM
noncomputable def B_X9_falls_182 (k57 : (Int32 × Int32 × Int32 × Int32 × Int32 × Int32 × Int32 × zw_Hp) → Option (Int32 × zw_Hp)) (x1 : Int32) (x2 : Int32) (x3 : Int32) (x4 : Int32) (x5 : Int32) (x6 : Int32) (x7 : Int32) (h : zw_Hp) : Option (Int32 × zw_Hp) :=
  zw_nm (x7 + (1 : Int32)) (fun y42 => k57 (x1, x2, x3, x4, x5, x6, y42, h))
set_option maxRecDepth 100000 in
set_option maxHeartbeats 4000000 in
theorem U_X9_falls_182 (ok : zw_Ok E) (hI : ∀ i, i < 48 → i ∈ E.2.2.1) (g : zw_G p E (zw_A E) s m args c RX9 cX9_falls 9) (hr : meth.sig.returnType = some .int) (hlk : meth.locks = false) {k57 : (Int32 × Int32 × Int32 × Int32 × Int32 × Int32 × Int32 × zw_Hp) → Option (Int32 × zw_Hp)} (eL57 : ∀ (w : Int32 × Int32 × Int32 × Int32 × Int32 × Int32 × Int32 × zw_Hp) (z : Int32 × zw_Hp), k57 w = some z → zw_V p l e s m args below meth c E mt_X9_falls 9 (some (.int z.1)) z.2 57 [(0, .ref (E.2.1 31)), (1, .int w.1), (2, .int w.2.1), (3, .int w.2.2.1), (4, .int w.2.2.2.1), (5, .int w.2.2.2.2.1), (6, .int w.2.2.2.2.2.1), (7, .int w.2.2.2.2.2.2.1)] [] w.2.2.2.2.2.2.2) :
    ∀ (x1 : Int32) (x2 : Int32) (x3 : Int32) (x4 : Int32) (x5 : Int32) (x6 : Int32) (x7 : Int32) (h : zw_Hp) (z : Int32 × zw_Hp), B_X9_falls_182 k57 x1 x2 x3 x4 x5 x6 x7 h = some z → zw_V p l e s m args below meth c E mt_X9_falls 9 (some (.int z.1)) z.2 182 [(0, .ref (E.2.1 31)), (1, .int x1), (2, .int x2), (3, .int x3), (4, .int x4), (5, .int x5), (6, .int x6), (7, .int x7)] [] h := by
  intro x1 x2 x3 x4 x5 x6 x7 h z hM
  unfold B_X9_falls_182 at hM
  obtain ⟨y42, e43, hM⟩ := zw_nm_ex hM
  refine zr_iinc (q := 185) (v := y42) (lv' := [(7, .int y42), (0, .ref (E.2.1 31)), (1, .int x1), (2, .int x2), (3, .int x3), (4, .int x4), (5, .int x5), (6, .int x6)]) g 7 dX9_falls_182 rfl rfl (by rw [e43]; rfl) (by decide) rfl ?_
  refine zr_goto (tgt := 57) g dX9_falls_185 rfl ?_
  refine zr_lv (lv' := [(0, .ref (E.2.1 31)), (1, .int x1), (2, .int x2), (3, .int x3), (4, .int x4), (5, .int x5), (6, .int x6), (7, .int y42)]) [1, 2, 3, 4, 5, 6, 7, 0] rfl ?_
  exact eL57 _ _ hM
noncomputable def B_X9_falls_179 (k57 : (Int32 × Int32 × Int32 × Int32 × Int32 × Int32 × Int32 × zw_Hp) → Option (Int32 × zw_Hp)) (x1 : Int32) (x2 : Int32) (x3 : Int32) (x4 : Int32) (x5 : Int32) (x7 : Int32) (s0 : Int32) (s1 : Int32) (h : zw_Hp) : Option (Int32 × zw_Hp) :=
  zw_nm (s1 + s0) (fun y40 => B_X9_falls_182 k57 x1 x2 x3 x4 x5 y40 x7 h)
set_option maxRecDepth 100000 in
set_option maxHeartbeats 4000000 in
theorem U_X9_falls_179 (ok : zw_Ok E) (hI : ∀ i, i < 48 → i ∈ E.2.2.1) (g : zw_G p E (zw_A E) s m args c RX9 cX9_falls 9) (hr : meth.sig.returnType = some .int) (hlk : meth.locks = false) {k57 : (Int32 × Int32 × Int32 × Int32 × Int32 × Int32 × Int32 × zw_Hp) → Option (Int32 × zw_Hp)} (eL57 : ∀ (w : Int32 × Int32 × Int32 × Int32 × Int32 × Int32 × Int32 × zw_Hp) (z : Int32 × zw_Hp), k57 w = some z → zw_V p l e s m args below meth c E mt_X9_falls 9 (some (.int z.1)) z.2 57 [(0, .ref (E.2.1 31)), (1, .int w.1), (2, .int w.2.1), (3, .int w.2.2.1), (4, .int w.2.2.2.1), (5, .int w.2.2.2.2.1), (6, .int w.2.2.2.2.2.1), (7, .int w.2.2.2.2.2.2.1)] [] w.2.2.2.2.2.2.2) :
    ∀ (x1 : Int32) (x2 : Int32) (x3 : Int32) (x4 : Int32) (x5 : Int32) (x7 : Int32) (s0 : Int32) (s1 : Int32) (h : zw_Hp) (z : Int32 × zw_Hp), B_X9_falls_179 k57 x1 x2 x3 x4 x5 x7 s0 s1 h = some z → zw_V p l e s m args below meth c E mt_X9_falls 9 (some (.int z.1)) z.2 179 [(0, .ref (E.2.1 31)), (1, .int x1), (2, .int x2), (3, .int x3), (4, .int x4), (5, .int x5), (7, .int x7)] [.int s0, .int s1] h := by
  intro x1 x2 x3 x4 x5 x7 s0 s1 h z hM
  unfold B_X9_falls_179 at hM
  refine zr_iadd (q := 180) g dX9_falls_179 rfl ?_
  obtain ⟨y40, e41, hM⟩ := zw_nm_ex hM
  refine zr_nmi e41 ?_
  refine zr_istore (q := 182) (lv' := [(6, .int y40), (0, .ref (E.2.1 31)), (1, .int x1), (2, .int x2), (3, .int x3), (4, .int x4), (5, .int x5), (7, .int x7)]) g dX9_falls_180 rfl (by decide) rfl ?_
  refine zr_lv (lv' := [(0, .ref (E.2.1 31)), (1, .int x1), (2, .int x2), (3, .int x3), (4, .int x4), (5, .int x5), (6, .int y40), (7, .int x7)]) [1, 2, 3, 4, 5, 6, 0, 7] rfl ?_
  exact U_X9_falls_182 ok hI g hr hlk eL57 _ _ _ _ _ _ _ _ _ hM
noncomputable def B_X9_falls_85 (k57 : (Int32 × Int32 × Int32 × Int32 × Int32 × Int32 × Int32 × zw_Hp) → Option (Int32 × zw_Hp)) (k85 : (Int32 × Int32 × Int32 × Int32 × Int32 × Int32 × Int32 × Int32 × zw_Hp) → Option (Int32 × zw_Hp)) (x1 : Int32) (x2 : Int32) (x3 : Int32) (x4 : Int32) (x5 : Int32) (x6 : Int32) (x7 : Int32) (x8 : Int32) (h : zw_Hp) : Option (Int32 × zw_Hp) :=
  if (h.1 31 8) ≤ x8 then ((M_X9_goBeats (10 : Int32) (31 : Int32) h).bind (fun z22 => (M_X9_many x7 z22).bind (fun z24 => if zw_ok (19 : Int32) 21 = true then (if zw_ok (19 : Int32) 21 = true then (if ((z22.1 38 ((19 : Int32)).toNatClampNeg) - (z22.1 37 ((19 : Int32)).toNatClampNeg)) < x1 then (B_X9_falls_179 k57 x1 x2 x3 x4 x5 x7 (0 : Int32) x6 z22) else ((M_X9_power x2 z24 z22).bind (fun z29 => (M_X9_power ((10 : Int32) - x2) (x5 - z24) z22).bind (fun z31 => B_X9_falls_179 k57 x1 x2 x3 x4 x5 x7 (z29 * z31) x6 z22)))) else none) else none))) else ((M_X9_has x7 x8 h).bind (fun z33 => if z33 = 0 then (B_X9_falls_114 k57 k85 x1 x2 x3 x4 x5 x6 x7 x8 h) else ((M_X9_sendBack 38 x8 h).bind (fun z36 => B_X9_falls_114 k57 k85 x1 x2 x3 x4 x5 x6 x7 x8 z36))))
set_option maxRecDepth 100000 in
set_option maxHeartbeats 4000000 in
theorem U_X9_falls_85 (ok : zw_Ok E) (hI : ∀ i, i < 48 → i ∈ E.2.2.1) (g : zw_G p E (zw_A E) s m args c RX9 cX9_falls 9) (hr : meth.sig.returnType = some .int) (hlk : meth.locks = false) {k57 : (Int32 × Int32 × Int32 × Int32 × Int32 × Int32 × Int32 × zw_Hp) → Option (Int32 × zw_Hp)} (eL57 : ∀ (w : Int32 × Int32 × Int32 × Int32 × Int32 × Int32 × Int32 × zw_Hp) (z : Int32 × zw_Hp), k57 w = some z → zw_V p l e s m args below meth c E mt_X9_falls 9 (some (.int z.1)) z.2 57 [(0, .ref (E.2.1 31)), (1, .int w.1), (2, .int w.2.1), (3, .int w.2.2.1), (4, .int w.2.2.2.1), (5, .int w.2.2.2.2.1), (6, .int w.2.2.2.2.2.1), (7, .int w.2.2.2.2.2.2.1)] [] w.2.2.2.2.2.2.2) {k85 : (Int32 × Int32 × Int32 × Int32 × Int32 × Int32 × Int32 × Int32 × zw_Hp) → Option (Int32 × zw_Hp)} (eL85 : ∀ (w : Int32 × Int32 × Int32 × Int32 × Int32 × Int32 × Int32 × Int32 × zw_Hp) (z : Int32 × zw_Hp), k85 w = some z → zw_V p l e s m args below meth c E mt_X9_falls 9 (some (.int z.1)) z.2 85 [(0, .ref (E.2.1 31)), (1, .int w.1), (2, .int w.2.1), (3, .int w.2.2.1), (4, .int w.2.2.2.1), (5, .int w.2.2.2.2.1), (6, .int w.2.2.2.2.2.1), (7, .int w.2.2.2.2.2.2.1), (8, .int w.2.2.2.2.2.2.2.1)] [] w.2.2.2.2.2.2.2.2) :
    ∀ (x1 : Int32) (x2 : Int32) (x3 : Int32) (x4 : Int32) (x5 : Int32) (x6 : Int32) (x7 : Int32) (x8 : Int32) (h : zw_Hp) (z : Int32 × zw_Hp), B_X9_falls_85 k57 k85 x1 x2 x3 x4 x5 x6 x7 x8 h = some z → zw_V p l e s m args below meth c E mt_X9_falls 9 (some (.int z.1)) z.2 85 [(0, .ref (E.2.1 31)), (1, .int x1), (2, .int x2), (3, .int x3), (4, .int x4), (5, .int x5), (6, .int x6), (7, .int x7), (8, .int x8)] [] h := by
  intro x1 x2 x3 x4 x5 x6 x7 x8 h z hM
  unfold B_X9_falls_85 at hM
  refine zr_iload (q := 87) g 8 dX9_falls_85 rfl rfl ?_
  refine zr_aload_n (q := 88) g 0 dX9_falls_87 rfl rfl rfl ?_
  refine zr_geti (q := 91) (k0 := 8) g (hI 31 (by decide)) zs_31 rfl zf_X9_70 dX9_falls_88 rfl ?_
  refine zr_icmp_ge (q := 94) (tgt := 120) g dX9_falls_91 rfl rfl (fun c21 => ?_) (fun c21 => ?_)
  · replace hM := zw_ift c21 hM
    refine zr_aload_n (q := 121) g 0 dX9_falls_120 rfl rfl rfl ?_
    refine zr_bipush (q := 123) (v := (10 : Int32)) g dX9_falls_121 rfl (by decide) ?_
    refine zr_bipush (q := 125) (v := (31 : Int32)) g dX9_falls_123 rfl (by decide) ?_
    obtain ⟨z22, q23, hM⟩ := zw_bd hM
    refine zr_callV (q := 128) (As := [.int (10 : Int32), .int (31 : Int32)]) (rest := []) (st' := []) (i := 31) g (R_X9_goBeats ok hI q23) zv_X9_goBeats zl_X9_205 (hI 31 (by decide)) zs_31 zc_X9.1 dX9_falls_125 rfl rfl ⟨Nat.le_of_ble_eq_true rfl, Nat.le_of_ble_eq_true rfl⟩ ⟨Nat.zero_le _, Nat.zero_le _⟩ (Nat.le_of_ble_eq_true rfl) rfl rfl ?_
    refine zr_iload (q := 130) g 7 dX9_falls_128 rfl rfl ?_
    obtain ⟨z24, q25, hM⟩ := zw_bd hM
    refine zr_callS (q := 133) (As := [.int x7]) (rest := []) (st' := [.int z24]) g (R_X9_many ok hI q25) zv_X9_many zl_X9_196 dX9_falls_130 rfl rfl ⟨Nat.le_of_ble_eq_true rfl, Nat.le_of_ble_eq_true rfl⟩ ⟨Nat.zero_le _, Nat.zero_le _⟩ (Nat.le_of_ble_eq_true rfl) rfl rfl ?_
    refine zr_istore (q := 135) (lv' := [(8, .int z24), (0, .ref (E.2.1 31)), (1, .int x1), (2, .int x2), (3, .int x3), (4, .int x4), (5, .int x5), (6, .int x6), (7, .int x7)]) g dX9_falls_133 rfl (by decide) rfl ?_
    refine zr_iload (q := 137) g 7 dX9_falls_135 rfl rfl ?_
    refine zr_aload_n (q := 138) g 1 dX9_falls_137 rfl rfl rfl ?_
    refine zr_getr (q := 141) (k0 := 19) (j := 38) g (hI 31 (by decide)) zs_31 rfl zf_X9_28 dX9_falls_138 rfl ?_
    refine zr_bipush (q := 143) (v := (19 : Int32)) g dX9_falls_141 rfl (by decide) ?_
    obtain ⟨c26, hM⟩ := zw_gd hM
    refine zr_iald (q := 144) g (hI 38 (by decide)) zs_38 c26 dX9_falls_143 rfl ?_
    refine zr_aload_n (q := 145) g 1 dX9_falls_144 rfl rfl rfl ?_
    refine zr_getr (q := 148) (k0 := 18) (j := 37) g (hI 31 (by decide)) zs_31 rfl zf_X9_25 dX9_falls_145 rfl ?_
    refine zr_bipush (q := 150) (v := (19 : Int32)) g dX9_falls_148 rfl (by decide) ?_
    obtain ⟨c27, hM⟩ := zw_gd hM
    refine zr_iald (q := 151) g (hI 37 (by decide)) zs_37 c27 dX9_falls_150 rfl ?_
    refine zr_isub (q := 152) g dX9_falls_151 rfl ?_
    refine zr_iload_n (q := 153) g 2 dX9_falls_152 rfl rfl rfl ?_
    refine zr_icmp_lt (q := 156) (tgt := 178) g dX9_falls_153 rfl rfl (fun c28 => ?_) (fun c28 => ?_)
    · replace hM := zw_ift c28 hM
      refine zr_iconst (q := 179) (v := (0 : Int32)) g dX9_falls_178 rfl (by decide) ?_
      refine zr_lv (lv' := [(0, .ref (E.2.1 31)), (1, .int x1), (2, .int x2), (3, .int x3), (4, .int x4), (5, .int x5), (7, .int x7)]) [1, 2, 3, 4, 5, 6, 8] rfl ?_
      exact U_X9_falls_179 ok hI g hr hlk eL57 _ _ _ _ _ _ _ _ _ _ hM
    · replace hM := zw_iff c28 hM
      refine zr_iload_n (q := 157) g 3 dX9_falls_156 rfl rfl rfl ?_
      refine zr_iload (q := 159) g 0 dX9_falls_157 rfl rfl ?_
      obtain ⟨z29, q30, hM⟩ := zw_bd hM
      refine zr_callS (q := 162) (As := [.int x2, .int z24]) (rest := [.int x6]) (st' := [.int z29, .int x6]) g (R_X9_power ok hI q30) zv_X9_power zl_X9_278 dX9_falls_159 rfl rfl ⟨Nat.le_of_ble_eq_true rfl, Nat.le_of_ble_eq_true rfl⟩ ⟨Nat.zero_le _, Nat.zero_le _⟩ (Nat.le_of_ble_eq_true rfl) rfl rfl ?_
      refine zr_bipush (q := 164) (v := (10 : Int32)) g dX9_falls_162 rfl (by decide) ?_
      refine zr_iload_n (q := 165) g 3 dX9_falls_164 rfl rfl rfl ?_
      refine zr_isub (q := 166) g dX9_falls_165 rfl ?_
      refine zr_iload (q := 168) g 6 dX9_falls_166 rfl rfl ?_
      refine zr_iload (q := 170) g 0 dX9_falls_168 rfl rfl ?_
      refine zr_isub (q := 171) g dX9_falls_170 rfl ?_
      obtain ⟨z31, q32, hM⟩ := zw_bd hM
      refine zr_callS (q := 174) (As := [.int ((10 : Int32) - x2), .int (x5 - z24)]) (rest := [.int z29, .int x6]) (st' := [.int z31, .int z29, .int x6]) g (R_X9_power ok hI q32) zv_X9_power zl_X9_278 dX9_falls_171 rfl rfl ⟨Nat.le_of_ble_eq_true rfl, Nat.le_of_ble_eq_true rfl⟩ ⟨Nat.zero_le _, Nat.zero_le _⟩ (Nat.le_of_ble_eq_true rfl) rfl rfl ?_
      refine zr_imul (q := 175) g dX9_falls_174 rfl ?_
      refine zr_goto (tgt := 179) g dX9_falls_175 rfl ?_
      refine zr_lv (lv' := [(0, .ref (E.2.1 31)), (1, .int x1), (2, .int x2), (3, .int x3), (4, .int x4), (5, .int x5), (7, .int x7)]) [1, 2, 3, 4, 5, 6, 8] rfl ?_
      exact U_X9_falls_179 ok hI g hr hlk eL57 _ _ _ _ _ _ _ _ _ _ hM
  · replace hM := zw_iff c21 hM
    refine zr_iload (q := 96) g 7 dX9_falls_94 rfl rfl ?_
    refine zr_iload (q := 98) g 8 dX9_falls_96 rfl rfl ?_
    obtain ⟨z33, q34, hM⟩ := zw_bd hM
    refine zr_callS (q := 101) (As := [.int x7, .int x8]) (rest := []) (st' := [.int z33]) g (R_X9_has ok hI q34) zv_X9_has zl_X9_129 dX9_falls_98 rfl rfl ⟨Nat.le_of_ble_eq_true rfl, Nat.le_of_ble_eq_true rfl⟩ ⟨Nat.zero_le _, Nat.zero_le _⟩ (Nat.le_of_ble_eq_true rfl) rfl rfl ?_
    refine zr_if_eq (q := 104) (tgt := 114) g dX9_falls_101 rfl rfl (fun c35 => ?_) (fun c35 => ?_)
    · replace hM := zw_ift c35 hM
      exact U_X9_falls_114 ok hI g hr hlk eL57 eL85 _ _ _ _ _ _ _ _ _ _ hM
    · replace hM := zw_iff c35 hM
      refine zr_aload_n (q := 105) g 0 dX9_falls_104 rfl rfl rfl ?_
      refine zr_aload_n (q := 106) g 0 dX9_falls_105 rfl rfl rfl ?_
      refine zr_getr (q := 109) (k0 := 19) (j := 38) g (hI 31 (by decide)) zs_31 rfl zf_X9_28 dX9_falls_106 rfl ?_
      refine zr_iload (q := 111) g 8 dX9_falls_109 rfl rfl ?_
      obtain ⟨z36, q37, hM⟩ := zw_bd hM
      refine zr_callV (q := 114) (As := [.ref (E.2.1 38), .int x8]) (rest := []) (st' := []) (i := 31) g (R_X9_sendBack (Or.inr rfl) ok hI q37) zv_X9_sendBack zl_X9_162 (hI 31 (by decide)) zs_31 zc_X9.1 dX9_falls_111 rfl rfl ⟨Nat.le_of_ble_eq_true rfl, Nat.le_of_ble_eq_true rfl⟩ ⟨Nat.zero_le _, Nat.zero_le _⟩ (Nat.le_of_ble_eq_true rfl) rfl rfl ?_
      exact U_X9_falls_114 ok hI g hr hlk eL57 eL85 _ _ _ _ _ _ _ _ _ _ hM
noncomputable def L_X9_falls_85 (k57 : (Int32 × Int32 × Int32 × Int32 × Int32 × Int32 × Int32 × zw_Hp) → Option (Int32 × zw_Hp)) (w : Int32 × Int32 × Int32 × Int32 × Int32 × Int32 × Int32 × Int32 × zw_Hp) : Option (Int32 × zw_Hp) :=
  zw_it (fun (k85 : (Int32 × Int32 × Int32 × Int32 × Int32 × Int32 × Int32 × Int32 × zw_Hp) → Option (Int32 × zw_Hp)) (w : Int32 × Int32 × Int32 × Int32 × Int32 × Int32 × Int32 × Int32 × zw_Hp) => B_X9_falls_85 k57 k85 (w.1) (w.2.1) (w.2.2.1) (w.2.2.2.1) (w.2.2.2.2.1) (w.2.2.2.2.2.1) (w.2.2.2.2.2.2.1) (w.2.2.2.2.2.2.2.1) (w.2.2.2.2.2.2.2.2)) 600 w
theorem UL_X9_falls_85 (ok : zw_Ok E) (hI : ∀ i, i < 48 → i ∈ E.2.2.1) (g : zw_G p E (zw_A E) s m args c RX9 cX9_falls 9) (hr : meth.sig.returnType = some .int) (hlk : meth.locks = false) {k57 : (Int32 × Int32 × Int32 × Int32 × Int32 × Int32 × Int32 × zw_Hp) → Option (Int32 × zw_Hp)} (eL57 : ∀ (w : Int32 × Int32 × Int32 × Int32 × Int32 × Int32 × Int32 × zw_Hp) (z : Int32 × zw_Hp), k57 w = some z → zw_V p l e s m args below meth c E mt_X9_falls 9 (some (.int z.1)) z.2 57 [(0, .ref (E.2.1 31)), (1, .int w.1), (2, .int w.2.1), (3, .int w.2.2.1), (4, .int w.2.2.2.1), (5, .int w.2.2.2.2.1), (6, .int w.2.2.2.2.2.1), (7, .int w.2.2.2.2.2.2.1)] [] w.2.2.2.2.2.2.2) :
    ∀ (w : Int32 × Int32 × Int32 × Int32 × Int32 × Int32 × Int32 × Int32 × zw_Hp) (z : Int32 × zw_Hp), L_X9_falls_85 k57 w = some z → zw_V p l e s m args below meth c E mt_X9_falls 9 (some (.int z.1)) z.2 85 [(0, .ref (E.2.1 31)), (1, .int w.1), (2, .int w.2.1), (3, .int w.2.2.1), (4, .int w.2.2.2.1), (5, .int w.2.2.2.2.1), (6, .int w.2.2.2.2.2.1), (7, .int w.2.2.2.2.2.2.1), (8, .int w.2.2.2.2.2.2.2.1)] [] w.2.2.2.2.2.2.2.2 :=
  fun w z hM => zw_it_ind (P := fun (w : Int32 × Int32 × Int32 × Int32 × Int32 × Int32 × Int32 × Int32 × zw_Hp) (z : Int32 × zw_Hp) => zw_V p l e s m args below meth c E mt_X9_falls 9 (some (.int z.1)) z.2 85 [(0, .ref (E.2.1 31)), (1, .int w.1), (2, .int w.2.1), (3, .int w.2.2.1), (4, .int w.2.2.2.1), (5, .int w.2.2.2.2.1), (6, .int w.2.2.2.2.2.1), (7, .int w.2.2.2.2.2.2.1), (8, .int w.2.2.2.2.2.2.2.1)] [] w.2.2.2.2.2.2.2.2) (fun k e w z hM => U_X9_falls_85 ok hI g hr hlk eL57 e _ _ _ _ _ _ _ _ _ _ hM) 600 w z hM
noncomputable def B_X9_falls_57 (k57 : (Int32 × Int32 × Int32 × Int32 × Int32 × Int32 × Int32 × zw_Hp) → Option (Int32 × zw_Hp)) (x1 : Int32) (x2 : Int32) (x3 : Int32) (x4 : Int32) (x5 : Int32) (x6 : Int32) (x7 : Int32) (h : zw_Hp) : Option (Int32 × zw_Hp) :=
  if ((1 : Int32) <<< ((h.1 31 8) &&& 31)) ≤ x7 then ((M_X9_power (10 : Int32) x5 h).bind (fun z14 => (M_X9_fraction x6 z14 x3 h).bind (fun z16 => some (z16, h)))) else (if (x7 &&& (x4 ^^^ (-1 : Int32))) = 0 then ((M_X9_begin h).bind (fun z19 => L_X9_falls_85 k57 (x1, x2, x3, x4, x5, x6, x7, (0 : Int32), z19))) else (B_X9_falls_182 k57 x1 x2 x3 x4 x5 x6 x7 h))
set_option maxRecDepth 100000 in
set_option maxHeartbeats 4000000 in
theorem U_X9_falls_57 (ok : zw_Ok E) (hI : ∀ i, i < 48 → i ∈ E.2.2.1) (g : zw_G p E (zw_A E) s m args c RX9 cX9_falls 9) (hr : meth.sig.returnType = some .int) (hlk : meth.locks = false) {k57 : (Int32 × Int32 × Int32 × Int32 × Int32 × Int32 × Int32 × zw_Hp) → Option (Int32 × zw_Hp)} (eL57 : ∀ (w : Int32 × Int32 × Int32 × Int32 × Int32 × Int32 × Int32 × zw_Hp) (z : Int32 × zw_Hp), k57 w = some z → zw_V p l e s m args below meth c E mt_X9_falls 9 (some (.int z.1)) z.2 57 [(0, .ref (E.2.1 31)), (1, .int w.1), (2, .int w.2.1), (3, .int w.2.2.1), (4, .int w.2.2.2.1), (5, .int w.2.2.2.2.1), (6, .int w.2.2.2.2.2.1), (7, .int w.2.2.2.2.2.2.1)] [] w.2.2.2.2.2.2.2) :
    ∀ (x1 : Int32) (x2 : Int32) (x3 : Int32) (x4 : Int32) (x5 : Int32) (x6 : Int32) (x7 : Int32) (h : zw_Hp) (z : Int32 × zw_Hp), B_X9_falls_57 k57 x1 x2 x3 x4 x5 x6 x7 h = some z → zw_V p l e s m args below meth c E mt_X9_falls 9 (some (.int z.1)) z.2 57 [(0, .ref (E.2.1 31)), (1, .int x1), (2, .int x2), (3, .int x3), (4, .int x4), (5, .int x5), (6, .int x6), (7, .int x7)] [] h := by
  intro x1 x2 x3 x4 x5 x6 x7 h z hM
  unfold B_X9_falls_57 at hM
  refine zr_iload (q := 59) g 7 dX9_falls_57 rfl rfl ?_
  refine zr_iconst (q := 60) (v := (1 : Int32)) g dX9_falls_59 rfl (by decide) ?_
  refine zr_aload_n (q := 61) g 0 dX9_falls_60 rfl rfl rfl ?_
  refine zr_geti (q := 64) (k0 := 8) g (hI 31 (by decide)) zs_31 rfl zf_X9_70 dX9_falls_61 rfl ?_
  refine zr_ishl (q := 65) g dX9_falls_64 rfl ?_
  refine zr_icmp_ge (q := 68) (tgt := 188) g dX9_falls_65 rfl rfl (fun c13 => ?_) (fun c13 => ?_)
  · replace hM := zw_ift c13 hM
    refine zr_iload (q := 190) g 6 dX9_falls_188 rfl rfl ?_
    refine zr_bipush (q := 192) (v := (10 : Int32)) g dX9_falls_190 rfl (by decide) ?_
    refine zr_iload (q := 194) g 5 dX9_falls_192 rfl rfl ?_
    obtain ⟨z14, q15, hM⟩ := zw_bd hM
    refine zr_callS (q := 197) (As := [.int (10 : Int32), .int x5]) (rest := [.int x6]) (st' := [.int z14, .int x6]) g (R_X9_power ok hI q15) zv_X9_power zl_X9_278 dX9_falls_194 rfl rfl ⟨Nat.le_of_ble_eq_true rfl, Nat.le_of_ble_eq_true rfl⟩ ⟨Nat.zero_le _, Nat.zero_le _⟩ (Nat.le_of_ble_eq_true rfl) rfl rfl ?_
    refine zr_iload_n (q := 198) g 3 dX9_falls_197 rfl rfl rfl ?_
    obtain ⟨z16, q17, hM⟩ := zw_bd hM
    refine zr_callS (q := 201) (As := [.int x6, .int z14, .int x3]) (rest := []) (st' := [.int z16]) g (R_X9_fraction ok hI q17) zv_X9_fraction zl_X9_252 dX9_falls_198 rfl rfl ⟨Nat.le_of_ble_eq_true rfl, Nat.le_of_ble_eq_true rfl⟩ ⟨Nat.zero_le _, Nat.zero_le _⟩ (Nat.le_of_ble_eq_true rfl) rfl rfl ?_
    cases hM
    exact zr_iret g hr hlk dX9_falls_201 rfl rfl
  · replace hM := zw_iff c13 hM
    refine zr_iload (q := 70) g 7 dX9_falls_68 rfl rfl ?_
    refine zr_iload (q := 72) g 4 dX9_falls_70 rfl rfl ?_
    refine zr_iconst (q := 73) (v := (-1 : Int32)) g dX9_falls_72 rfl (by decide) ?_
    refine zr_ixor (q := 74) g dX9_falls_73 rfl ?_
    refine zr_iand (q := 75) g dX9_falls_74 rfl ?_
    refine zr_if_ne (q := 78) (tgt := 182) g dX9_falls_75 rfl rfl (fun c18 => ?_) (fun c18 => ?_)
    · replace hM := zw_iff c18 hM
      exact U_X9_falls_182 ok hI g hr hlk eL57 _ _ _ _ _ _ _ _ _ hM
    · replace hM := zw_ift c18 hM
      refine zr_aload_n (q := 79) g 0 dX9_falls_78 rfl rfl rfl ?_
      obtain ⟨z19, q20, hM⟩ := zw_bd hM
      refine zr_callV (q := 82) (As := []) (rest := []) (st' := []) (i := 31) g (R_X9_begin ok hI q20) zv_X9_begin zl_X9_202 (hI 31 (by decide)) zs_31 zc_X9.1 dX9_falls_79 rfl rfl ⟨Nat.le_of_ble_eq_true rfl, Nat.le_of_ble_eq_true rfl⟩ ⟨Nat.zero_le _, Nat.zero_le _⟩ (Nat.le_of_ble_eq_true rfl) rfl rfl ?_
      refine zr_iconst (q := 83) (v := (0 : Int32)) g dX9_falls_82 rfl (by decide) ?_
      refine zr_istore (q := 85) (lv' := [(8, .int (0 : Int32)), (0, .ref (E.2.1 31)), (1, .int x1), (2, .int x2), (3, .int x3), (4, .int x4), (5, .int x5), (6, .int x6), (7, .int x7)]) g dX9_falls_83 rfl (by decide) rfl ?_
      refine zr_lv (lv' := [(0, .ref (E.2.1 31)), (1, .int x1), (2, .int x2), (3, .int x3), (4, .int x4), (5, .int x5), (6, .int x6), (7, .int x7), (8, .int (0 : Int32))]) [1, 2, 3, 4, 5, 6, 7, 8, 0] rfl ?_
      exact UL_X9_falls_85 ok hI g hr hlk eL57 _ _ hM
noncomputable def L_X9_falls_57 (w : Int32 × Int32 × Int32 × Int32 × Int32 × Int32 × Int32 × zw_Hp) : Option (Int32 × zw_Hp) :=
  zw_it (fun (k57 : (Int32 × Int32 × Int32 × Int32 × Int32 × Int32 × Int32 × zw_Hp) → Option (Int32 × zw_Hp)) (w : Int32 × Int32 × Int32 × Int32 × Int32 × Int32 × Int32 × zw_Hp) => B_X9_falls_57 k57 (w.1) (w.2.1) (w.2.2.1) (w.2.2.2.1) (w.2.2.2.2.1) (w.2.2.2.2.2.1) (w.2.2.2.2.2.2.1) (w.2.2.2.2.2.2.2)) 600 w
theorem UL_X9_falls_57 (ok : zw_Ok E) (hI : ∀ i, i < 48 → i ∈ E.2.2.1) (g : zw_G p E (zw_A E) s m args c RX9 cX9_falls 9) (hr : meth.sig.returnType = some .int) (hlk : meth.locks = false) :
    ∀ (w : Int32 × Int32 × Int32 × Int32 × Int32 × Int32 × Int32 × zw_Hp) (z : Int32 × zw_Hp), L_X9_falls_57 w = some z → zw_V p l e s m args below meth c E mt_X9_falls 9 (some (.int z.1)) z.2 57 [(0, .ref (E.2.1 31)), (1, .int w.1), (2, .int w.2.1), (3, .int w.2.2.1), (4, .int w.2.2.2.1), (5, .int w.2.2.2.2.1), (6, .int w.2.2.2.2.2.1), (7, .int w.2.2.2.2.2.2.1)] [] w.2.2.2.2.2.2.2 :=
  fun w z hM => zw_it_ind (P := fun (w : Int32 × Int32 × Int32 × Int32 × Int32 × Int32 × Int32 × zw_Hp) (z : Int32 × zw_Hp) => zw_V p l e s m args below meth c E mt_X9_falls 9 (some (.int z.1)) z.2 57 [(0, .ref (E.2.1 31)), (1, .int w.1), (2, .int w.2.1), (3, .int w.2.2.1), (4, .int w.2.2.2.1), (5, .int w.2.2.2.2.1), (6, .int w.2.2.2.2.2.1), (7, .int w.2.2.2.2.2.2.1)] [] w.2.2.2.2.2.2.2) (fun k e w z hM => U_X9_falls_57 ok hI g hr hlk e _ _ _ _ _ _ _ _ _ hM) 600 w z hM
noncomputable def M_X9_falls (x1 : Int32) (x2 : Int32) (x3 : Int32) (h : zw_Hp) : Option (Int32 × zw_Hp) :=
  zw_nm (zw_up h 31 0 (0 : Int32)) (fun h1 => (M_X9_in (x1).toInt64 (0 : Int64) (99 : Int64) h1).bind (fun z3 => if z3 = 0 then (some ((-2 : Int32), h1)) else ((M_X9_in (x2).toInt64 (0 : Int64) (10 : Int64) h1).bind (fun z6 => if z6 = 0 then (some ((-2 : Int32), h1)) else ((M_X9_bucketsAt 37 (0 : Int32) (4 : Int32) h1).bind (fun z9 => (M_X9_many z9 h1).bind (fun z11 => L_X9_falls_57 (x1, x2, x3, z9, z11, (0 : Int32), (0 : Int32), h1))))))))
set_option maxRecDepth 100000 in
set_option maxHeartbeats 4000000 in
theorem R_X9_falls (ok : zw_Ok E) (hI : ∀ i, i < 48 → i ∈ E.2.2.1) {x1 : Int32} {x2 : Int32} {x3 : Int32} {h : zw_Hp} {z : Int32 × zw_Hp} (hM : M_X9_falls x1 x2 x3 h = some z) : zw_Ct l E mt_X9_falls [.ref (E.2.1 31), .int x1, .int x2, .int x3] h (some (.int z.1)) z.2 := by
  unfold M_X9_falls at hM
  refine zw_ct (lv0 := [(0, .ref (E.2.1 31)), (1, .int x1), (2, .int x2), (3, .int x3)]) ok (by decide) rfl (Nat.le_of_ble_eq_true rfl) (fun p e s m args below meth c g hr hlk => ?_)
  replace g : zw_G p E (zw_A E) s m args c RX9 cX9_falls 9 := g
  show zw_V p l e s m args below meth c E mt_X9_falls 9 (some (.int z.1)) z.2 0 [(0, .ref (E.2.1 31)), (1, .int x1), (2, .int x2), (3, .int x3)] [] h
  refine zr_aload_n (q := 1) g 0 dX9_falls_0 rfl rfl rfl ?_
  refine zr_iconst (q := 2) (v := (0 : Int32)) g dX9_falls_1 rfl (by decide) ?_
  obtain ⟨h1, e2, hM⟩ := zw_nm_ex hM
  refine zr_puti (q := 5) (k0 := 0) (h' := h1) g (hI 31 (by decide)) zs_31 rfl zp_X9_59 dX9_falls_2 rfl e2 ?_
  refine zr_iload_n (q := 6) g 1 dX9_falls_5 rfl rfl rfl ?_
  refine zr_i2l (q := 7) g dX9_falls_6 rfl ?_
  refine zr_lconst (q := 8) (v := (0 : Int64)) g dX9_falls_7 rfl (by decide) ?_
  refine zr_ldc2 (q := 11) (v := (99 : Int64)) g dX9_falls_8 rfl zk_X9_258 ?_
  obtain ⟨z3, q4, hM⟩ := zw_bd hM
  refine zr_callS (q := 14) (As := [.long (x1).toInt64, .long (0 : Int64), .long (99 : Int64)]) (rest := []) (st' := [.int z3]) g (R_X9_in ok hI q4) zv_X9_in zl_X9_66 dX9_falls_11 rfl rfl ⟨Nat.le_of_ble_eq_true rfl, Nat.le_of_ble_eq_true rfl⟩ ⟨Nat.zero_le _, Nat.zero_le _⟩ (Nat.le_of_ble_eq_true rfl) rfl rfl ?_
  refine zr_if_eq (q := 17) (tgt := 29) g dX9_falls_14 rfl rfl (fun c5 => ?_) (fun c5 => ?_)
  · replace hM := zw_ift c5 hM
    refine zr_bipush (q := 31) (v := (-2 : Int32)) g dX9_falls_29 rfl (by decide) ?_
    cases hM
    exact zr_iret g hr hlk dX9_falls_31 rfl rfl
  · replace hM := zw_iff c5 hM
    refine zr_iload_n (q := 18) g 2 dX9_falls_17 rfl rfl rfl ?_
    refine zr_i2l (q := 19) g dX9_falls_18 rfl ?_
    refine zr_lconst (q := 20) (v := (0 : Int64)) g dX9_falls_19 rfl (by decide) ?_
    refine zr_ldc2 (q := 23) (v := (10 : Int64)) g dX9_falls_20 rfl zk_X9_276 ?_
    obtain ⟨z6, q7, hM⟩ := zw_bd hM
    refine zr_callS (q := 26) (As := [.long (x2).toInt64, .long (0 : Int64), .long (10 : Int64)]) (rest := []) (st' := [.int z6]) g (R_X9_in ok hI q7) zv_X9_in zl_X9_66 dX9_falls_23 rfl rfl ⟨Nat.le_of_ble_eq_true rfl, Nat.le_of_ble_eq_true rfl⟩ ⟨Nat.zero_le _, Nat.zero_le _⟩ (Nat.le_of_ble_eq_true rfl) rfl rfl ?_
    refine zr_if_ne (q := 29) (tgt := 32) g dX9_falls_26 rfl rfl (fun c8 => ?_) (fun c8 => ?_)
    · replace hM := zw_iff c8 hM
      refine zr_aload_n (q := 33) g 0 dX9_falls_32 rfl rfl rfl ?_
      refine zr_aload_n (q := 34) g 0 dX9_falls_33 rfl rfl rfl ?_
      refine zr_getr (q := 37) (k0 := 18) (j := 37) g (hI 31 (by decide)) zs_31 rfl zf_X9_25 dX9_falls_34 rfl ?_
      refine zr_iconst (q := 38) (v := (0 : Int32)) g dX9_falls_37 rfl (by decide) ?_
      refine zr_iconst (q := 39) (v := (4 : Int32)) g dX9_falls_38 rfl (by decide) ?_
      obtain ⟨z9, q10, hM⟩ := zw_bd hM
      refine zr_callV (q := 42) (As := [.ref (E.2.1 37), .int (0 : Int32), .int (4 : Int32)]) (rest := []) (st' := [.int z9]) (i := 31) g (R_X9_bucketsAt (Or.inl rfl) ok hI q10) zv_X9_bucketsAt zl_X9_170 (hI 31 (by decide)) zs_31 zc_X9.1 dX9_falls_39 rfl rfl ⟨Nat.le_of_ble_eq_true rfl, Nat.le_of_ble_eq_true rfl⟩ ⟨Nat.zero_le _, Nat.zero_le _⟩ (Nat.le_of_ble_eq_true rfl) rfl rfl ?_
      refine zr_istore (q := 44) (lv' := [(4, .int z9), (0, .ref (E.2.1 31)), (1, .int x1), (2, .int x2), (3, .int x3)]) g dX9_falls_42 rfl (by decide) rfl ?_
      refine zr_iload (q := 46) g 0 dX9_falls_44 rfl rfl ?_
      obtain ⟨z11, q12, hM⟩ := zw_bd hM
      refine zr_callS (q := 49) (As := [.int z9]) (rest := []) (st' := [.int z11]) g (R_X9_many ok hI q12) zv_X9_many zl_X9_196 dX9_falls_46 rfl rfl ⟨Nat.le_of_ble_eq_true rfl, Nat.le_of_ble_eq_true rfl⟩ ⟨Nat.zero_le _, Nat.zero_le _⟩ (Nat.le_of_ble_eq_true rfl) rfl rfl ?_
      refine zr_istore (q := 51) (lv' := [(5, .int z11), (4, .int z9), (0, .ref (E.2.1 31)), (1, .int x1), (2, .int x2), (3, .int x3)]) g dX9_falls_49 rfl (by decide) rfl ?_
      refine zr_iconst (q := 52) (v := (0 : Int32)) g dX9_falls_51 rfl (by decide) ?_
      refine zr_istore (q := 54) (lv' := [(6, .int (0 : Int32)), (5, .int z11), (4, .int z9), (0, .ref (E.2.1 31)), (1, .int x1), (2, .int x2), (3, .int x3)]) g dX9_falls_52 rfl (by decide) rfl ?_
      refine zr_iconst (q := 55) (v := (0 : Int32)) g dX9_falls_54 rfl (by decide) ?_
      refine zr_istore (q := 57) (lv' := [(7, .int (0 : Int32)), (6, .int (0 : Int32)), (5, .int z11), (4, .int z9), (0, .ref (E.2.1 31)), (1, .int x1), (2, .int x2), (3, .int x3)]) g dX9_falls_55 rfl (by decide) rfl ?_
      refine zr_lv (lv' := [(0, .ref (E.2.1 31)), (1, .int x1), (2, .int x2), (3, .int x3), (4, .int z9), (5, .int z11), (6, .int (0 : Int32)), (7, .int (0 : Int32))]) [4, 5, 6, 7, 3, 2, 1, 0] rfl ?_
      exact UL_X9_falls_57 ok hI g hr hlk _ _ hM
    · replace hM := zw_ift c8 hM
      refine zr_bipush (q := 31) (v := (-2 : Int32)) g dX9_falls_29 rfl (by decide) ?_
      cases hM
      exact zr_iret g hr hlk dX9_falls_31 rfl rfl
noncomputable def M_X9_seed (x1 : Int64) (h : zw_Hp) : Option (Int64 × zw_Hp) :=
  zw_nm (zw_up h 31 0 (0 : Int32)) (fun h1 => zw_nm (h1.2 31) (fun y3 => zw_nm (zw_upL h1 31 x1) (fun h5 => some (y3, h5))))
set_option maxRecDepth 100000 in
set_option maxHeartbeats 4000000 in
theorem R_X9_seed (ok : zw_Ok E) (hI : ∀ i, i < 48 → i ∈ E.2.2.1) {x1 : Int64} {h : zw_Hp} {z : Int64 × zw_Hp} (hM : M_X9_seed x1 h = some z) : zw_Ct l E mt_X9_seed [.ref (E.2.1 31), .long x1] h (some (.long z.1)) z.2 := by
  unfold M_X9_seed at hM
  refine zw_ct (lv0 := [(0, .ref (E.2.1 31)), (1, .long x1)]) ok (by decide) rfl (Nat.le_of_ble_eq_true rfl) (fun p e s m args below meth c g hr hlk => ?_)
  replace g : zw_G p E (zw_A E) s m args c RX9 cX9_seed 5 := g
  show zw_V p l e s m args below meth c E mt_X9_seed 5 (some (.long z.1)) z.2 0 [(0, .ref (E.2.1 31)), (1, .long x1)] [] h
  refine zr_aload_n (q := 1) g 0 dX9_seed_0 rfl rfl rfl ?_
  refine zr_iconst (q := 2) (v := (0 : Int32)) g dX9_seed_1 rfl (by decide) ?_
  obtain ⟨h1, e2, hM⟩ := zw_nm_ex hM
  refine zr_puti (q := 5) (k0 := 0) (h' := h1) g (hI 31 (by decide)) zs_31 rfl zp_X9_59 dX9_seed_2 rfl e2 ?_
  refine zr_aload_n (q := 6) g 0 dX9_seed_5 rfl rfl rfl ?_
  refine zr_getl (q := 9) (k0 := 28) g (hI 31 (by decide)) zs_31 rfl zf_X9_281 dX9_seed_6 rfl ?_
  obtain ⟨y3, e4, hM⟩ := zw_nm_ex hM
  refine zr_nml e4 ?_
  refine zr_lstore_n (q := 10) (lv' := [(3, .long y3), (0, .ref (E.2.1 31)), (1, .long x1)]) g dX9_seed_9 rfl rfl (by decide) rfl ?_
  refine zr_aload_n (q := 11) g 1 dX9_seed_10 rfl rfl rfl ?_
  refine zr_lload_n (q := 12) g 2 dX9_seed_11 rfl rfl rfl ?_
  obtain ⟨h5, e6, hM⟩ := zw_nm_ex hM
  refine zr_putl (q := 15) (k0 := 28) (h' := h5) g (hI 31 (by decide)) zs_31 rfl (by intro j hj; rcases j with _ | _ | _ | _ | _ | _ | _ | _ | _ | _ | _ | _ | _ | _ | _ | _ | _ | _ | _ | _ | _ | _ | _ | _ | _ | _ | _ | _ | _ | _ | _ | _ | _ | _ | _ | _ | _ | _ | j <;> first | rfl | simp at hj) zp_X9_281 dX9_seed_12 rfl e6 ?_
  refine zr_lload_n (q := 16) g 0 dX9_seed_15 rfl rfl rfl ?_
  cases hM
  exact zr_lret g hr hlk dX9_seed_16 rfl rfl
noncomputable def B_X9_nights_114 (k28 : (Int32 × Int32 × Int32 × zw_Hp) → Option (Int32 × zw_Hp)) (x1 : Int32) (x2 : Int32) (x3 : Int32) (s0 : Int32) (h : zw_Hp) : Option (Int32 × zw_Hp) :=
  (M_X9_does s0 h).bind (fun z16 => if zw_ok (18 : Int32) 21 = true then (zw_nm (x2 + (z16.2.1 38 ((18 : Int32)).toNatClampNeg)) (fun y19 => zw_nm (x3 + (1 : Int32)) (fun y21 => k28 (x1, y19, y21, z16.2)))) else none)
set_option maxRecDepth 100000 in
set_option maxHeartbeats 4000000 in
theorem U_X9_nights_114 (ok : zw_Ok E) (hI : ∀ i, i < 48 → i ∈ E.2.2.1) (g : zw_G p E (zw_A E) s m args c RX9 cX9_nights 5) (hr : meth.sig.returnType = some .int) (hlk : meth.locks = false) {k28 : (Int32 × Int32 × Int32 × zw_Hp) → Option (Int32 × zw_Hp)} (eL28 : ∀ (w : Int32 × Int32 × Int32 × zw_Hp) (z : Int32 × zw_Hp), k28 w = some z → zw_V p l e s m args below meth c E mt_X9_nights 5 (some (.int z.1)) z.2 28 [(0, .ref (E.2.1 31)), (1, .int w.1), (2, .int w.2.1), (3, .int w.2.2.1)] [] w.2.2.2) :
    ∀ (x1 : Int32) (x2 : Int32) (x3 : Int32) (s0 : Int32) (h : zw_Hp) (z : Int32 × zw_Hp), B_X9_nights_114 k28 x1 x2 x3 s0 h = some z → zw_V p l e s m args below meth c E mt_X9_nights 5 (some (.int z.1)) z.2 114 [(0, .ref (E.2.1 31)), (1, .int x1), (2, .int x2), (3, .int x3)] [.int s0, .ref (E.2.1 31)] h := by
  intro x1 x2 x3 s0 h z hM
  unfold B_X9_nights_114 at hM
  obtain ⟨z16, q17, hM⟩ := zw_bd hM
  refine zr_callV (q := 117) (As := [.int s0]) (rest := []) (st' := [.int z16.1]) (i := 31) g (R_X9_does ok hI q17) zv_X9_does zl_X9_243 (hI 31 (by decide)) zs_31 zc_X9.1 dX9_nights_114 rfl rfl ⟨Nat.le_of_ble_eq_true rfl, Nat.le_of_ble_eq_true rfl⟩ ⟨Nat.zero_le _, Nat.zero_le _⟩ (Nat.le_of_ble_eq_true rfl) rfl rfl ?_
  refine zr_pop (q := 118) g dX9_nights_117 rfl rfl ?_
  refine zr_iload_n (q := 119) g 2 dX9_nights_118 rfl rfl rfl ?_
  refine zr_aload_n (q := 120) g 0 dX9_nights_119 rfl rfl rfl ?_
  refine zr_getr (q := 123) (k0 := 19) (j := 38) g (hI 31 (by decide)) zs_31 rfl zf_X9_28 dX9_nights_120 rfl ?_
  refine zr_bipush (q := 125) (v := (18 : Int32)) g dX9_nights_123 rfl (by decide) ?_
  obtain ⟨c18, hM⟩ := zw_gd hM
  refine zr_iald (q := 126) g (hI 38 (by decide)) zs_38 c18 dX9_nights_125 rfl ?_
  refine zr_iadd (q := 127) g dX9_nights_126 rfl ?_
  obtain ⟨y19, e20, hM⟩ := zw_nm_ex hM
  refine zr_nmi e20 ?_
  refine zr_istore_n (q := 128) (lv' := [(2, .int y19), (0, .ref (E.2.1 31)), (1, .int x1), (3, .int x3)]) g dX9_nights_127 rfl rfl (by decide) rfl ?_
  obtain ⟨y21, e22, hM⟩ := zw_nm_ex hM
  refine zr_iinc (q := 131) (v := y21) (lv' := [(3, .int y21), (2, .int y19), (0, .ref (E.2.1 31)), (1, .int x1)]) g 3 dX9_nights_128 rfl rfl (by rw [e22]; rfl) (by decide) rfl ?_
  refine zr_goto (tgt := 28) g dX9_nights_131 rfl ?_
  refine zr_lv (lv' := [(0, .ref (E.2.1 31)), (1, .int x1), (2, .int y19), (3, .int y21)]) [2, 3, 1, 0] rfl ?_
  exact eL28 _ _ hM
noncomputable def B_X9_nights_28 (k28 : (Int32 × Int32 × Int32 × zw_Hp) → Option (Int32 × zw_Hp)) (x1 : Int32) (x2 : Int32) (x3 : Int32) (h : zw_Hp) : Option (Int32 × zw_Hp) :=
  if x1 ≤ x3 then (some (x2, h)) else (zw_nm (zw_upL h 31 (((h.2 31) * (6364136223846793005 : Int64)) + (1442695040888963407 : Int64))) (fun h9 => zw_nm ((((((h9.2 31)).toUInt64 >>> (((33 : Int32)).toInt64.toUInt64 &&& Int64.toUInt64 63)).toInt64) - ((((h9.2 31)).toUInt64 >>> (((33 : Int32)).toInt64.toUInt64 &&& Int64.toUInt64 63)).toInt64) / (24 : Int64) * (24 : Int64))).toInt32 (fun y11 => if (4 : Int32) ≤ y11 then (if (8 : Int32) ≤ y11 then (if (12 : Int32) ≤ y11 then (B_X9_nights_114 k28 x1 x2 x3 (0 : Int32) h9) else (B_X9_nights_114 k28 x1 x2 x3 ((192 : Int32) + y11) h9)) else (B_X9_nights_114 k28 x1 x2 x3 ((296 : Int32) + y11) h9)) else (B_X9_nights_114 k28 x1 x2 x3 ((101 : Int32) + ((11 : Int32) * y11)) h9))))
set_option maxRecDepth 100000 in
set_option maxHeartbeats 4000000 in
theorem U_X9_nights_28 (ok : zw_Ok E) (hI : ∀ i, i < 48 → i ∈ E.2.2.1) (g : zw_G p E (zw_A E) s m args c RX9 cX9_nights 5) (hr : meth.sig.returnType = some .int) (hlk : meth.locks = false) {k28 : (Int32 × Int32 × Int32 × zw_Hp) → Option (Int32 × zw_Hp)} (eL28 : ∀ (w : Int32 × Int32 × Int32 × zw_Hp) (z : Int32 × zw_Hp), k28 w = some z → zw_V p l e s m args below meth c E mt_X9_nights 5 (some (.int z.1)) z.2 28 [(0, .ref (E.2.1 31)), (1, .int w.1), (2, .int w.2.1), (3, .int w.2.2.1)] [] w.2.2.2) :
    ∀ (x1 : Int32) (x2 : Int32) (x3 : Int32) (h : zw_Hp) (z : Int32 × zw_Hp), B_X9_nights_28 k28 x1 x2 x3 h = some z → zw_V p l e s m args below meth c E mt_X9_nights 5 (some (.int z.1)) z.2 28 [(0, .ref (E.2.1 31)), (1, .int x1), (2, .int x2), (3, .int x3)] [] h := by
  intro x1 x2 x3 h z hM
  unfold B_X9_nights_28 at hM
  refine zr_iload_n (q := 29) g 3 dX9_nights_28 rfl rfl rfl ?_
  refine zr_iload_n (q := 30) g 1 dX9_nights_29 rfl rfl rfl ?_
  refine zr_icmp_ge (q := 33) (tgt := 134) g dX9_nights_30 rfl rfl (fun c8 => ?_) (fun c8 => ?_)
  · replace hM := zw_ift c8 hM
    refine zr_iload_n (q := 135) g 2 dX9_nights_134 rfl rfl rfl ?_
    cases hM
    exact zr_iret g hr hlk dX9_nights_135 rfl rfl
  · replace hM := zw_iff c8 hM
    refine zr_aload_n (q := 34) g 0 dX9_nights_33 rfl rfl rfl ?_
    refine zr_aload_n (q := 35) g 0 dX9_nights_34 rfl rfl rfl ?_
    refine zr_getl (q := 38) (k0 := 28) g (hI 31 (by decide)) zs_31 rfl zf_X9_281 dX9_nights_35 rfl ?_
    refine zr_ldc2 (q := 41) (v := (6364136223846793005 : Int64)) g dX9_nights_38 rfl zk_X9_287 ?_
    refine zr_lmul (q := 42) g dX9_nights_41 rfl ?_
    refine zr_ldc2 (q := 45) (v := (1442695040888963407 : Int64)) g dX9_nights_42 rfl zk_X9_289 ?_
    refine zr_ladd (q := 46) g dX9_nights_45 rfl ?_
    obtain ⟨h9, e10, hM⟩ := zw_nm_ex hM
    refine zr_putl (q := 49) (k0 := 28) (h' := h9) g (hI 31 (by decide)) zs_31 rfl (by intro j hj; rcases j with _ | _ | _ | _ | _ | _ | _ | _ | _ | _ | _ | _ | _ | _ | _ | _ | _ | _ | _ | _ | _ | _ | _ | _ | _ | _ | _ | _ | _ | _ | _ | _ | _ | _ | _ | _ | _ | _ | j <;> first | rfl | simp at hj) zp_X9_281 dX9_nights_46 rfl e10 ?_
    refine zr_aload_n (q := 50) g 0 dX9_nights_49 rfl rfl rfl ?_
    refine zr_getl (q := 53) (k0 := 28) g (hI 31 (by decide)) zs_31 rfl zf_X9_281 dX9_nights_50 rfl ?_
    refine zr_bipush (q := 55) (v := (33 : Int32)) g dX9_nights_53 rfl (by decide) ?_
    refine zr_lushr (q := 56) g dX9_nights_55 rfl ?_
    refine zr_ldc2 (q := 59) (v := (24 : Int64)) g dX9_nights_56 rfl zk_X9_291 ?_
    refine zr_lrem (q := 60) g dX9_nights_59 rfl (by decide) ?_
    refine zr_l2i (q := 61) g dX9_nights_60 rfl ?_
    obtain ⟨y11, e12, hM⟩ := zw_nm_ex hM
    refine zr_nmi e12 ?_
    refine zr_istore (q := 63) (lv' := [(4, .int y11), (0, .ref (E.2.1 31)), (1, .int x1), (2, .int x2), (3, .int x3)]) g dX9_nights_61 rfl (by decide) rfl ?_
    refine zr_aload_n (q := 64) g 1 dX9_nights_63 rfl rfl rfl ?_
    refine zr_iload (q := 66) g 0 dX9_nights_64 rfl rfl ?_
    refine zr_iconst (q := 67) (v := (4 : Int32)) g dX9_nights_66 rfl (by decide) ?_
    refine zr_icmp_ge (q := 70) (tgt := 81) g dX9_nights_67 rfl rfl (fun c13 => ?_) (fun c13 => ?_)
    · replace hM := zw_ift c13 hM
      refine zr_iload (q := 83) g 0 dX9_nights_81 rfl rfl ?_
      refine zr_bipush (q := 85) (v := (8 : Int32)) g dX9_nights_83 rfl (by decide) ?_
      refine zr_icmp_ge (q := 88) (tgt := 97) g dX9_nights_85 rfl rfl (fun c14 => ?_) (fun c14 => ?_)
      · replace hM := zw_ift c14 hM
        refine zr_iload (q := 99) g 0 dX9_nights_97 rfl rfl ?_
        refine zr_bipush (q := 101) (v := (12 : Int32)) g dX9_nights_99 rfl (by decide) ?_
        refine zr_icmp_ge (q := 104) (tgt := 113) g dX9_nights_101 rfl rfl (fun c15 => ?_) (fun c15 => ?_)
        · replace hM := zw_ift c15 hM
          refine zr_iconst (q := 114) (v := (0 : Int32)) g dX9_nights_113 rfl (by decide) ?_
          refine zr_lv (lv' := [(0, .ref (E.2.1 31)), (1, .int x1), (2, .int x2), (3, .int x3)]) [1, 2, 3, 4] rfl ?_
          exact U_X9_nights_114 ok hI g hr hlk eL28 _ _ _ _ _ _ hM
        · replace hM := zw_iff c15 hM
          refine zr_sipush (q := 107) (v := (192 : Int32)) g dX9_nights_104 rfl (by decide) ?_
          refine zr_iload (q := 109) g 0 dX9_nights_107 rfl rfl ?_
          refine zr_iadd (q := 110) g dX9_nights_109 rfl ?_
          refine zr_goto (tgt := 114) g dX9_nights_110 rfl ?_
          refine zr_lv (lv' := [(0, .ref (E.2.1 31)), (1, .int x1), (2, .int x2), (3, .int x3)]) [1, 2, 3, 4] rfl ?_
          exact U_X9_nights_114 ok hI g hr hlk eL28 _ _ _ _ _ _ hM
      · replace hM := zw_iff c14 hM
        refine zr_sipush (q := 91) (v := (296 : Int32)) g dX9_nights_88 rfl (by decide) ?_
        refine zr_iload (q := 93) g 0 dX9_nights_91 rfl rfl ?_
        refine zr_iadd (q := 94) g dX9_nights_93 rfl ?_
        refine zr_goto (tgt := 114) g dX9_nights_94 rfl ?_
        refine zr_lv (lv' := [(0, .ref (E.2.1 31)), (1, .int x1), (2, .int x2), (3, .int x3)]) [1, 2, 3, 4] rfl ?_
        exact U_X9_nights_114 ok hI g hr hlk eL28 _ _ _ _ _ _ hM
    · replace hM := zw_iff c13 hM
      refine zr_bipush (q := 72) (v := (101 : Int32)) g dX9_nights_70 rfl (by decide) ?_
      refine zr_bipush (q := 74) (v := (11 : Int32)) g dX9_nights_72 rfl (by decide) ?_
      refine zr_iload (q := 76) g 0 dX9_nights_74 rfl rfl ?_
      refine zr_imul (q := 77) g dX9_nights_76 rfl ?_
      refine zr_iadd (q := 78) g dX9_nights_77 rfl ?_
      refine zr_goto (tgt := 114) g dX9_nights_78 rfl ?_
      refine zr_lv (lv' := [(0, .ref (E.2.1 31)), (1, .int x1), (2, .int x2), (3, .int x3)]) [1, 2, 3, 4] rfl ?_
      exact U_X9_nights_114 ok hI g hr hlk eL28 _ _ _ _ _ _ hM
noncomputable def L_X9_nights_28 (w : Int32 × Int32 × Int32 × zw_Hp) : Option (Int32 × zw_Hp) :=
  zw_it (fun (k28 : (Int32 × Int32 × Int32 × zw_Hp) → Option (Int32 × zw_Hp)) (w : Int32 × Int32 × Int32 × zw_Hp) => B_X9_nights_28 k28 (w.1) (w.2.1) (w.2.2.1) (w.2.2.2)) 600 w
theorem UL_X9_nights_28 (ok : zw_Ok E) (hI : ∀ i, i < 48 → i ∈ E.2.2.1) (g : zw_G p E (zw_A E) s m args c RX9 cX9_nights 5) (hr : meth.sig.returnType = some .int) (hlk : meth.locks = false) :
    ∀ (w : Int32 × Int32 × Int32 × zw_Hp) (z : Int32 × zw_Hp), L_X9_nights_28 w = some z → zw_V p l e s m args below meth c E mt_X9_nights 5 (some (.int z.1)) z.2 28 [(0, .ref (E.2.1 31)), (1, .int w.1), (2, .int w.2.1), (3, .int w.2.2.1)] [] w.2.2.2 :=
  fun w z hM => zw_it_ind (P := fun (w : Int32 × Int32 × Int32 × zw_Hp) (z : Int32 × zw_Hp) => zw_V p l e s m args below meth c E mt_X9_nights 5 (some (.int z.1)) z.2 28 [(0, .ref (E.2.1 31)), (1, .int w.1), (2, .int w.2.1), (3, .int w.2.2.1)] [] w.2.2.2) (fun k e w z hM => U_X9_nights_28 ok hI g hr hlk e _ _ _ _ _ hM) 600 w z hM
noncomputable def M_X9_nights (x1 : Int32) (h : zw_Hp) : Option (Int32 × zw_Hp) :=
  zw_nm (zw_up h 31 0 (0 : Int32)) (fun h1 => (M_X9_in (x1).toInt64 (1 : Int64) (30 : Int64) h1).bind (fun z3 => if z3 = 0 then (some ((-2 : Int32), h1)) else ((M_X9_begin h1).bind (fun z6 => L_X9_nights_28 (x1, (0 : Int32), (0 : Int32), z6)))))
set_option maxRecDepth 100000 in
set_option maxHeartbeats 4000000 in
theorem R_X9_nights (ok : zw_Ok E) (hI : ∀ i, i < 48 → i ∈ E.2.2.1) {x1 : Int32} {h : zw_Hp} {z : Int32 × zw_Hp} (hM : M_X9_nights x1 h = some z) : zw_Ct l E mt_X9_nights [.ref (E.2.1 31), .int x1] h (some (.int z.1)) z.2 := by
  unfold M_X9_nights at hM
  refine zw_ct (lv0 := [(0, .ref (E.2.1 31)), (1, .int x1)]) ok (by decide) rfl (Nat.le_of_ble_eq_true rfl) (fun p e s m args below meth c g hr hlk => ?_)
  replace g : zw_G p E (zw_A E) s m args c RX9 cX9_nights 5 := g
  show zw_V p l e s m args below meth c E mt_X9_nights 5 (some (.int z.1)) z.2 0 [(0, .ref (E.2.1 31)), (1, .int x1)] [] h
  refine zr_aload_n (q := 1) g 0 dX9_nights_0 rfl rfl rfl ?_
  refine zr_iconst (q := 2) (v := (0 : Int32)) g dX9_nights_1 rfl (by decide) ?_
  obtain ⟨h1, e2, hM⟩ := zw_nm_ex hM
  refine zr_puti (q := 5) (k0 := 0) (h' := h1) g (hI 31 (by decide)) zs_31 rfl zp_X9_59 dX9_nights_2 rfl e2 ?_
  refine zr_iload_n (q := 6) g 1 dX9_nights_5 rfl rfl rfl ?_
  refine zr_i2l (q := 7) g dX9_nights_6 rfl ?_
  refine zr_lconst (q := 8) (v := (1 : Int64)) g dX9_nights_7 rfl (by decide) ?_
  refine zr_ldc2 (q := 11) (v := (30 : Int64)) g dX9_nights_8 rfl zk_X9_285 ?_
  obtain ⟨z3, q4, hM⟩ := zw_bd hM
  refine zr_callS (q := 14) (As := [.long (x1).toInt64, .long (1 : Int64), .long (30 : Int64)]) (rest := []) (st' := [.int z3]) g (R_X9_in ok hI q4) zv_X9_in zl_X9_66 dX9_nights_11 rfl rfl ⟨Nat.le_of_ble_eq_true rfl, Nat.le_of_ble_eq_true rfl⟩ ⟨Nat.zero_le _, Nat.zero_le _⟩ (Nat.le_of_ble_eq_true rfl) rfl rfl ?_
  refine zr_if_ne (q := 17) (tgt := 20) g dX9_nights_14 rfl rfl (fun c5 => ?_) (fun c5 => ?_)
  · replace hM := zw_iff c5 hM
    refine zr_aload_n (q := 21) g 0 dX9_nights_20 rfl rfl rfl ?_
    obtain ⟨z6, q7, hM⟩ := zw_bd hM
    refine zr_callV (q := 24) (As := []) (rest := []) (st' := []) (i := 31) g (R_X9_begin ok hI q7) zv_X9_begin zl_X9_202 (hI 31 (by decide)) zs_31 zc_X9.1 dX9_nights_21 rfl rfl ⟨Nat.le_of_ble_eq_true rfl, Nat.le_of_ble_eq_true rfl⟩ ⟨Nat.zero_le _, Nat.zero_le _⟩ (Nat.le_of_ble_eq_true rfl) rfl rfl ?_
    refine zr_iconst (q := 25) (v := (0 : Int32)) g dX9_nights_24 rfl (by decide) ?_
    refine zr_istore_n (q := 26) (lv' := [(2, .int (0 : Int32)), (0, .ref (E.2.1 31)), (1, .int x1)]) g dX9_nights_25 rfl rfl (by decide) rfl ?_
    refine zr_iconst (q := 27) (v := (0 : Int32)) g dX9_nights_26 rfl (by decide) ?_
    refine zr_istore_n (q := 28) (lv' := [(3, .int (0 : Int32)), (2, .int (0 : Int32)), (0, .ref (E.2.1 31)), (1, .int x1)]) g dX9_nights_27 rfl rfl (by decide) rfl ?_
    refine zr_lv (lv' := [(0, .ref (E.2.1 31)), (1, .int x1), (2, .int (0 : Int32)), (3, .int (0 : Int32))]) [2, 3, 1, 0] rfl ?_
    exact UL_X9_nights_28 ok hI g hr hlk _ _ hM
  · replace hM := zw_ift c5 hM
    refine zr_bipush (q := 19) (v := (-2 : Int32)) g dX9_nights_17 rfl (by decide) ?_
    cases hM
    exact zr_iret g hr hlk dX9_nights_19 rfl rfl
noncomputable def B_X9_keep_26 (k26 : (Int32 × Int32 × zw_Hp) → Option (Int32 × zw_Hp)) (x1 : Int32) (x2 : Int32) (h : zw_Hp) : Option (Int32 × zw_Hp) :=
  if (21 : Int32) ≤ x2 then (if zw_ok (20 : Int32) 21 = true then (some ((h.1 37 ((20 : Int32)).toNatClampNeg), h)) else none) else (if zw_ok x2 21 = true then (if zw_ok (((21 : Int32) * x1) + x2) 42 = true then zw_nm (zw_up h 40 ((((21 : Int32) * x1) + x2)).toNatClampNeg (h.1 37 (x2).toNatClampNeg)) (fun h13 => zw_nm (x2 + (1 : Int32)) (fun y15 => k26 (x1, y15, h13))) else none) else none)
set_option maxRecDepth 100000 in
set_option maxHeartbeats 4000000 in
theorem U_X9_keep_26 (ok : zw_Ok E) (hI : ∀ i, i < 48 → i ∈ E.2.2.1) (g : zw_G p E (zw_A E) s m args c RX9 cX9_keep 3) (hr : meth.sig.returnType = some .int) (hlk : meth.locks = false) {k26 : (Int32 × Int32 × zw_Hp) → Option (Int32 × zw_Hp)} (eL26 : ∀ (w : Int32 × Int32 × zw_Hp) (z : Int32 × zw_Hp), k26 w = some z → zw_V p l e s m args below meth c E mt_X9_keep 3 (some (.int z.1)) z.2 26 [(0, .ref (E.2.1 31)), (1, .int w.1), (2, .int w.2.1)] [] w.2.2) :
    ∀ (x1 : Int32) (x2 : Int32) (h : zw_Hp) (z : Int32 × zw_Hp), B_X9_keep_26 k26 x1 x2 h = some z → zw_V p l e s m args below meth c E mt_X9_keep 3 (some (.int z.1)) z.2 26 [(0, .ref (E.2.1 31)), (1, .int x1), (2, .int x2)] [] h := by
  intro x1 x2 h z hM
  unfold B_X9_keep_26 at hM
  refine zr_iload_n (q := 27) g 2 dX9_keep_26 rfl rfl rfl ?_
  refine zr_bipush (q := 29) (v := (21 : Int32)) g dX9_keep_27 rfl (by decide) ?_
  refine zr_icmp_ge (q := 32) (tgt := 55) g dX9_keep_29 rfl rfl (fun c9 => ?_) (fun c9 => ?_)
  · replace hM := zw_ift c9 hM
    refine zr_aload_n (q := 56) g 0 dX9_keep_55 rfl rfl rfl ?_
    refine zr_getr (q := 59) (k0 := 18) (j := 37) g (hI 31 (by decide)) zs_31 rfl zf_X9_25 dX9_keep_56 rfl ?_
    refine zr_bipush (q := 61) (v := (20 : Int32)) g dX9_keep_59 rfl (by decide) ?_
    obtain ⟨c10, hM⟩ := zw_gd hM
    refine zr_iald (q := 62) g (hI 37 (by decide)) zs_37 c10 dX9_keep_61 rfl ?_
    cases hM
    exact zr_iret g hr hlk dX9_keep_62 rfl rfl
  · replace hM := zw_iff c9 hM
    refine zr_aload_n (q := 33) g 0 dX9_keep_32 rfl rfl rfl ?_
    refine zr_getr (q := 36) (k0 := 22) (j := 40) g (hI 31 (by decide)) zs_31 rfl zf_X9_34 dX9_keep_33 rfl ?_
    refine zr_bipush (q := 38) (v := (21 : Int32)) g dX9_keep_36 rfl (by decide) ?_
    refine zr_iload_n (q := 39) g 1 dX9_keep_38 rfl rfl rfl ?_
    refine zr_imul (q := 40) g dX9_keep_39 rfl ?_
    refine zr_iload_n (q := 41) g 2 dX9_keep_40 rfl rfl rfl ?_
    refine zr_iadd (q := 42) g dX9_keep_41 rfl ?_
    refine zr_aload_n (q := 43) g 0 dX9_keep_42 rfl rfl rfl ?_
    refine zr_getr (q := 46) (k0 := 18) (j := 37) g (hI 31 (by decide)) zs_31 rfl zf_X9_25 dX9_keep_43 rfl ?_
    refine zr_iload_n (q := 47) g 2 dX9_keep_46 rfl rfl rfl ?_
    obtain ⟨c11, hM⟩ := zw_gd hM
    refine zr_iald (q := 48) g (hI 37 (by decide)) zs_37 c11 dX9_keep_47 rfl ?_
    obtain ⟨c12, hM⟩ := zw_gd hM
    obtain ⟨h13, e14, hM⟩ := zw_nm_ex hM
    refine zr_iast (q := 49) (h' := h13) g (hI 40 (by decide)) zs_40 c12 dX9_keep_48 rfl e14 ?_
    obtain ⟨y15, e16, hM⟩ := zw_nm_ex hM
    refine zr_iinc (q := 52) (v := y15) (lv' := [(2, .int y15), (0, .ref (E.2.1 31)), (1, .int x1)]) g 2 dX9_keep_49 rfl rfl (by rw [e16]; rfl) (by decide) rfl ?_
    refine zr_goto (tgt := 26) g dX9_keep_52 rfl ?_
    refine zr_lv (lv' := [(0, .ref (E.2.1 31)), (1, .int x1), (2, .int y15)]) [1, 2, 0] rfl ?_
    exact eL26 _ _ hM
noncomputable def L_X9_keep_26 (w : Int32 × Int32 × zw_Hp) : Option (Int32 × zw_Hp) :=
  zw_it (fun (k26 : (Int32 × Int32 × zw_Hp) → Option (Int32 × zw_Hp)) (w : Int32 × Int32 × zw_Hp) => B_X9_keep_26 k26 (w.1) (w.2.1) (w.2.2)) 600 w
theorem UL_X9_keep_26 (ok : zw_Ok E) (hI : ∀ i, i < 48 → i ∈ E.2.2.1) (g : zw_G p E (zw_A E) s m args c RX9 cX9_keep 3) (hr : meth.sig.returnType = some .int) (hlk : meth.locks = false) :
    ∀ (w : Int32 × Int32 × zw_Hp) (z : Int32 × zw_Hp), L_X9_keep_26 w = some z → zw_V p l e s m args below meth c E mt_X9_keep 3 (some (.int z.1)) z.2 26 [(0, .ref (E.2.1 31)), (1, .int w.1), (2, .int w.2.1)] [] w.2.2 :=
  fun w z hM => zw_it_ind (P := fun (w : Int32 × Int32 × zw_Hp) (z : Int32 × zw_Hp) => zw_V p l e s m args below meth c E mt_X9_keep 3 (some (.int z.1)) z.2 26 [(0, .ref (E.2.1 31)), (1, .int w.1), (2, .int w.2.1)] [] w.2.2) (fun k e w z hM => U_X9_keep_26 ok hI g hr hlk e _ _ _ _ hM) 600 w z hM
noncomputable def M_X9_keep (x1 : Int32) (h : zw_Hp) : Option (Int32 × zw_Hp) :=
  zw_nm (zw_up h 31 0 (0 : Int32)) (fun h1 => (M_X9_in (x1).toInt64 (0 : Int64) (1 : Int64) h1).bind (fun z3 => if z3 = 0 then (some ((-1 : Int32), h1)) else (if zw_ok x1 2 = true then zw_nm (zw_up h1 41 (x1).toNatClampNeg (1 : Int32)) (fun h7 => L_X9_keep_26 (x1, (0 : Int32), h7)) else none)))
set_option maxRecDepth 100000 in
set_option maxHeartbeats 4000000 in
theorem R_X9_keep (ok : zw_Ok E) (hI : ∀ i, i < 48 → i ∈ E.2.2.1) {x1 : Int32} {h : zw_Hp} {z : Int32 × zw_Hp} (hM : M_X9_keep x1 h = some z) : zw_Ct l E mt_X9_keep [.ref (E.2.1 31), .int x1] h (some (.int z.1)) z.2 := by
  unfold M_X9_keep at hM
  refine zw_ct (lv0 := [(0, .ref (E.2.1 31)), (1, .int x1)]) ok (by decide) rfl (Nat.le_of_ble_eq_true rfl) (fun p e s m args below meth c g hr hlk => ?_)
  replace g : zw_G p E (zw_A E) s m args c RX9 cX9_keep 3 := g
  show zw_V p l e s m args below meth c E mt_X9_keep 3 (some (.int z.1)) z.2 0 [(0, .ref (E.2.1 31)), (1, .int x1)] [] h
  refine zr_aload_n (q := 1) g 0 dX9_keep_0 rfl rfl rfl ?_
  refine zr_iconst (q := 2) (v := (0 : Int32)) g dX9_keep_1 rfl (by decide) ?_
  obtain ⟨h1, e2, hM⟩ := zw_nm_ex hM
  refine zr_puti (q := 5) (k0 := 0) (h' := h1) g (hI 31 (by decide)) zs_31 rfl zp_X9_59 dX9_keep_2 rfl e2 ?_
  refine zr_iload_n (q := 6) g 1 dX9_keep_5 rfl rfl rfl ?_
  refine zr_i2l (q := 7) g dX9_keep_6 rfl ?_
  refine zr_lconst (q := 8) (v := (0 : Int64)) g dX9_keep_7 rfl (by decide) ?_
  refine zr_lconst (q := 9) (v := (1 : Int64)) g dX9_keep_8 rfl (by decide) ?_
  obtain ⟨z3, q4, hM⟩ := zw_bd hM
  refine zr_callS (q := 12) (As := [.long (x1).toInt64, .long (0 : Int64), .long (1 : Int64)]) (rest := []) (st' := [.int z3]) g (R_X9_in ok hI q4) zv_X9_in zl_X9_66 dX9_keep_9 rfl rfl ⟨Nat.le_of_ble_eq_true rfl, Nat.le_of_ble_eq_true rfl⟩ ⟨Nat.zero_le _, Nat.zero_le _⟩ (Nat.le_of_ble_eq_true rfl) rfl rfl ?_
  refine zr_if_ne (q := 15) (tgt := 17) g dX9_keep_12 rfl rfl (fun c5 => ?_) (fun c5 => ?_)
  · replace hM := zw_iff c5 hM
    refine zr_aload_n (q := 18) g 0 dX9_keep_17 rfl rfl rfl ?_
    refine zr_getr (q := 21) (k0 := 23) (j := 41) g (hI 31 (by decide)) zs_31 rfl zf_X9_37 dX9_keep_18 rfl ?_
    refine zr_iload_n (q := 22) g 1 dX9_keep_21 rfl rfl rfl ?_
    refine zr_iconst (q := 23) (v := (1 : Int32)) g dX9_keep_22 rfl (by decide) ?_
    obtain ⟨c6, hM⟩ := zw_gd hM
    obtain ⟨h7, e8, hM⟩ := zw_nm_ex hM
    refine zr_zast (q := 24) (h' := h7) g (hI 41 (by decide)) zs_41 c6 (by decide) dX9_keep_23 rfl e8 ?_
    refine zr_iconst (q := 25) (v := (0 : Int32)) g dX9_keep_24 rfl (by decide) ?_
    refine zr_istore_n (q := 26) (lv' := [(2, .int (0 : Int32)), (0, .ref (E.2.1 31)), (1, .int x1)]) g dX9_keep_25 rfl rfl (by decide) rfl ?_
    refine zr_lv (lv' := [(0, .ref (E.2.1 31)), (1, .int x1), (2, .int (0 : Int32))]) [1, 2, 0] rfl ?_
    exact UL_X9_keep_26 ok hI g hr hlk _ _ hM
  · replace hM := zw_ift c5 hM
    refine zr_iconst (q := 16) (v := (-1 : Int32)) g dX9_keep_15 rfl (by decide) ?_
    cases hM
    exact zr_iret g hr hlk dX9_keep_16 rfl rfl
noncomputable def B_X9_again_31 (k31 : (Int32 × Int32 × zw_Hp) → Option (Int32 × zw_Hp)) (x1 : Int32) (x2 : Int32) (h : zw_Hp) : Option (Int32 × zw_Hp) :=
  if (21 : Int32) ≤ x2 then (zw_nm (zw_up h 31 21 (0 : Int32)) (fun h9 => if zw_ok (20 : Int32) 21 = true then (some ((h9.1 37 ((20 : Int32)).toNatClampNeg), h9)) else none)) else (if zw_ok (((21 : Int32) * x1) + x2) 42 = true then (if zw_ok x2 21 = true then zw_nm (zw_up h 37 (x2).toNatClampNeg (h.1 40 ((((21 : Int32) * x1) + x2)).toNatClampNeg)) (fun h14 => zw_nm (x2 + (1 : Int32)) (fun y16 => k31 (x1, y16, h14))) else none) else none)
set_option maxRecDepth 100000 in
set_option maxHeartbeats 4000000 in
theorem U_X9_again_31 (ok : zw_Ok E) (hI : ∀ i, i < 48 → i ∈ E.2.2.1) (g : zw_G p E (zw_A E) s m args c RX9 cX9_again 3) (hr : meth.sig.returnType = some .int) (hlk : meth.locks = false) {k31 : (Int32 × Int32 × zw_Hp) → Option (Int32 × zw_Hp)} (eL31 : ∀ (w : Int32 × Int32 × zw_Hp) (z : Int32 × zw_Hp), k31 w = some z → zw_V p l e s m args below meth c E mt_X9_again 3 (some (.int z.1)) z.2 31 [(0, .ref (E.2.1 31)), (1, .int w.1), (2, .int w.2.1)] [] w.2.2) :
    ∀ (x1 : Int32) (x2 : Int32) (h : zw_Hp) (z : Int32 × zw_Hp), B_X9_again_31 k31 x1 x2 h = some z → zw_V p l e s m args below meth c E mt_X9_again 3 (some (.int z.1)) z.2 31 [(0, .ref (E.2.1 31)), (1, .int x1), (2, .int x2)] [] h := by
  intro x1 x2 h z hM
  unfold B_X9_again_31 at hM
  refine zr_iload_n (q := 32) g 2 dX9_again_31 rfl rfl rfl ?_
  refine zr_bipush (q := 34) (v := (21 : Int32)) g dX9_again_32 rfl (by decide) ?_
  refine zr_icmp_ge (q := 37) (tgt := 60) g dX9_again_34 rfl rfl (fun c8 => ?_) (fun c8 => ?_)
  · replace hM := zw_ift c8 hM
    refine zr_aload_n (q := 61) g 0 dX9_again_60 rfl rfl rfl ?_
    refine zr_iconst (q := 62) (v := (0 : Int32)) g dX9_again_61 rfl (by decide) ?_
    obtain ⟨h9, e10, hM⟩ := zw_nm_ex hM
    refine zr_puti (q := 65) (k0 := 21) (h' := h9) g (hI 31 (by decide)) zs_31 rfl zp_X9_126 dX9_again_62 rfl e10 ?_
    refine zr_aload_n (q := 66) g 0 dX9_again_65 rfl rfl rfl ?_
    refine zr_getr (q := 69) (k0 := 18) (j := 37) g (hI 31 (by decide)) zs_31 rfl zf_X9_25 dX9_again_66 rfl ?_
    refine zr_bipush (q := 71) (v := (20 : Int32)) g dX9_again_69 rfl (by decide) ?_
    obtain ⟨c11, hM⟩ := zw_gd hM
    refine zr_iald (q := 72) g (hI 37 (by decide)) zs_37 c11 dX9_again_71 rfl ?_
    cases hM
    exact zr_iret g hr hlk dX9_again_72 rfl rfl
  · replace hM := zw_iff c8 hM
    refine zr_aload_n (q := 38) g 0 dX9_again_37 rfl rfl rfl ?_
    refine zr_getr (q := 41) (k0 := 18) (j := 37) g (hI 31 (by decide)) zs_31 rfl zf_X9_25 dX9_again_38 rfl ?_
    refine zr_iload_n (q := 42) g 2 dX9_again_41 rfl rfl rfl ?_
    refine zr_aload_n (q := 43) g 0 dX9_again_42 rfl rfl rfl ?_
    refine zr_getr (q := 46) (k0 := 22) (j := 40) g (hI 31 (by decide)) zs_31 rfl zf_X9_34 dX9_again_43 rfl ?_
    refine zr_bipush (q := 48) (v := (21 : Int32)) g dX9_again_46 rfl (by decide) ?_
    refine zr_iload_n (q := 49) g 1 dX9_again_48 rfl rfl rfl ?_
    refine zr_imul (q := 50) g dX9_again_49 rfl ?_
    refine zr_iload_n (q := 51) g 2 dX9_again_50 rfl rfl rfl ?_
    refine zr_iadd (q := 52) g dX9_again_51 rfl ?_
    obtain ⟨c12, hM⟩ := zw_gd hM
    refine zr_iald (q := 53) g (hI 40 (by decide)) zs_40 c12 dX9_again_52 rfl ?_
    obtain ⟨c13, hM⟩ := zw_gd hM
    obtain ⟨h14, e15, hM⟩ := zw_nm_ex hM
    refine zr_iast (q := 54) (h' := h14) g (hI 37 (by decide)) zs_37 c13 dX9_again_53 rfl e15 ?_
    obtain ⟨y16, e17, hM⟩ := zw_nm_ex hM
    refine zr_iinc (q := 57) (v := y16) (lv' := [(2, .int y16), (0, .ref (E.2.1 31)), (1, .int x1)]) g 2 dX9_again_54 rfl rfl (by rw [e17]; rfl) (by decide) rfl ?_
    refine zr_goto (tgt := 31) g dX9_again_57 rfl ?_
    refine zr_lv (lv' := [(0, .ref (E.2.1 31)), (1, .int x1), (2, .int y16)]) [1, 2, 0] rfl ?_
    exact eL31 _ _ hM
noncomputable def L_X9_again_31 (w : Int32 × Int32 × zw_Hp) : Option (Int32 × zw_Hp) :=
  zw_it (fun (k31 : (Int32 × Int32 × zw_Hp) → Option (Int32 × zw_Hp)) (w : Int32 × Int32 × zw_Hp) => B_X9_again_31 k31 (w.1) (w.2.1) (w.2.2)) 600 w
theorem UL_X9_again_31 (ok : zw_Ok E) (hI : ∀ i, i < 48 → i ∈ E.2.2.1) (g : zw_G p E (zw_A E) s m args c RX9 cX9_again 3) (hr : meth.sig.returnType = some .int) (hlk : meth.locks = false) :
    ∀ (w : Int32 × Int32 × zw_Hp) (z : Int32 × zw_Hp), L_X9_again_31 w = some z → zw_V p l e s m args below meth c E mt_X9_again 3 (some (.int z.1)) z.2 31 [(0, .ref (E.2.1 31)), (1, .int w.1), (2, .int w.2.1)] [] w.2.2 :=
  fun w z hM => zw_it_ind (P := fun (w : Int32 × Int32 × zw_Hp) (z : Int32 × zw_Hp) => zw_V p l e s m args below meth c E mt_X9_again 3 (some (.int z.1)) z.2 31 [(0, .ref (E.2.1 31)), (1, .int w.1), (2, .int w.2.1)] [] w.2.2) (fun k e w z hM => U_X9_again_31 ok hI g hr hlk e _ _ _ _ hM) 600 w z hM
noncomputable def M_X9_again (x1 : Int32) (h : zw_Hp) : Option (Int32 × zw_Hp) :=
  zw_nm (zw_up h 31 0 (0 : Int32)) (fun h1 => (M_X9_in (x1).toInt64 (0 : Int64) (1 : Int64) h1).bind (fun z3 => if z3 = 0 then (some ((-1 : Int32), h1)) else (if zw_ok x1 2 = true then (if (h1.1 41 (x1).toNatClampNeg) = 0 then (some ((-3 : Int32), h1)) else (L_X9_again_31 (x1, (0 : Int32), h1))) else none)))
set_option maxRecDepth 100000 in
set_option maxHeartbeats 4000000 in
theorem R_X9_again (ok : zw_Ok E) (hI : ∀ i, i < 48 → i ∈ E.2.2.1) {x1 : Int32} {h : zw_Hp} {z : Int32 × zw_Hp} (hM : M_X9_again x1 h = some z) : zw_Ct l E mt_X9_again [.ref (E.2.1 31), .int x1] h (some (.int z.1)) z.2 := by
  unfold M_X9_again at hM
  refine zw_ct (lv0 := [(0, .ref (E.2.1 31)), (1, .int x1)]) ok (by decide) rfl (Nat.le_of_ble_eq_true rfl) (fun p e s m args below meth c g hr hlk => ?_)
  replace g : zw_G p E (zw_A E) s m args c RX9 cX9_again 3 := g
  show zw_V p l e s m args below meth c E mt_X9_again 3 (some (.int z.1)) z.2 0 [(0, .ref (E.2.1 31)), (1, .int x1)] [] h
  refine zr_aload_n (q := 1) g 0 dX9_again_0 rfl rfl rfl ?_
  refine zr_iconst (q := 2) (v := (0 : Int32)) g dX9_again_1 rfl (by decide) ?_
  obtain ⟨h1, e2, hM⟩ := zw_nm_ex hM
  refine zr_puti (q := 5) (k0 := 0) (h' := h1) g (hI 31 (by decide)) zs_31 rfl zp_X9_59 dX9_again_2 rfl e2 ?_
  refine zr_iload_n (q := 6) g 1 dX9_again_5 rfl rfl rfl ?_
  refine zr_i2l (q := 7) g dX9_again_6 rfl ?_
  refine zr_lconst (q := 8) (v := (0 : Int64)) g dX9_again_7 rfl (by decide) ?_
  refine zr_lconst (q := 9) (v := (1 : Int64)) g dX9_again_8 rfl (by decide) ?_
  obtain ⟨z3, q4, hM⟩ := zw_bd hM
  refine zr_callS (q := 12) (As := [.long (x1).toInt64, .long (0 : Int64), .long (1 : Int64)]) (rest := []) (st' := [.int z3]) g (R_X9_in ok hI q4) zv_X9_in zl_X9_66 dX9_again_9 rfl rfl ⟨Nat.le_of_ble_eq_true rfl, Nat.le_of_ble_eq_true rfl⟩ ⟨Nat.zero_le _, Nat.zero_le _⟩ (Nat.le_of_ble_eq_true rfl) rfl rfl ?_
  refine zr_if_ne (q := 15) (tgt := 17) g dX9_again_12 rfl rfl (fun c5 => ?_) (fun c5 => ?_)
  · replace hM := zw_iff c5 hM
    refine zr_aload_n (q := 18) g 0 dX9_again_17 rfl rfl rfl ?_
    refine zr_getr (q := 21) (k0 := 23) (j := 41) g (hI 31 (by decide)) zs_31 rfl zf_X9_37 dX9_again_18 rfl ?_
    refine zr_iload_n (q := 22) g 1 dX9_again_21 rfl rfl rfl ?_
    obtain ⟨c6, hM⟩ := zw_gd hM
    refine zr_zald (q := 23) g (hI 41 (by decide)) zs_41 c6 dX9_again_22 rfl ?_
    refine zr_if_ne (q := 26) (tgt := 29) g dX9_again_23 rfl rfl (fun c7 => ?_) (fun c7 => ?_)
    · replace hM := zw_iff c7 hM
      refine zr_iconst (q := 30) (v := (0 : Int32)) g dX9_again_29 rfl (by decide) ?_
      refine zr_istore_n (q := 31) (lv' := [(2, .int (0 : Int32)), (0, .ref (E.2.1 31)), (1, .int x1)]) g dX9_again_30 rfl rfl (by decide) rfl ?_
      refine zr_lv (lv' := [(0, .ref (E.2.1 31)), (1, .int x1), (2, .int (0 : Int32))]) [1, 2, 0] rfl ?_
      exact UL_X9_again_31 ok hI g hr hlk _ _ hM
    · replace hM := zw_ift c7 hM
      refine zr_bipush (q := 28) (v := (-3 : Int32)) g dX9_again_26 rfl (by decide) ?_
      cases hM
      exact zr_iret g hr hlk dX9_again_28 rfl rfl
  · replace hM := zw_ift c5 hM
    refine zr_iconst (q := 16) (v := (-1 : Int32)) g dX9_again_15 rfl (by decide) ?_
    cases hM
    exact zr_iret g hr hlk dX9_again_16 rfl rfl
end
