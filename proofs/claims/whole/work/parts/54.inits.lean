def zk_h0 : zw_Hp := (fun _ _ => 0, fun _ => 0)
/-- a scene as its constructor leaves it -/
def zk_h1 : zw_Hp := pq_cp 9 (pz_c0 0 0 0) zk_h0
/-- all 48 cells as the two constructors leave them -/
def zk_hF : zw_Hp := (fun i => if 14 ≤ i ∧ i ≤ 18 then zk_h1.1 (i - 5) else if 9 ≤ i ∧ i ≤ 13 then zk_h1.1 i else fun _ => 0, fun _ => 0)
theorem zk_setUp : M_X3_setUp 9 zk_h0 = some zk_h1 := pz_setUp (m := 0) (by omega) (h := zk_h0) rfl
theorem zk_dfX0 : ∀ j, j < 3 → defaultValue (tyX0 j) = vp_V [.null, .int 0, .int 0] j := fun j hj => match j, hj with
  | 0, _ => rfl
  | 1, _ => rfl
  | 2, _ => rfl
  | n + 3, h => absurd h (by omega)
theorem zk_dfX1 : ∀ j, j < 3 → defaultValue (tyX1 j) = vp_V [.null, .null, .null] j := fun j hj => match j, hj with
  | 0, _ => rfl
  | 1, _ => rfl
  | 2, _ => rfl
  | n + 3, h => absurd h (by omega)
theorem zk_dfX2 : ∀ j, j < 9 → defaultValue (tyX2 j) = vp_V [.null, .null, .int 0, .int 0, .int 0, .int 0, .int 0, .int 0, .int 0] j := fun j hj => match j, hj with
  | 0, _ => rfl
  | 1, _ => rfl
  | 2, _ => rfl
  | 3, _ => rfl
  | 4, _ => rfl
  | 5, _ => rfl
  | 6, _ => rfl
  | 7, _ => rfl
  | 8, _ => rfl
  | n + 9, h => absurd h (by omega)
theorem zk_dfX3 : ∀ j, j < 10 → defaultValue (tyX3 j) = vp_V [.null, .null, .null, .null, .null, .int 0, .int 0, .int 0, .int 0, .int 0] j := fun j hj => match j, hj with
  | 0, _ => rfl
  | 1, _ => rfl
  | 2, _ => rfl
  | 3, _ => rfl
  | 4, _ => rfl
  | 5, _ => rfl
  | 6, _ => rfl
  | 7, _ => rfl
  | 8, _ => rfl
  | 9, _ => rfl
  | n + 10, h => absurd h (by omega)
theorem zk_dfX4 : ∀ j, j < 6 → defaultValue (tyX4 j) = vp_V [.null, .null, .null, .null, .int 0, .int 0] j := fun j hj => match j, hj with
  | 0, _ => rfl
  | 1, _ => rfl
  | 2, _ => rfl
  | 3, _ => rfl
  | 4, _ => rfl
  | 5, _ => rfl
  | n + 6, h => absurd h (by omega)
theorem zk_dfX5 : ∀ j, j < 1 → defaultValue (tyX5 j) = vp_V [.null] j := fun j hj => match j, hj with
  | 0, _ => rfl
  | n + 1, h => absurd h (by omega)
theorem zk_dfX6 : ∀ j, j < 4 → defaultValue (tyX6 j) = vp_V [.null, .null, .null, .int 0] j := fun j hj => match j, hj with
  | 0, _ => rfl
  | 1, _ => rfl
  | 2, _ => rfl
  | 3, _ => rfl
  | n + 4, h => absurd h (by omega)
theorem zk_dfX7 : ∀ j, j < 2 → defaultValue (tyX7 j) = vp_V [.null, .int 0] j := fun j hj => match j, hj with
  | 0, _ => rfl
  | 1, _ => rfl
  | n + 2, h => absurd h (by omega)
theorem zk_dfX8 : ∀ j, j < 11 → defaultValue (tyX8 j) = vp_V [.null, .null, .null, .null, .null, .null, .int 0, .null, .null, .null, .long 0] j := fun j hj => match j, hj with
  | 0, _ => rfl
  | 1, _ => rfl
  | 2, _ => rfl
  | 3, _ => rfl
  | 4, _ => rfl
  | 5, _ => rfl
  | 6, _ => rfl
  | 7, _ => rfl
  | 8, _ => rfl
  | 9, _ => rfl
  | 10, _ => rfl
  | n + 11, h => absurd h (by omega)
theorem zk_dfX9 : ∀ j, j < 38 → defaultValue (tyX9 j) = vp_V [.int 0, .null, .int 0, .int 0, .int 0, .int 0, .int 0, .null, .int 0, .null, .int 0, .int 0, .int 0, .int 0, .null, .int 0, .null, .int 0, .null, .null, .null, .int 0, .null, .null, .int 0, .null, .null, .null, .long 0, .int 0, .int 0, .int 0, .int 0, .int 0, .int 0, .null, .null, .null] j := fun j hj => match j, hj with
  | 0, _ => rfl
  | 1, _ => rfl
  | 2, _ => rfl
  | 3, _ => rfl
  | 4, _ => rfl
  | 5, _ => rfl
  | 6, _ => rfl
  | 7, _ => rfl
  | 8, _ => rfl
  | 9, _ => rfl
  | 10, _ => rfl
  | 11, _ => rfl
  | 12, _ => rfl
  | 13, _ => rfl
  | 14, _ => rfl
  | 15, _ => rfl
  | 16, _ => rfl
  | 17, _ => rfl
  | 18, _ => rfl
  | 19, _ => rfl
  | 20, _ => rfl
  | 21, _ => rfl
  | 22, _ => rfl
  | 23, _ => rfl
  | 24, _ => rfl
  | 25, _ => rfl
  | 26, _ => rfl
  | 27, _ => rfl
  | 28, _ => rfl
  | 29, _ => rfl
  | 30, _ => rfl
  | 31, _ => rfl
  | 32, _ => rfl
  | 33, _ => rfl
  | 34, _ => rfl
  | 35, _ => rfl
  | 36, _ => rfl
  | 37, _ => rfl
  | n + 38, h => absurd h (by omega)
theorem zk_ob_X7_3 : Cond.methodLink RX7 3 objectInit ∈ zw_tb := zm 88 (by decide +kernel) rfl
theorem zk_fl_X7_9 : Cond.fieldLink RX7 9 (TX7 0).1 (TX7 0).2.1 (TX7 0).2.2.1 ∈ zw_tb := zm 89 (by decide +kernel) rfl
theorem zk_fl_X7_15 : Cond.fieldLink RX7 15 (TX7 1).1 (TX7 1).2.1 (TX7 1).2.2.1 ∈ zw_tb := zm 91 (by decide +kernel) rfl
def mt_X7_init : zw_Mt := (yX7_init, cX7_init, 1, none, 1, 20)
theorem zv_X7_init : zw_Mi mt_X7_init 0 := ⟨⟨zm 87 (by decide +kernel) rfl, zm 63 (by decide +kernel) rfl, by decide +kernel, by decide +kernel, by decide +kernel⟩, zm 86 (by decide +kernel) rfl, rfl, rfl⟩
set_option maxRecDepth 100000 in
set_option maxHeartbeats 4000000 in
theorem zk_c_X7 (l : Launch) (E : zw_En) (h0 : Nat) : zk_Ct l E mt_X7_init 1 36 [.ref h0] [(h0, .inr (7, [.null, .int 0]))] (fun _ : Nat => True) (fun u : Nat => [(h0, .inr (7, [.ref u, .int 0])), (u, .inl (E.2.2.2.1, 36, .inl (fun _ => 0)))]) := by
  refine zk_ct (lv0 := [(0, .ref h0)]) (by decide) rfl rfl (Nat.le_of_ble_eq_true rfl) (fun p e s m args below meth c A g hr hlk hin => ?_)
  replace g : zk_G p E A s m args c RX7 cX7_init 1 := g
  replace hr : meth.sig.returnType = none := hr
  show zk_W p l e { frames := 1, cells := 1, slots := 36, locals := 20 } s m args below meth c 0 0 _ E A 1 0 [(0, .ref h0)] [] [(h0, .inr (7, [.null, .int 0]))]
  refine zk_aload_n (q := 1) g 0 dX7_init_0 rfl rfl rfl ?_
  refine zk_obj (q := 4) g zk_ob_X7_3 dX7_init_1 rfl ⟨Nat.le_of_ble_eq_true rfl, Nat.le_of_ble_eq_true rfl⟩ (by decide) ?_
  refine zk_aload_n (q := 5) g 0 dX7_init_4 rfl rfl rfl ?_
  refine zk_bipush (q := 7) (v := 36) g dX7_init_5 rfl (by decide) ?_
  refine zk_newi (q := 9) (N := 36) (cells' := 1) (slots' := 36) (W' := fun a7 => [(h0, .inr (7, [.null, .int 0])), (a7, .inl (E.2.2.2.1, 36, .inl (fun _ => 0)))]) g (by decide) (by decide) (by decide) ⟨rfl, rfl⟩ ⟨Nat.le_of_ble_eq_true rfl, Nat.le_of_ble_eq_true rfl⟩ dX7_init_7 rfl (fun _ => rfl) (fun a7 => ?_)
  refine zk_putF (q := 12) (ws' := [(h0, .inr (7, [.ref a7, .int 0])), (a7, .inl (E.2.2.2.1, 36, .inl (fun _ => 0)))]) g hin zc_X7 0 0 rfl (by decide) zk_fl_X7_9 rfl rfl rfl rfl (Nat.le_of_ble_eq_true rfl) dX7_init_9 rfl rfl ?_
  refine zk_aload_n (q := 13) g 0 dX7_init_12 rfl rfl rfl ?_
  refine zk_iconst (q := 14) (v := 0) g dX7_init_13 rfl (by decide) ?_
  refine zk_put (q := 17) (ws' := [(h0, .inr (7, [.ref a7, .int 0])), (a7, .inl (E.2.2.2.1, 36, .inl (fun _ => 0)))]) g zc_X7 0 1 rfl (by decide) zk_fl_X7_15 rfl rfl rfl (Nat.le_of_ble_eq_true rfl) dX7_init_14 rfl rfl ?_
  exact zk_vret g hr hlk a7 trivial [0, 1] rfl rfl (by decide) dX7_init_17
theorem zk_ob_X2_3 : Cond.methodLink RX2 3 objectInit ∈ zw_tb := zm 105 (by decide +kernel) rfl
theorem zk_fl_X2_9 : Cond.fieldLink RX2 9 (TX2 0).1 (TX2 0).2.1 (TX2 0).2.2.1 ∈ zw_tb := zm 106 (by decide +kernel) rfl
theorem zk_fl_X2_15 : Cond.fieldLink RX2 15 (TX2 1).1 (TX2 1).2.1 (TX2 1).2.2.1 ∈ zw_tb := zm 109 (by decide +kernel) rfl
theorem zk_fl_X2_18 : Cond.fieldLink RX2 18 (TX2 2).1 (TX2 2).2.1 (TX2 2).2.2.1 ∈ zw_tb := zm 112 (by decide +kernel) rfl
theorem zk_fl_X2_22 : Cond.fieldLink RX2 22 (TX2 3).1 (TX2 3).2.1 (TX2 3).2.2.1 ∈ zw_tb := zm 116 (by decide +kernel) rfl
theorem zk_fl_X2_25 : Cond.fieldLink RX2 25 (TX2 4).1 (TX2 4).2.1 (TX2 4).2.2.1 ∈ zw_tb := zm 120 (by decide +kernel) rfl
theorem zk_fl_X2_28 : Cond.fieldLink RX2 28 (TX2 5).1 (TX2 5).2.1 (TX2 5).2.2.1 ∈ zw_tb := zm 122 (by decide +kernel) rfl
theorem zk_fl_X2_31 : Cond.fieldLink RX2 31 (TX2 6).1 (TX2 6).2.1 (TX2 6).2.2.1 ∈ zw_tb := zm 124 (by decide +kernel) rfl
theorem zk_fl_X2_34 : Cond.fieldLink RX2 34 (TX2 7).1 (TX2 7).2.1 (TX2 7).2.2.1 ∈ zw_tb := zm 127 (by decide +kernel) rfl
theorem zk_fl_X2_37 : Cond.fieldLink RX2 37 (TX2 8).1 (TX2 8).2.1 (TX2 8).2.2.1 ∈ zw_tb := zm 130 (by decide +kernel) rfl
def mt_X2_init : zw_Mt := (yX2_init, cX2_init, 1, none, 1, 20)
theorem zv_X2_init : zw_Mi mt_X2_init 0 := ⟨⟨zm 104 (by decide +kernel) rfl, zm 64 (by decide +kernel) rfl, by decide +kernel, by decide +kernel, by decide +kernel⟩, zm 103 (by decide +kernel) rfl, rfl, rfl⟩
set_option maxRecDepth 100000 in
set_option maxHeartbeats 4000000 in
theorem zk_c_X2 (l : Launch) (E : zw_En) (h0 : Nat) : zk_Ct l E mt_X2_init 2 9 [.ref h0] [(h0, .inr (2, [.null, .null, .int 0, .int 0, .int 0, .int 0, .int 0, .int 0, .int 0]))] (fun _ : Nat × Nat => True) (fun u : Nat × Nat => [(h0, .inr (2, [.ref u.1, .ref u.2, .int 0, .int 0, .int 0, .int 0, .int 0, .int 0, .int 0])), (u.1, .inl (E.2.2.2.1, 5, .inl (fun _ => 0))), (u.2, .inl (E.2.2.2.1, 4, .inl (fun _ => 0)))]) := by
  refine zk_ct (lv0 := [(0, .ref h0)]) (by decide) rfl rfl (Nat.le_of_ble_eq_true rfl) (fun p e s m args below meth c A g hr hlk hin => ?_)
  replace g : zk_G p E A s m args c RX2 cX2_init 1 := g
  replace hr : meth.sig.returnType = none := hr
  show zk_W p l e { frames := 1, cells := 2, slots := 9, locals := 20 } s m args below meth c 0 0 _ E A 1 0 [(0, .ref h0)] [] [(h0, .inr (2, [.null, .null, .int 0, .int 0, .int 0, .int 0, .int 0, .int 0, .int 0]))]
  refine zk_aload_n (q := 1) g 0 dX2_init_0 rfl rfl rfl ?_
  refine zk_obj (q := 4) g zk_ob_X2_3 dX2_init_1 rfl ⟨Nat.le_of_ble_eq_true rfl, Nat.le_of_ble_eq_true rfl⟩ (by decide) ?_
  refine zk_aload_n (q := 5) g 0 dX2_init_4 rfl rfl rfl ?_
  refine zk_iconst (q := 6) (v := 5) g dX2_init_5 rfl (by decide) ?_
  refine zk_newi (q := 8) (N := 5) (cells' := 1) (slots' := 5) (W' := fun a6 => [(h0, .inr (2, [.null, .null, .int 0, .int 0, .int 0, .int 0, .int 0, .int 0, .int 0])), (a6, .inl (E.2.2.2.1, 5, .inl (fun _ => 0)))]) g (by decide) (by decide) (by decide) ⟨rfl, rfl⟩ ⟨Nat.le_of_ble_eq_true rfl, Nat.le_of_ble_eq_true rfl⟩ dX2_init_6 rfl (fun _ => rfl) (fun a6 => ?_)
  refine zk_putF (q := 11) (ws' := [(h0, .inr (2, [.ref a6, .null, .int 0, .int 0, .int 0, .int 0, .int 0, .int 0, .int 0])), (a6, .inl (E.2.2.2.1, 5, .inl (fun _ => 0)))]) g hin zc_X2 0 0 rfl (by decide) zk_fl_X2_9 rfl rfl rfl rfl (Nat.le_of_ble_eq_true rfl) dX2_init_8 rfl rfl ?_
  refine zk_aload_n (q := 12) g 0 dX2_init_11 rfl rfl rfl ?_
  refine zk_iconst (q := 13) (v := 4) g dX2_init_12 rfl (by decide) ?_
  refine zk_newi (q := 15) (N := 4) (cells' := 2) (slots' := 9) (W' := fun a13 => [(h0, .inr (2, [.ref a6, .null, .int 0, .int 0, .int 0, .int 0, .int 0, .int 0, .int 0])), (a6, .inl (E.2.2.2.1, 5, .inl (fun _ => 0))), (a13, .inl (E.2.2.2.1, 4, .inl (fun _ => 0)))]) g (by decide) (by decide) (by decide) ⟨rfl, rfl⟩ ⟨Nat.le_of_ble_eq_true rfl, Nat.le_of_ble_eq_true rfl⟩ dX2_init_13 rfl (fun _ => rfl) (fun a13 => ?_)
  refine zk_putF (q := 18) (ws' := [(h0, .inr (2, [.ref a6, .ref a13, .int 0, .int 0, .int 0, .int 0, .int 0, .int 0, .int 0])), (a6, .inl (E.2.2.2.1, 5, .inl (fun _ => 0))), (a13, .inl (E.2.2.2.1, 4, .inl (fun _ => 0)))]) g hin zc_X2 0 1 rfl (by decide) zk_fl_X2_15 rfl rfl rfl rfl (Nat.le_of_ble_eq_true rfl) dX2_init_15 rfl rfl ?_
  refine zk_aload_n (q := 19) g 0 dX2_init_18 rfl rfl rfl ?_
  refine zk_iconst (q := 20) (v := 0) g dX2_init_19 rfl (by decide) ?_
  refine zk_put (q := 23) (ws' := [(h0, .inr (2, [.ref a6, .ref a13, .int 0, .int 0, .int 0, .int 0, .int 0, .int 0, .int 0])), (a6, .inl (E.2.2.2.1, 5, .inl (fun _ => 0))), (a13, .inl (E.2.2.2.1, 4, .inl (fun _ => 0)))]) g zc_X2 0 2 rfl (by decide) zk_fl_X2_18 rfl rfl rfl (Nat.le_of_ble_eq_true rfl) dX2_init_20 rfl rfl ?_
  refine zk_aload_n (q := 24) g 0 dX2_init_23 rfl rfl rfl ?_
  refine zk_iconst (q := 25) (v := 0) g dX2_init_24 rfl (by decide) ?_
  refine zk_put (q := 28) (ws' := [(h0, .inr (2, [.ref a6, .ref a13, .int 0, .int 0, .int 0, .int 0, .int 0, .int 0, .int 0])), (a6, .inl (E.2.2.2.1, 5, .inl (fun _ => 0))), (a13, .inl (E.2.2.2.1, 4, .inl (fun _ => 0)))]) g zc_X2 0 3 rfl (by decide) zk_fl_X2_22 rfl rfl rfl (Nat.le_of_ble_eq_true rfl) dX2_init_25 rfl rfl ?_
  refine zk_aload_n (q := 29) g 0 dX2_init_28 rfl rfl rfl ?_
  refine zk_iconst (q := 30) (v := 0) g dX2_init_29 rfl (by decide) ?_
  refine zk_put (q := 33) (ws' := [(h0, .inr (2, [.ref a6, .ref a13, .int 0, .int 0, .int 0, .int 0, .int 0, .int 0, .int 0])), (a6, .inl (E.2.2.2.1, 5, .inl (fun _ => 0))), (a13, .inl (E.2.2.2.1, 4, .inl (fun _ => 0)))]) g zc_X2 0 4 rfl (by decide) zk_fl_X2_25 rfl rfl rfl (Nat.le_of_ble_eq_true rfl) dX2_init_30 rfl rfl ?_
  refine zk_aload_n (q := 34) g 0 dX2_init_33 rfl rfl rfl ?_
  refine zk_iconst (q := 35) (v := 0) g dX2_init_34 rfl (by decide) ?_
  refine zk_put (q := 38) (ws' := [(h0, .inr (2, [.ref a6, .ref a13, .int 0, .int 0, .int 0, .int 0, .int 0, .int 0, .int 0])), (a6, .inl (E.2.2.2.1, 5, .inl (fun _ => 0))), (a13, .inl (E.2.2.2.1, 4, .inl (fun _ => 0)))]) g zc_X2 0 5 rfl (by decide) zk_fl_X2_28 rfl rfl rfl (Nat.le_of_ble_eq_true rfl) dX2_init_35 rfl rfl ?_
  refine zk_aload_n (q := 39) g 0 dX2_init_38 rfl rfl rfl ?_
  refine zk_iconst (q := 40) (v := 0) g dX2_init_39 rfl (by decide) ?_
  refine zk_put (q := 43) (ws' := [(h0, .inr (2, [.ref a6, .ref a13, .int 0, .int 0, .int 0, .int 0, .int 0, .int 0, .int 0])), (a6, .inl (E.2.2.2.1, 5, .inl (fun _ => 0))), (a13, .inl (E.2.2.2.1, 4, .inl (fun _ => 0)))]) g zc_X2 0 6 rfl (by decide) zk_fl_X2_31 rfl rfl rfl (Nat.le_of_ble_eq_true rfl) dX2_init_40 rfl rfl ?_
  refine zk_aload_n (q := 44) g 0 dX2_init_43 rfl rfl rfl ?_
  refine zk_iconst (q := 45) (v := 0) g dX2_init_44 rfl (by decide) ?_
  refine zk_put (q := 48) (ws' := [(h0, .inr (2, [.ref a6, .ref a13, .int 0, .int 0, .int 0, .int 0, .int 0, .int 0, .int 0])), (a6, .inl (E.2.2.2.1, 5, .inl (fun _ => 0))), (a13, .inl (E.2.2.2.1, 4, .inl (fun _ => 0)))]) g zc_X2 0 7 rfl (by decide) zk_fl_X2_34 rfl rfl rfl (Nat.le_of_ble_eq_true rfl) dX2_init_45 rfl rfl ?_
  refine zk_aload_n (q := 49) g 0 dX2_init_48 rfl rfl rfl ?_
  refine zk_iconst (q := 50) (v := 0) g dX2_init_49 rfl (by decide) ?_
  refine zk_put (q := 53) (ws' := [(h0, .inr (2, [.ref a6, .ref a13, .int 0, .int 0, .int 0, .int 0, .int 0, .int 0, .int 0])), (a6, .inl (E.2.2.2.1, 5, .inl (fun _ => 0))), (a13, .inl (E.2.2.2.1, 4, .inl (fun _ => 0)))]) g zc_X2 0 8 rfl (by decide) zk_fl_X2_37 rfl rfl rfl (Nat.le_of_ble_eq_true rfl) dX2_init_50 rfl rfl ?_
  exact zk_vret g hr hlk (a6, a13) trivial [0, 1, 2] rfl rfl (by decide) dX2_init_53
theorem zk_ob_X3_3 : Cond.methodLink RX3 3 objectInit ∈ zw_tb := zm 155 (by decide +kernel) rfl
theorem zk_fl_X3_9 : Cond.fieldLink RX3 9 (TX3 1).1 (TX3 1).2.1 (TX3 1).2.2.1 ∈ zw_tb := zm 161 (by decide +kernel) rfl
theorem zk_fl_X3_15 : Cond.fieldLink RX3 15 (TX3 2).1 (TX3 2).2.1 (TX3 2).2.2.1 ∈ zw_tb := zm 165 (by decide +kernel) rfl
theorem zk_fl_X3_18 : Cond.fieldLink RX3 18 (TX3 3).1 (TX3 3).2.1 (TX3 3).2.2.1 ∈ zw_tb := zm 169 (by decide +kernel) rfl
theorem zk_fl_X3_21 : Cond.fieldLink RX3 21 (TX3 4).1 (TX3 4).2.1 (TX3 4).2.2.1 ∈ zw_tb := zm 172 (by decide +kernel) rfl
theorem zk_fl_X3_24 : Cond.fieldLink RX3 24 (TX3 0).1 (TX3 0).2.1 (TX3 0).2.2.1 ∈ zw_tb := zm 160 (by decide +kernel) rfl
def mt_X3_init : zw_Mt := (yX3_init, cX3_init, 2, none, 1, 21)
theorem zv_X3_init : zw_Mi mt_X3_init 1 := ⟨⟨zm 154 (by decide +kernel) rfl, zm 65 (by decide +kernel) rfl, by decide +kernel, by decide +kernel, by decide +kernel⟩, zm 153 (by decide +kernel) rfl, rfl, rfl⟩
set_option maxRecDepth 100000 in
set_option maxHeartbeats 4000000 in
theorem zk_c_X3 (l : Launch) (E : zw_En) (h0 hp ka kb : Nat) : zk_Ct l E mt_X3_init 4 17 [.ref h0, .ref hp] [(h0, .inr (3, [.null, .null, .null, .null, .null, .int 0, .int 0, .int 0, .int 0, .int 0])), (hp, .inr (2, [.ref ka, .ref kb, .int 0, .int 0, .int 0, .int 0, .int 0, .int 0, .int 0]))] (fun _ : Nat × Nat × Nat × Nat => True) (fun u : Nat × Nat × Nat × Nat => [(hp, .inr (2, [.ref ka, .ref kb, .int 0, .int 0, .int 0, .int 0, .int 0, .int 0, .int 0])), (h0, .inr (3, [.ref hp, .ref u.1, .ref u.2.1, .ref u.2.2.1, .ref u.2.2.2, .int (zk_h1.1 9 5), .int (zk_h1.1 9 6), .int (zk_h1.1 9 7), .int (zk_h1.1 9 8), .int (zk_h1.1 9 9)])), (u.1, .inl (E.2.2.2.1, 5, .inl (zk_h1.1 10))), (u.2.1, .inl (E.2.2.2.1, 4, .inl (zk_h1.1 11))), (u.2.2.1, .inl (E.2.2.2.1, 4, .inl (zk_h1.1 12))), (u.2.2.2, .inl (E.2.2.2.1, 4, .inl (zk_h1.1 13)))]) := by
  refine zk_ct (lv0 := [(0, .ref h0), (1, .ref hp)]) (by decide) rfl rfl (Nat.le_of_ble_eq_true rfl) (fun p e s m args below meth c A g hr hlk hin => ?_)
  replace g : zk_G p E A s m args c RX3 cX3_init 2 := g
  replace hr : meth.sig.returnType = none := hr
  show zk_W p l e { frames := 1, cells := 4, slots := 17, locals := 21 } s m args below meth c 0 0 _ E A 2 0 [(0, .ref h0), (1, .ref hp)] [] [(h0, .inr (3, [.null, .null, .null, .null, .null, .int 0, .int 0, .int 0, .int 0, .int 0])), (hp, .inr (2, [.ref ka, .ref kb, .int 0, .int 0, .int 0, .int 0, .int 0, .int 0, .int 0]))]
  refine zk_aload_n (q := 1) g 0 dX3_init_0 rfl rfl rfl ?_
  refine zk_obj (q := 4) g zk_ob_X3_3 dX3_init_1 rfl ⟨Nat.le_of_ble_eq_true rfl, Nat.le_of_ble_eq_true rfl⟩ (by decide) ?_
  refine zk_aload_n (q := 5) g 0 dX3_init_4 rfl rfl rfl ?_
  refine zk_iconst (q := 6) (v := 5) g dX3_init_5 rfl (by decide) ?_
  refine zk_newi (q := 8) (N := 5) (cells' := 1) (slots' := 5) (W' := fun a6 => [(h0, .inr (3, [.null, .null, .null, .null, .null, .int 0, .int 0, .int 0, .int 0, .int 0])), (hp, .inr (2, [.ref ka, .ref kb, .int 0, .int 0, .int 0, .int 0, .int 0, .int 0, .int 0])), (a6, .inl (E.2.2.2.1, 5, .inl (fun _ => 0)))]) g (by decide) (by decide) (by decide) ⟨rfl, rfl⟩ ⟨Nat.le_of_ble_eq_true rfl, Nat.le_of_ble_eq_true rfl⟩ dX3_init_6 rfl (fun _ => rfl) (fun a6 => ?_)
  refine zk_putF (q := 11) (ws' := [(h0, .inr (3, [.null, .ref a6, .null, .null, .null, .int 0, .int 0, .int 0, .int 0, .int 0])), (hp, .inr (2, [.ref ka, .ref kb, .int 0, .int 0, .int 0, .int 0, .int 0, .int 0, .int 0])), (a6, .inl (E.2.2.2.1, 5, .inl (fun _ => 0)))]) g hin zc_X3 0 1 rfl (by decide) zk_fl_X3_9 rfl rfl rfl rfl (Nat.le_of_ble_eq_true rfl) dX3_init_8 rfl rfl ?_
  refine zk_aload_n (q := 12) g 0 dX3_init_11 rfl rfl rfl ?_
  refine zk_iconst (q := 13) (v := 4) g dX3_init_12 rfl (by decide) ?_
  refine zk_newi (q := 15) (N := 4) (cells' := 2) (slots' := 9) (W' := fun a13 => [(h0, .inr (3, [.null, .ref a6, .null, .null, .null, .int 0, .int 0, .int 0, .int 0, .int 0])), (hp, .inr (2, [.ref ka, .ref kb, .int 0, .int 0, .int 0, .int 0, .int 0, .int 0, .int 0])), (a6, .inl (E.2.2.2.1, 5, .inl (fun _ => 0))), (a13, .inl (E.2.2.2.1, 4, .inl (fun _ => 0)))]) g (by decide) (by decide) (by decide) ⟨rfl, rfl⟩ ⟨Nat.le_of_ble_eq_true rfl, Nat.le_of_ble_eq_true rfl⟩ dX3_init_13 rfl (fun _ => rfl) (fun a13 => ?_)
  refine zk_putF (q := 18) (ws' := [(h0, .inr (3, [.null, .ref a6, .ref a13, .null, .null, .int 0, .int 0, .int 0, .int 0, .int 0])), (hp, .inr (2, [.ref ka, .ref kb, .int 0, .int 0, .int 0, .int 0, .int 0, .int 0, .int 0])), (a6, .inl (E.2.2.2.1, 5, .inl (fun _ => 0))), (a13, .inl (E.2.2.2.1, 4, .inl (fun _ => 0)))]) g hin zc_X3 0 2 rfl (by decide) zk_fl_X3_15 rfl rfl rfl rfl (Nat.le_of_ble_eq_true rfl) dX3_init_15 rfl rfl ?_
  refine zk_aload_n (q := 19) g 0 dX3_init_18 rfl rfl rfl ?_
  refine zk_iconst (q := 20) (v := 4) g dX3_init_19 rfl (by decide) ?_
  refine zk_newi (q := 22) (N := 4) (cells' := 3) (slots' := 13) (W' := fun a20 => [(h0, .inr (3, [.null, .ref a6, .ref a13, .null, .null, .int 0, .int 0, .int 0, .int 0, .int 0])), (hp, .inr (2, [.ref ka, .ref kb, .int 0, .int 0, .int 0, .int 0, .int 0, .int 0, .int 0])), (a6, .inl (E.2.2.2.1, 5, .inl (fun _ => 0))), (a13, .inl (E.2.2.2.1, 4, .inl (fun _ => 0))), (a20, .inl (E.2.2.2.1, 4, .inl (fun _ => 0)))]) g (by decide) (by decide) (by decide) ⟨rfl, rfl⟩ ⟨Nat.le_of_ble_eq_true rfl, Nat.le_of_ble_eq_true rfl⟩ dX3_init_20 rfl (fun _ => rfl) (fun a20 => ?_)
  refine zk_putF (q := 25) (ws' := [(h0, .inr (3, [.null, .ref a6, .ref a13, .ref a20, .null, .int 0, .int 0, .int 0, .int 0, .int 0])), (hp, .inr (2, [.ref ka, .ref kb, .int 0, .int 0, .int 0, .int 0, .int 0, .int 0, .int 0])), (a6, .inl (E.2.2.2.1, 5, .inl (fun _ => 0))), (a13, .inl (E.2.2.2.1, 4, .inl (fun _ => 0))), (a20, .inl (E.2.2.2.1, 4, .inl (fun _ => 0)))]) g hin zc_X3 0 3 rfl (by decide) zk_fl_X3_18 rfl rfl rfl rfl (Nat.le_of_ble_eq_true rfl) dX3_init_22 rfl rfl ?_
  refine zk_aload_n (q := 26) g 0 dX3_init_25 rfl rfl rfl ?_
  refine zk_iconst (q := 27) (v := 4) g dX3_init_26 rfl (by decide) ?_
  refine zk_newi (q := 29) (N := 4) (cells' := 4) (slots' := 17) (W' := fun a27 => [(h0, .inr (3, [.null, .ref a6, .ref a13, .ref a20, .null, .int 0, .int 0, .int 0, .int 0, .int 0])), (hp, .inr (2, [.ref ka, .ref kb, .int 0, .int 0, .int 0, .int 0, .int 0, .int 0, .int 0])), (a6, .inl (E.2.2.2.1, 5, .inl (fun _ => 0))), (a13, .inl (E.2.2.2.1, 4, .inl (fun _ => 0))), (a20, .inl (E.2.2.2.1, 4, .inl (fun _ => 0))), (a27, .inl (E.2.2.2.1, 4, .inl (fun _ => 0)))]) g (by decide) (by decide) (by decide) ⟨rfl, rfl⟩ ⟨Nat.le_of_ble_eq_true rfl, Nat.le_of_ble_eq_true rfl⟩ dX3_init_27 rfl (fun _ => rfl) (fun a27 => ?_)
  refine zk_putF (q := 32) (ws' := [(h0, .inr (3, [.null, .ref a6, .ref a13, .ref a20, .ref a27, .int 0, .int 0, .int 0, .int 0, .int 0])), (hp, .inr (2, [.ref ka, .ref kb, .int 0, .int 0, .int 0, .int 0, .int 0, .int 0, .int 0])), (a6, .inl (E.2.2.2.1, 5, .inl (fun _ => 0))), (a13, .inl (E.2.2.2.1, 4, .inl (fun _ => 0))), (a20, .inl (E.2.2.2.1, 4, .inl (fun _ => 0))), (a27, .inl (E.2.2.2.1, 4, .inl (fun _ => 0)))]) g hin zc_X3 0 4 rfl (by decide) zk_fl_X3_21 rfl rfl rfl rfl (Nat.le_of_ble_eq_true rfl) dX3_init_29 rfl rfl ?_
  refine zk_aload_n (q := 33) g 0 dX3_init_32 rfl rfl rfl ?_
  refine zk_aload_n (q := 34) g 1 dX3_init_33 rfl rfl rfl ?_
  refine zk_putF (q := 37) (ws' := [(h0, .inr (3, [.ref hp, .ref a6, .ref a13, .ref a20, .ref a27, .int 0, .int 0, .int 0, .int 0, .int 0])), (hp, .inr (2, [.ref ka, .ref kb, .int 0, .int 0, .int 0, .int 0, .int 0, .int 0, .int 0])), (a6, .inl (E.2.2.2.1, 5, .inl (fun _ => 0))), (a13, .inl (E.2.2.2.1, 4, .inl (fun _ => 0))), (a20, .inl (E.2.2.2.1, 4, .inl (fun _ => 0))), (a27, .inl (E.2.2.2.1, 4, .inl (fun _ => 0)))]) g hin zc_X3 0 0 rfl (by decide) zk_fl_X3_24 rfl rfl rfl rfl (Nat.le_of_ble_eq_true rfl) dX3_init_34 rfl rfl ?_
  refine zk_aload_n (q := 38) g 0 dX3_init_37 rfl rfl rfl ?_
  refine zk_to (L := [6, 9, 10, 11, 12, 13]) (ad := (fun j => [0, 0, 0, 0, 0, 0, hp, ka, kb, h0, a6, a13, a20, a27].getD j 0)) (h := zk_h0) g [1, 0, 2, 3, 4, 5] rfl rfl (by decide) (by decide) (fun ok g2 => ?_)
  refine zr_callV (q := 41) (i := 9) (As := []) (rest := []) (st' := []) g2 (R_X3_setUp (Or.inl rfl) ok (fun i hi => ?_) zk_setUp) zv_X3_setUp zl_X3_28 ?_ zs_9 rfl dX3_init_38 rfl rfl ⟨Nat.le_of_ble_eq_true rfl, Nat.le_of_ble_eq_true rfl⟩ ⟨Nat.le_of_ble_eq_true rfl, Nat.le_of_ble_eq_true rfl⟩ (by decide) rfl rfl ?_
  · show i ∈ [6, 9, 10, 11, 12, 13]
    rcases (show i = 6 ∨ i = 9 ∨ i = 10 ∨ i = 11 ∨ i = 12 ∨ i = 13 by omega) with rfl | rfl | rfl | rfl | rfl | rfl <;> decide
  · show 9 ∈ [6, 9, 10, 11, 12, 13]
    decide
  exact zk_vretZ g2 hr hlk (a6, a13, a20, a27) trivial rfl dX3_init_41
theorem zk_ob_X5_5 : Cond.methodLink RX5 5 objectInit ∈ zw_tb := zm 224 (by decide +kernel) rfl
theorem zk_fl_X5_11 : Cond.fieldLink RX5 11 (TX5 0).1 (TX5 0).2.1 (TX5 0).2.2.1 ∈ zw_tb := zm 225 (by decide +kernel) rfl
def mt_X5_init : zw_Mt := (yX5_init, cX5_init, 2, none, 1, 20)
theorem zv_X5_init : zw_Mi mt_X5_init 1 := ⟨⟨zm 223 (by decide +kernel) rfl, zm 67 (by decide +kernel) rfl, by decide +kernel, by decide +kernel, by decide +kernel⟩, zm 222 (by decide +kernel) rfl, rfl, rfl⟩
set_option maxRecDepth 100000 in
set_option maxHeartbeats 4000000 in
theorem zk_c_X5a (l : Launch) (E : zw_En) (h0 : Nat) : zk_Ct l E mt_X5_init 1 294 [.ref h0, .int 14] [(h0, .inr (5, [.null]))] (fun _ : Nat => True) (fun u : Nat => [(h0, .inr (5, [.ref u])), (u, .inl (E.2.2.2.1, 294, .inl (fun _ => 0)))]) := by
  refine zk_ct (lv0 := [(0, .ref h0), (1, .int 14)]) (by decide) rfl rfl (Nat.le_of_ble_eq_true rfl) (fun p e s m args below meth c A g hr hlk hin => ?_)
  replace g : zk_G p E A s m args c RX5 cX5_init 2 := g
  replace hr : meth.sig.returnType = none := hr
  show zk_W p l e { frames := 1, cells := 1, slots := 294, locals := 20 } s m args below meth c 0 0 _ E A 2 0 [(0, .ref h0), (1, .int 14)] [] [(h0, .inr (5, [.null]))]
  refine zk_aload_n (q := 1) g 0 dX5_init_0 rfl rfl rfl ?_
  refine zk_obj (q := 4) g zk_ob_X5_5 dX5_init_1 rfl ⟨Nat.le_of_ble_eq_true rfl, Nat.le_of_ble_eq_true rfl⟩ (by decide) ?_
  refine zk_aload_n (q := 5) g 0 dX5_init_4 rfl rfl rfl ?_
  refine zk_iload_n (q := 6) g 1 dX5_init_5 rfl rfl rfl ?_
  refine zk_iconst (q := 7) (v := 1) g dX5_init_6 rfl (by decide) ?_
  refine zk_icmp_ge (tgt := 15) g dX5_init_7 rfl (by decide) ?_
  refine zk_iload_n (q := 16) g 1 dX5_init_15 rfl rfl rfl ?_
  refine zk_bipush (q := 18) (v := 21) g dX5_init_16 rfl (by decide) ?_
  refine zk_imul (q := 19) (z := 294) g dX5_init_18 rfl (by decide) ?_
  refine zk_newi (q := 21) (N := 294) (cells' := 1) (slots' := 294) (W' := fun a19 => [(h0, .inr (5, [.null])), (a19, .inl (E.2.2.2.1, 294, .inl (fun _ => 0)))]) g (by decide) (by decide) (by decide) ⟨rfl, rfl⟩ ⟨Nat.le_of_ble_eq_true rfl, Nat.le_of_ble_eq_true rfl⟩ dX5_init_19 rfl (fun _ => rfl) (fun a19 => ?_)
  refine zk_putF (q := 24) (ws' := [(h0, .inr (5, [.ref a19])), (a19, .inl (E.2.2.2.1, 294, .inl (fun _ => 0)))]) g hin zc_X5 0 0 rfl (by decide) zk_fl_X5_11 rfl rfl rfl rfl (Nat.le_of_ble_eq_true rfl) dX5_init_21 rfl rfl ?_
  exact zk_vret g hr hlk a19 trivial [0, 1] rfl rfl (by decide) dX5_init_24
set_option maxRecDepth 100000 in
set_option maxHeartbeats 4000000 in
theorem zk_c_X5b (l : Launch) (E : zw_En) (h0 : Nat) : zk_Ct l E mt_X5_init 1 42 [.ref h0, .int 2] [(h0, .inr (5, [.null]))] (fun _ : Nat => True) (fun u : Nat => [(h0, .inr (5, [.ref u])), (u, .inl (E.2.2.2.1, 42, .inl (fun _ => 0)))]) := by
  refine zk_ct (lv0 := [(0, .ref h0), (1, .int 2)]) (by decide) rfl rfl (Nat.le_of_ble_eq_true rfl) (fun p e s m args below meth c A g hr hlk hin => ?_)
  replace g : zk_G p E A s m args c RX5 cX5_init 2 := g
  replace hr : meth.sig.returnType = none := hr
  show zk_W p l e { frames := 1, cells := 1, slots := 42, locals := 20 } s m args below meth c 0 0 _ E A 2 0 [(0, .ref h0), (1, .int 2)] [] [(h0, .inr (5, [.null]))]
  refine zk_aload_n (q := 1) g 0 dX5_init_0 rfl rfl rfl ?_
  refine zk_obj (q := 4) g zk_ob_X5_5 dX5_init_1 rfl ⟨Nat.le_of_ble_eq_true rfl, Nat.le_of_ble_eq_true rfl⟩ (by decide) ?_
  refine zk_aload_n (q := 5) g 0 dX5_init_4 rfl rfl rfl ?_
  refine zk_iload_n (q := 6) g 1 dX5_init_5 rfl rfl rfl ?_
  refine zk_iconst (q := 7) (v := 1) g dX5_init_6 rfl (by decide) ?_
  refine zk_icmp_ge (tgt := 15) g dX5_init_7 rfl (by decide) ?_
  refine zk_iload_n (q := 16) g 1 dX5_init_15 rfl rfl rfl ?_
  refine zk_bipush (q := 18) (v := 21) g dX5_init_16 rfl (by decide) ?_
  refine zk_imul (q := 19) (z := 42) g dX5_init_18 rfl (by decide) ?_
  refine zk_newi (q := 21) (N := 42) (cells' := 1) (slots' := 42) (W' := fun a19 => [(h0, .inr (5, [.null])), (a19, .inl (E.2.2.2.1, 42, .inl (fun _ => 0)))]) g (by decide) (by decide) (by decide) ⟨rfl, rfl⟩ ⟨Nat.le_of_ble_eq_true rfl, Nat.le_of_ble_eq_true rfl⟩ dX5_init_19 rfl (fun _ => rfl) (fun a19 => ?_)
  refine zk_putF (q := 24) (ws' := [(h0, .inr (5, [.ref a19])), (a19, .inl (E.2.2.2.1, 42, .inl (fun _ => 0)))]) g hin zc_X5 0 0 rfl (by decide) zk_fl_X5_11 rfl rfl rfl rfl (Nat.le_of_ble_eq_true rfl) dX5_init_21 rfl rfl ?_
  exact zk_vret g hr hlk a19 trivial [0, 1] rfl rfl (by decide) dX5_init_24
theorem zk_ob_X0_3 : Cond.methodLink RX0 3 objectInit ∈ zw_tb := zm 218 (by decide +kernel) rfl
theorem zk_cl_X0_9 : Cond.classLink RX0 9 RX5 ∈ zw_tb := zm 219 (by decide +kernel) rfl
theorem zk_in_X5 : Cond.instantiable RX5 1 ∈ zw_tb := zm 220 (by decide +kernel) rfl
theorem zk_ini_X5 : Cond.initialized RX5 ∈ zw_tb := zm 67 (by decide +kernel) rfl
theorem zk_il_X0_11 : Cond.methodLink RX0 11 yX5_init ∈ zw_tb := zm 221 (by decide +kernel) rfl
theorem zk_fl_X0_14 : Cond.fieldLink RX0 14 (TX0 0).1 (TX0 0).2.1 (TX0 0).2.2.1 ∈ zw_tb := zm 229 (by decide +kernel) rfl
theorem zk_fl_X0_20 : Cond.fieldLink RX0 20 (TX0 1).1 (TX0 1).2.1 (TX0 1).2.2.1 ∈ zw_tb := zm 230 (by decide +kernel) rfl
theorem zk_fl_X0_24 : Cond.fieldLink RX0 24 (TX0 2).1 (TX0 2).2.1 (TX0 2).2.2.1 ∈ zw_tb := zm 231 (by decide +kernel) rfl
def mt_X0_init : zw_Mt := (yX0_init, cX0_init, 1, none, 2, 41)
theorem zv_X0_init : zw_Mi mt_X0_init 0 := ⟨⟨zm 217 (by decide +kernel) rfl, zm 66 (by decide +kernel) rfl, by decide +kernel, by decide +kernel, by decide +kernel⟩, zm 216 (by decide +kernel) rfl, rfl, rfl⟩
set_option maxRecDepth 100000 in
set_option maxHeartbeats 4000000 in
theorem zk_c_X0 (l : Launch) (E : zw_En) (h0 : Nat) : zk_Ct l E mt_X0_init 2 295 [.ref h0] [(h0, .inr (0, [.null, .int 0, .int 0]))] (fun _ : Nat × Nat => True) (fun u : Nat × Nat => [(h0, .inr (0, [.ref u.1, .int 0, .int 0])), (u.1, .inr (5, [.ref u.2])), (u.2, .inl (E.2.2.2.1, 294, .inl (fun _ => 0)))]) := by
  refine zk_ct (lv0 := [(0, .ref h0)]) (by decide) rfl rfl (Nat.le_of_ble_eq_true rfl) (fun p e s m args below meth c A g hr hlk hin => ?_)
  replace g : zk_G p E A s m args c RX0 cX0_init 1 := g
  replace hr : meth.sig.returnType = none := hr
  show zk_W p l e { frames := 2, cells := 2, slots := 295, locals := 41 } s m args below meth c 0 0 _ E A 1 0 [(0, .ref h0)] [] [(h0, .inr (0, [.null, .int 0, .int 0]))]
  refine zk_aload_n (q := 1) g 0 dX0_init_0 rfl rfl rfl ?_
  refine zk_obj (q := 4) g zk_ob_X0_3 dX0_init_1 rfl ⟨Nat.le_of_ble_eq_true rfl, Nat.le_of_ble_eq_true rfl⟩ (by decide) ?_
  refine zk_aload_n (q := 5) g 0 dX0_init_4 rfl rfl rfl ?_
  refine zk_new (q := 8) (fs := [.null]) (cells' := 1) (slots' := 1) (W' := fun a5 => [(h0, .inr (0, [.null, .int 0, .int 0])), (a5, .inr (5, [.null]))]) g zc_X5 zk_cl_X0_9 zk_in_X5 zk_ini_X5 zk_dfX5 ⟨rfl, rfl⟩ ⟨Nat.le_of_ble_eq_true rfl, Nat.le_of_ble_eq_true rfl⟩ dX0_init_5 rfl (fun _ => rfl) (fun a5 => ?_)
  refine zk_dup (q := 9) g dX0_init_8 rfl rfl ?_
  refine zk_bipush (q := 11) (v := 14) g dX0_init_9 rfl (by decide) ?_
  refine zk_callI (q := 14) (cells' := 2) (slots' := 295) (As := [.int 14]) (rest := [.ref a5, .ref h0]) (wr := [(h0, .inr (0, [.null, .int 0, .int 0]))]) g (zk_c_X5a l E a5) zv_X5_init zk_il_X0_11 [1] [0] rfl rfl rfl (by decide) (by decide) (by decide) rfl rfl (Nat.le_of_ble_eq_true rfl) ⟨Nat.le_of_ble_eq_true rfl, Nat.le_of_ble_eq_true rfl⟩ ⟨rfl, rfl⟩ ⟨Nat.le_of_ble_eq_true rfl, Nat.le_of_ble_eq_true rfl⟩ dX0_init_11 rfl (fun u11 _ => ?_)
  obtain ⟨b11_0, rfl⟩ : ∃ z, z = u11 := ⟨_, rfl⟩
  refine zk_ws [(h0, .inr (0, [.null, .int 0, .int 0])), (a5, .inr (5, [.ref b11_0])), (b11_0, .inl (E.2.2.2.1, 294, .inl (fun _ => 0)))] rfl ?_
  refine zk_putF (q := 17) (ws' := [(h0, .inr (0, [.ref a5, .int 0, .int 0])), (a5, .inr (5, [.ref b11_0])), (b11_0, .inl (E.2.2.2.1, 294, .inl (fun _ => 0)))]) g hin zc_X0 0 0 rfl (by decide) zk_fl_X0_14 rfl rfl rfl rfl (Nat.le_of_ble_eq_true rfl) dX0_init_14 rfl rfl ?_
  refine zk_aload_n (q := 18) g 0 dX0_init_17 rfl rfl rfl ?_
  refine zk_iconst (q := 19) (v := 0) g dX0_init_18 rfl (by decide) ?_
  refine zk_put (q := 22) (ws' := [(h0, .inr (0, [.ref a5, .int 0, .int 0])), (a5, .inr (5, [.ref b11_0])), (b11_0, .inl (E.2.2.2.1, 294, .inl (fun _ => 0)))]) g zc_X0 0 1 rfl (by decide) zk_fl_X0_20 rfl rfl rfl (Nat.le_of_ble_eq_true rfl) dX0_init_19 rfl rfl ?_
  refine zk_aload_n (q := 23) g 0 dX0_init_22 rfl rfl rfl ?_
  refine zk_iconst (q := 24) (v := 0) g dX0_init_23 rfl (by decide) ?_
  refine zk_put (q := 27) (ws' := [(h0, .inr (0, [.ref a5, .int 0, .int 0])), (a5, .inr (5, [.ref b11_0])), (b11_0, .inl (E.2.2.2.1, 294, .inl (fun _ => 0)))]) g zc_X0 0 2 rfl (by decide) zk_fl_X0_24 rfl rfl rfl (Nat.le_of_ble_eq_true rfl) dX0_init_24 rfl rfl ?_
  exact zk_vret g hr hlk (a5, b11_0) trivial [0, 1, 2] rfl rfl (by decide) dX0_init_27
theorem zk_ob_X6_3 : Cond.methodLink RX6 3 objectInit ∈ zw_tb := zm 247 (by decide +kernel) rfl
theorem zk_fl_X6_9 : Cond.fieldLink RX6 9 (TX6 0).1 (TX6 0).2.1 (TX6 0).2.2.1 ∈ zw_tb := zm 248 (by decide +kernel) rfl
theorem zk_fl_X6_15 : Cond.fieldLink RX6 15 (TX6 1).1 (TX6 1).2.1 (TX6 1).2.2.1 ∈ zw_tb := zm 249 (by decide +kernel) rfl
theorem zk_fl_X6_18 : Cond.fieldLink RX6 18 (TX6 2).1 (TX6 2).2.1 (TX6 2).2.2.1 ∈ zw_tb := zm 250 (by decide +kernel) rfl
theorem zk_fl_X6_21 : Cond.fieldLink RX6 21 (TX6 3).1 (TX6 3).2.1 (TX6 3).2.2.1 ∈ zw_tb := zm 251 (by decide +kernel) rfl
def mt_X6_init : zw_Mt := (yX6_init, cX6_init, 1, none, 1, 20)
theorem zv_X6_init : zw_Mi mt_X6_init 0 := ⟨⟨zm 246 (by decide +kernel) rfl, zm 68 (by decide +kernel) rfl, by decide +kernel, by decide +kernel, by decide +kernel⟩, zm 245 (by decide +kernel) rfl, rfl, rfl⟩
set_option maxRecDepth 100000 in
set_option maxHeartbeats 4000000 in
theorem zk_c_X6 (l : Launch) (E : zw_En) (h0 : Nat) : zk_Ct l E mt_X6_init 3 18 [.ref h0] [(h0, .inr (6, [.null, .null, .null, .int 0]))] (fun _ : Nat × Nat × Nat => True) (fun u : Nat × Nat × Nat => [(h0, .inr (6, [.ref u.1, .ref u.2.1, .ref u.2.2, .int 0])), (u.1, .inl (E.2.2.2.1, 6, .inl (fun _ => 0))), (u.2.1, .inl (E.2.2.2.1, 6, .inl (fun _ => 0))), (u.2.2, .inl (E.2.2.2.1, 6, .inl (fun _ => 0)))]) := by
  refine zk_ct (lv0 := [(0, .ref h0)]) (by decide) rfl rfl (Nat.le_of_ble_eq_true rfl) (fun p e s m args below meth c A g hr hlk hin => ?_)
  replace g : zk_G p E A s m args c RX6 cX6_init 1 := g
  replace hr : meth.sig.returnType = none := hr
  show zk_W p l e { frames := 1, cells := 3, slots := 18, locals := 20 } s m args below meth c 0 0 _ E A 1 0 [(0, .ref h0)] [] [(h0, .inr (6, [.null, .null, .null, .int 0]))]
  refine zk_aload_n (q := 1) g 0 dX6_init_0 rfl rfl rfl ?_
  refine zk_obj (q := 4) g zk_ob_X6_3 dX6_init_1 rfl ⟨Nat.le_of_ble_eq_true rfl, Nat.le_of_ble_eq_true rfl⟩ (by decide) ?_
  refine zk_aload_n (q := 5) g 0 dX6_init_4 rfl rfl rfl ?_
  refine zk_bipush (q := 7) (v := 6) g dX6_init_5 rfl (by decide) ?_
  refine zk_newi (q := 9) (N := 6) (cells' := 1) (slots' := 6) (W' := fun a7 => [(h0, .inr (6, [.null, .null, .null, .int 0])), (a7, .inl (E.2.2.2.1, 6, .inl (fun _ => 0)))]) g (by decide) (by decide) (by decide) ⟨rfl, rfl⟩ ⟨Nat.le_of_ble_eq_true rfl, Nat.le_of_ble_eq_true rfl⟩ dX6_init_7 rfl (fun _ => rfl) (fun a7 => ?_)
  refine zk_putF (q := 12) (ws' := [(h0, .inr (6, [.ref a7, .null, .null, .int 0])), (a7, .inl (E.2.2.2.1, 6, .inl (fun _ => 0)))]) g hin zc_X6 0 0 rfl (by decide) zk_fl_X6_9 rfl rfl rfl rfl (Nat.le_of_ble_eq_true rfl) dX6_init_9 rfl rfl ?_
  refine zk_aload_n (q := 13) g 0 dX6_init_12 rfl rfl rfl ?_
  refine zk_bipush (q := 15) (v := 6) g dX6_init_13 rfl (by decide) ?_
  refine zk_newi (q := 17) (N := 6) (cells' := 2) (slots' := 12) (W' := fun a15 => [(h0, .inr (6, [.ref a7, .null, .null, .int 0])), (a7, .inl (E.2.2.2.1, 6, .inl (fun _ => 0))), (a15, .inl (E.2.2.2.1, 6, .inl (fun _ => 0)))]) g (by decide) (by decide) (by decide) ⟨rfl, rfl⟩ ⟨Nat.le_of_ble_eq_true rfl, Nat.le_of_ble_eq_true rfl⟩ dX6_init_15 rfl (fun _ => rfl) (fun a15 => ?_)
  refine zk_putF (q := 20) (ws' := [(h0, .inr (6, [.ref a7, .ref a15, .null, .int 0])), (a7, .inl (E.2.2.2.1, 6, .inl (fun _ => 0))), (a15, .inl (E.2.2.2.1, 6, .inl (fun _ => 0)))]) g hin zc_X6 0 1 rfl (by decide) zk_fl_X6_15 rfl rfl rfl rfl (Nat.le_of_ble_eq_true rfl) dX6_init_17 rfl rfl ?_
  refine zk_aload_n (q := 21) g 0 dX6_init_20 rfl rfl rfl ?_
  refine zk_bipush (q := 23) (v := 6) g dX6_init_21 rfl (by decide) ?_
  refine zk_newi (q := 25) (N := 6) (cells' := 3) (slots' := 18) (W' := fun a23 => [(h0, .inr (6, [.ref a7, .ref a15, .null, .int 0])), (a7, .inl (E.2.2.2.1, 6, .inl (fun _ => 0))), (a15, .inl (E.2.2.2.1, 6, .inl (fun _ => 0))), (a23, .inl (E.2.2.2.1, 6, .inl (fun _ => 0)))]) g (by decide) (by decide) (by decide) ⟨rfl, rfl⟩ ⟨Nat.le_of_ble_eq_true rfl, Nat.le_of_ble_eq_true rfl⟩ dX6_init_23 rfl (fun _ => rfl) (fun a23 => ?_)
  refine zk_putF (q := 28) (ws' := [(h0, .inr (6, [.ref a7, .ref a15, .ref a23, .int 0])), (a7, .inl (E.2.2.2.1, 6, .inl (fun _ => 0))), (a15, .inl (E.2.2.2.1, 6, .inl (fun _ => 0))), (a23, .inl (E.2.2.2.1, 6, .inl (fun _ => 0)))]) g hin zc_X6 0 2 rfl (by decide) zk_fl_X6_18 rfl rfl rfl rfl (Nat.le_of_ble_eq_true rfl) dX6_init_25 rfl rfl ?_
  refine zk_aload_n (q := 29) g 0 dX6_init_28 rfl rfl rfl ?_
  refine zk_iconst (q := 30) (v := 0) g dX6_init_29 rfl (by decide) ?_
  refine zk_put (q := 33) (ws' := [(h0, .inr (6, [.ref a7, .ref a15, .ref a23, .int 0])), (a7, .inl (E.2.2.2.1, 6, .inl (fun _ => 0))), (a15, .inl (E.2.2.2.1, 6, .inl (fun _ => 0))), (a23, .inl (E.2.2.2.1, 6, .inl (fun _ => 0)))]) g zc_X6 0 3 rfl (by decide) zk_fl_X6_21 rfl rfl rfl (Nat.le_of_ble_eq_true rfl) dX6_init_30 rfl rfl ?_
  exact zk_vret g hr hlk (a7, a15, a23) trivial [0, 1, 2, 3] rfl rfl (by decide) dX6_init_33
theorem zk_ob_X4_3 : Cond.methodLink RX4 3 objectInit ∈ zw_tb := zm 267 (by decide +kernel) rfl
theorem zk_fl_X4_9 : Cond.fieldLink RX4 9 (TX4 3).1 (TX4 3).2.1 (TX4 3).2.2.1 ∈ zw_tb := zm 271 (by decide +kernel) rfl
theorem zk_fl_X4_15 : Cond.fieldLink RX4 15 (TX4 4).1 (TX4 4).2.1 (TX4 4).2.2.1 ∈ zw_tb := zm 272 (by decide +kernel) rfl
theorem zk_fl_X4_19 : Cond.fieldLink RX4 19 (TX4 5).1 (TX4 5).2.1 (TX4 5).2.2.1 ∈ zw_tb := zm 274 (by decide +kernel) rfl
theorem zk_fl_X4_22 : Cond.fieldLink RX4 22 (TX4 0).1 (TX4 0).2.1 (TX4 0).2.2.1 ∈ zw_tb := zm 268 (by decide +kernel) rfl
theorem zk_fl_X4_26 : Cond.fieldLink RX4 26 (TX4 1).1 (TX4 1).2.1 (TX4 1).2.2.1 ∈ zw_tb := zm 269 (by decide +kernel) rfl
theorem zk_fl_X4_30 : Cond.fieldLink RX4 30 (TX4 2).1 (TX4 2).2.1 (TX4 2).2.2.1 ∈ zw_tb := zm 270 (by decide +kernel) rfl
def mt_X4_init : zw_Mt := (yX4_init, cX4_init, 4, none, 1, 20)
theorem zv_X4_init : zw_Mi mt_X4_init 3 := ⟨⟨zm 266 (by decide +kernel) rfl, zm 69 (by decide +kernel) rfl, by decide +kernel, by decide +kernel, by decide +kernel⟩, zm 265 (by decide +kernel) rfl, rfl, rfl⟩
set_option maxRecDepth 100000 in
set_option maxHeartbeats 4000000 in
theorem zk_c_X4 (l : Launch) (E : zw_En) (h0 r1 r2 r3 : Nat) : zk_Ct l E mt_X4_init 1 5 [.ref h0, .ref r1, .ref r2, .ref r3] [(h0, .inr (4, [.null, .null, .null, .null, .int 0, .int 0]))] (fun _ : Nat => True) (fun u : Nat => [(h0, .inr (4, [.ref r1, .ref r2, .ref r3, .ref u, .int 0, .int 0])), (u, .inl (E.2.2.2.1, 5, .inl (fun _ => 0)))]) := by
  refine zk_ct (lv0 := [(0, .ref h0), (1, .ref r1), (2, .ref r2), (3, .ref r3)]) (by decide) rfl rfl (Nat.le_of_ble_eq_true rfl) (fun p e s m args below meth c A g hr hlk hin => ?_)
  replace g : zk_G p E A s m args c RX4 cX4_init 4 := g
  replace hr : meth.sig.returnType = none := hr
  show zk_W p l e { frames := 1, cells := 1, slots := 5, locals := 20 } s m args below meth c 0 0 _ E A 4 0 [(0, .ref h0), (1, .ref r1), (2, .ref r2), (3, .ref r3)] [] [(h0, .inr (4, [.null, .null, .null, .null, .int 0, .int 0]))]
  refine zk_aload_n (q := 1) g 0 dX4_init_0 rfl rfl rfl ?_
  refine zk_obj (q := 4) g zk_ob_X4_3 dX4_init_1 rfl ⟨Nat.le_of_ble_eq_true rfl, Nat.le_of_ble_eq_true rfl⟩ (by decide) ?_
  refine zk_aload_n (q := 5) g 0 dX4_init_4 rfl rfl rfl ?_
  refine zk_iconst (q := 6) (v := 5) g dX4_init_5 rfl (by decide) ?_
  refine zk_newi (q := 8) (N := 5) (cells' := 1) (slots' := 5) (W' := fun a6 => [(h0, .inr (4, [.null, .null, .null, .null, .int 0, .int 0])), (a6, .inl (E.2.2.2.1, 5, .inl (fun _ => 0)))]) g (by decide) (by decide) (by decide) ⟨rfl, rfl⟩ ⟨Nat.le_of_ble_eq_true rfl, Nat.le_of_ble_eq_true rfl⟩ dX4_init_6 rfl (fun _ => rfl) (fun a6 => ?_)
  refine zk_putF (q := 11) (ws' := [(h0, .inr (4, [.null, .null, .null, .ref a6, .int 0, .int 0])), (a6, .inl (E.2.2.2.1, 5, .inl (fun _ => 0)))]) g hin zc_X4 0 3 rfl (by decide) zk_fl_X4_9 rfl rfl rfl rfl (Nat.le_of_ble_eq_true rfl) dX4_init_8 rfl rfl ?_
  refine zk_aload_n (q := 12) g 0 dX4_init_11 rfl rfl rfl ?_
  refine zk_iconst (q := 13) (v := 0) g dX4_init_12 rfl (by decide) ?_
  refine zk_put (q := 16) (ws' := [(h0, .inr (4, [.null, .null, .null, .ref a6, .int 0, .int 0])), (a6, .inl (E.2.2.2.1, 5, .inl (fun _ => 0)))]) g zc_X4 0 4 rfl (by decide) zk_fl_X4_15 rfl rfl rfl (Nat.le_of_ble_eq_true rfl) dX4_init_13 rfl rfl ?_
  refine zk_aload_n (q := 17) g 0 dX4_init_16 rfl rfl rfl ?_
  refine zk_iconst (q := 18) (v := 0) g dX4_init_17 rfl (by decide) ?_
  refine zk_put (q := 21) (ws' := [(h0, .inr (4, [.null, .null, .null, .ref a6, .int 0, .int 0])), (a6, .inl (E.2.2.2.1, 5, .inl (fun _ => 0)))]) g zc_X4 0 5 rfl (by decide) zk_fl_X4_19 rfl rfl rfl (Nat.le_of_ble_eq_true rfl) dX4_init_18 rfl rfl ?_
  refine zk_aload_n (q := 22) g 0 dX4_init_21 rfl rfl rfl ?_
  refine zk_aload_n (q := 23) g 1 dX4_init_22 rfl rfl rfl ?_
  refine zk_putF (q := 26) (ws' := [(h0, .inr (4, [.ref r1, .null, .null, .ref a6, .int 0, .int 0])), (a6, .inl (E.2.2.2.1, 5, .inl (fun _ => 0)))]) g hin zc_X4 0 0 rfl (by decide) zk_fl_X4_22 rfl rfl rfl rfl (Nat.le_of_ble_eq_true rfl) dX4_init_23 rfl rfl ?_
  refine zk_aload_n (q := 27) g 0 dX4_init_26 rfl rfl rfl ?_
  refine zk_aload_n (q := 28) g 2 dX4_init_27 rfl rfl rfl ?_
  refine zk_putF (q := 31) (ws' := [(h0, .inr (4, [.ref r1, .ref r2, .null, .ref a6, .int 0, .int 0])), (a6, .inl (E.2.2.2.1, 5, .inl (fun _ => 0)))]) g hin zc_X4 0 1 rfl (by decide) zk_fl_X4_26 rfl rfl rfl rfl (Nat.le_of_ble_eq_true rfl) dX4_init_28 rfl rfl ?_
  refine zk_aload_n (q := 32) g 0 dX4_init_31 rfl rfl rfl ?_
  refine zk_aload_n (q := 33) g 3 dX4_init_32 rfl rfl rfl ?_
  refine zk_putF (q := 36) (ws' := [(h0, .inr (4, [.ref r1, .ref r2, .ref r3, .ref a6, .int 0, .int 0])), (a6, .inl (E.2.2.2.1, 5, .inl (fun _ => 0)))]) g hin zc_X4 0 2 rfl (by decide) zk_fl_X4_30 rfl rfl rfl rfl (Nat.le_of_ble_eq_true rfl) dX4_init_33 rfl rfl ?_
  exact zk_vret g hr hlk a6 trivial [0, 1] rfl rfl (by decide) dX4_init_36
theorem zk_ob_X1_3 : Cond.methodLink RX1 3 objectInit ∈ zw_tb := zm 294 (by decide +kernel) rfl
theorem zk_fl_X1_9 : Cond.fieldLink RX1 9 (TX1 0).1 (TX1 0).2.1 (TX1 0).2.2.1 ∈ zw_tb := zm 295 (by decide +kernel) rfl
theorem zk_fl_X1_15 : Cond.fieldLink RX1 15 (TX1 1).1 (TX1 1).2.1 (TX1 1).2.2.1 ∈ zw_tb := zm 296 (by decide +kernel) rfl
theorem zk_fl_X1_19 : Cond.fieldLink RX1 19 (TX1 2).1 (TX1 2).2.1 (TX1 2).2.2.1 ∈ zw_tb := zm 297 (by decide +kernel) rfl
def mt_X1_init : zw_Mt := (yX1_init, cX1_init, 4, none, 1, 20)
theorem zv_X1_init : zw_Mi mt_X1_init 3 := ⟨⟨zm 293 (by decide +kernel) rfl, zm 70 (by decide +kernel) rfl, by decide +kernel, by decide +kernel, by decide +kernel⟩, zm 292 (by decide +kernel) rfl, rfl, rfl⟩
set_option maxRecDepth 100000 in
set_option maxHeartbeats 4000000 in
theorem zk_c_X1 (l : Launch) (E : zw_En) (h0 r1 r2 r3 : Nat) : zk_Ct l E mt_X1_init 0 0 [.ref h0, .ref r1, .ref r2, .ref r3] [(h0, .inr (1, [.null, .null, .null]))] (fun _ : Unit => True) (fun u : Unit => [(h0, .inr (1, [.ref r1, .ref r2, .ref r3]))]) := by
  refine zk_ct (lv0 := [(0, .ref h0), (1, .ref r1), (2, .ref r2), (3, .ref r3)]) (by decide) rfl rfl (Nat.le_of_ble_eq_true rfl) (fun p e s m args below meth c A g hr hlk hin => ?_)
  replace g : zk_G p E A s m args c RX1 cX1_init 4 := g
  replace hr : meth.sig.returnType = none := hr
  show zk_W p l e { frames := 1, cells := 0, slots := 0, locals := 20 } s m args below meth c 0 0 _ E A 4 0 [(0, .ref h0), (1, .ref r1), (2, .ref r2), (3, .ref r3)] [] [(h0, .inr (1, [.null, .null, .null]))]
  refine zk_aload_n (q := 1) g 0 dX1_init_0 rfl rfl rfl ?_
  refine zk_obj (q := 4) g zk_ob_X1_3 dX1_init_1 rfl ⟨Nat.le_of_ble_eq_true rfl, Nat.le_of_ble_eq_true rfl⟩ (by decide) ?_
  refine zk_aload_n (q := 5) g 0 dX1_init_4 rfl rfl rfl ?_
  refine zk_aload_n (q := 6) g 1 dX1_init_5 rfl rfl rfl ?_
  refine zk_putF (q := 9) (ws' := [(h0, .inr (1, [.ref r1, .null, .null]))]) g hin zc_X1 0 0 rfl (by decide) zk_fl_X1_9 rfl rfl rfl rfl (Nat.le_of_ble_eq_true rfl) dX1_init_6 rfl rfl ?_
  refine zk_aload_n (q := 10) g 0 dX1_init_9 rfl rfl rfl ?_
  refine zk_aload_n (q := 11) g 2 dX1_init_10 rfl rfl rfl ?_
  refine zk_putF (q := 14) (ws' := [(h0, .inr (1, [.ref r1, .ref r2, .null]))]) g hin zc_X1 0 1 rfl (by decide) zk_fl_X1_15 rfl rfl rfl rfl (Nat.le_of_ble_eq_true rfl) dX1_init_11 rfl rfl ?_
  refine zk_aload_n (q := 15) g 0 dX1_init_14 rfl rfl rfl ?_
  refine zk_aload_n (q := 16) g 3 dX1_init_15 rfl rfl rfl ?_
  refine zk_putF (q := 19) (ws' := [(h0, .inr (1, [.ref r1, .ref r2, .ref r3]))]) g hin zc_X1 0 2 rfl (by decide) zk_fl_X1_19 rfl rfl rfl rfl (Nat.le_of_ble_eq_true rfl) dX1_init_16 rfl rfl ?_
  exact zk_vret g hr hlk () trivial [0] rfl rfl (by decide) dX1_init_19
def zk_L0 : List Nat := [0, 1, 2, 3, 4, 5, 6, 7, 8, 9, 10, 11, 12, 13, 14, 15, 16, 17, 18, 19, 20, 21, 22, 23, 24, 25, 26, 27, 28, 29, 30]
def zk_L1 : List Nat := [31, 32, 33, 34, 35, 36, 37, 38, 39, 40, 41, 42, 43, 44, 45, 46, 47]
