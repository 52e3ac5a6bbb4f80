/-! THE START -/
theorem zk_cg : pq_cg 9 zk_hF = pq_cg 9 zk_h1 := by
  funext k
  unfold pq_cg
  rfl
theorem zk_c {k : Nat} (hk : k < 22) : pq_xr (pq_cg 9 zk_hF) k = pz_c0 0 0 0 k := by
  unfold pq_xr
  by_cases q : k = 21
  · subst q; rfl
  · rw [if_neg q, zk_cg]
    exact pq_cg_cp (t := 9) (pz_c0 0 0 0) zk_h0 hk
theorem zk_Sn : pq_Sn 0 0 0 (zk_hF.1 6 7) (pq_cg 9 zk_hF) (zk_hF.1 37) := by
  have p5 : ∀ b, b < 4 → pq_xr (pq_cg 9 zk_hF) (b + 5) = 10 := fun b hb => by
    rw [zk_c (by omega)]
    rcases (show b = 0 ∨ b = 1 ∨ b = 2 ∨ b = 3 by omega) with rfl | rfl | rfl | rfl <;> rfl
  have p9 : ∀ b, b < 4 → pq_xr (pq_cg 9 zk_hF) (b + 9) = 0 := fun b hb => by
    rw [zk_c (by omega)]
    rcases (show b = 0 ∨ b = 1 ∨ b = 2 ∨ b = 3 by omega) with rfl | rfl | rfl | rfl <;> rfl
  have p13 : ∀ b, b < 4 → pq_xr (pq_cg 9 zk_hF) (b + 13) = 0 := fun b hb => by
    rw [zk_c (by omega)]
    rcases (show b = 0 ∨ b = 1 ∨ b = 2 ∨ b = 3 by omega) with rfl | rfl | rfl | rfl <;> rfl
  have pz : ∀ k, 17 ≤ k → k ≤ 20 → pq_xr (pq_cg 9 zk_hF) k = 0 := fun k h1 h2 => by
    rw [zk_c (by omega)]
    rcases (show k = 17 ∨ k = 18 ∨ k = 19 ∨ k = 20 by omega) with rfl | rfl | rfl | rfl <;> rfl
  refine ⟨⟨⟨id, fun s hs => ⟨?_, hs⟩, fun s s' _ _ h => h, fun s hs => absurd hs (Nat.not_lt_zero s)⟩, ⟨fun b hb => Or.inr (Or.inr (Or.inr (p5 b hb))), fun b hb _ => p5 b hb, fun a b ha hb _ _ => ?_, fun b hb => ⟨0, by omega, p9 b hb⟩⟩, ⟨⟨0, by decide, pz 17 (by omega) (by omega)⟩, ⟨0, by omega, pz 18 (by omega) (by omega)⟩⟩, ⟨⟨0, by omega, pz 19 (by omega) (by omega)⟩, ⟨0, by omega, pz 20 (by omega) (by omega)⟩⟩⟩, ⟨fun b hb => ⟨fun _ => p9 b hb, fun _ => p13 b hb⟩, fun b hb => absurd hb (Nat.not_lt_zero b)⟩, ⟨fun s hs => absurd hs (Nat.not_lt_zero s), fun b hb => absurd hb (Nat.not_lt_zero b), fun k h1 h2 => ?_⟩⟩
  · rw [zk_c (by omega)]
    unfold pz_c0
    rw [if_pos hs]
    rfl
  · rw [p5 a ha]; decide
  · rw [pz k h1 h2]; rfl
theorem zk_I0 : pq_I 0 0 0 zk_hF := by
  refine ⟨⟨rfl, by omega, by omega, fun b hb => absurd hb (Nat.not_lt_zero b), ⟨0, by omega, rfl⟩, ⟨0, by omega, rfl⟩⟩, rfl, ⟨rfl, rfl, rfl, rfl, fun k hk => absurd hk (Nat.not_lt_zero k), fun k hk => absurd hk (Nat.not_lt_zero k)⟩, rfl, zk_Sn, ⟨0, 0, by omega, by omega, rfl, rfl, rfl, fun j hj => absurd hj (Nat.not_lt_zero j)⟩, ⟨false, false, rfl, rfl, rfl, (fun h => by cases h), (fun h => by cases h)⟩, ⟨0, by omega, rfl, rfl, fun k hk => absurd hk (Nat.not_lt_zero k)⟩, ⟨0, by omega, rfl, rfl, fun k hk => absurd hk (Nat.not_lt_zero k)⟩, rfl⟩
theorem zk_e0 (E : zw_En) (u : Nat → Nat) (L : List Nat) : zw_ent (E.1, u, L, E.2.2.2) zk_hF 0 = .inr (8, [.ref (u 1), .ref (u 3), .ref (u 6), .ref (u 9), .ref (u 19), .ref (u 22), .int 0, .ref (u 24), .ref (u 28), .ref (u 30), .long 0]) := by
  rw [zw_ent_ob zs_0]
  simp only [List.mapIdx_cons, List.mapIdx_nil, zw_fv] <;> rfl
theorem zk_e1 (E : zw_En) (u : Nat → Nat) (L : List Nat) : zw_ent (E.1, u, L, E.2.2.2) zk_hF 1 = .inr (7, [.ref (u 2), .int 0]) := by
  rw [zw_ent_ob zs_1]
  simp only [List.mapIdx_cons, List.mapIdx_nil, zw_fv] <;> rfl
theorem zk_e3 (E : zw_En) (u : Nat → Nat) (L : List Nat) : zw_ent (E.1, u, L, E.2.2.2) zk_hF 3 = .inr (2, [.ref (u 4), .ref (u 5), .int 0, .int 0, .int 0, .int 0, .int 0, .int 0, .int 0]) := by
  rw [zw_ent_ob zs_3]
  simp only [List.mapIdx_cons, List.mapIdx_nil, zw_fv] <;> rfl
theorem zk_e6 (E : zw_En) (u : Nat → Nat) (L : List Nat) : zw_ent (E.1, u, L, E.2.2.2) zk_hF 6 = .inr (2, [.ref (u 7), .ref (u 8), .int 0, .int 0, .int 0, .int 0, .int 0, .int 0, .int 0]) := by
  rw [zw_ent_ob zs_6]
  simp only [List.mapIdx_cons, List.mapIdx_nil, zw_fv] <;> rfl
theorem zk_e9 (E : zw_En) (u : Nat → Nat) (L : List Nat) : zw_ent (E.1, u, L, E.2.2.2) zk_hF 9 = .inr (3, [.ref (u 6), .ref (u 10), .ref (u 11), .ref (u 12), .ref (u 13), .int (zk_h1.1 9 5), .int (zk_h1.1 9 6), .int (zk_h1.1 9 7), .int (zk_h1.1 9 8), .int (zk_h1.1 9 9)]) := by
  rw [zw_ent_ob zs_9]
  simp only [List.mapIdx_cons, List.mapIdx_nil, zw_fv] <;> rfl
theorem zk_e14 (E : zw_En) (u : Nat → Nat) (L : List Nat) : zw_ent (E.1, u, L, E.2.2.2) zk_hF 14 = .inr (3, [.ref (u 6), .ref (u 15), .ref (u 16), .ref (u 17), .ref (u 18), .int (zk_h1.1 9 5), .int (zk_h1.1 9 6), .int (zk_h1.1 9 7), .int (zk_h1.1 9 8), .int (zk_h1.1 9 9)]) := by
  rw [zw_ent_ob zs_14]
  simp only [List.mapIdx_cons, List.mapIdx_nil, zw_fv] <;> rfl
theorem zk_e19 (E : zw_En) (u : Nat → Nat) (L : List Nat) : zw_ent (E.1, u, L, E.2.2.2) zk_hF 19 = .inr (0, [.ref (u 20), .int 0, .int 0]) := by
  rw [zw_ent_ob zs_19]
  simp only [List.mapIdx_cons, List.mapIdx_nil, zw_fv] <;> rfl
theorem zk_e20 (E : zw_En) (u : Nat → Nat) (L : List Nat) : zw_ent (E.1, u, L, E.2.2.2) zk_hF 20 = .inr (5, [.ref (u 21)]) := by
  rw [zw_ent_ob zs_20]
  simp only [List.mapIdx_cons, List.mapIdx_nil, zw_fv] <;> rfl
theorem zk_e22 (E : zw_En) (u : Nat → Nat) (L : List Nat) : zw_ent (E.1, u, L, E.2.2.2) zk_hF 22 = .inr (5, [.ref (u 23)]) := by
  rw [zw_ent_ob zs_22]
  simp only [List.mapIdx_cons, List.mapIdx_nil, zw_fv] <;> rfl
theorem zk_e24 (E : zw_En) (u : Nat → Nat) (L : List Nat) : zw_ent (E.1, u, L, E.2.2.2) zk_hF 24 = .inr (6, [.ref (u 25), .ref (u 26), .ref (u 27), .int 0]) := by
  rw [zw_ent_ob zs_24]
  simp only [List.mapIdx_cons, List.mapIdx_nil, zw_fv] <;> rfl
theorem zk_e28 (E : zw_En) (u : Nat → Nat) (L : List Nat) : zw_ent (E.1, u, L, E.2.2.2) zk_hF 28 = .inr (4, [.ref (u 6), .ref (u 9), .ref (u 14), .ref (u 29), .int 0, .int 0]) := by
  rw [zw_ent_ob zs_28]
  simp only [List.mapIdx_cons, List.mapIdx_nil, zw_fv] <;> rfl
theorem zk_e30 (E : zw_En) (u : Nat → Nat) (L : List Nat) : zw_ent (E.1, u, L, E.2.2.2) zk_hF 30 = .inr (1, [.ref (u 6), .ref (u 9), .ref (u 14)]) := by
  rw [zw_ent_ob zs_30]
  simp only [List.mapIdx_cons, List.mapIdx_nil, zw_fv] <;> rfl
set_option maxRecDepth 100000 in
set_option maxHeartbeats 4000000 in
theorem zk_L0_ws (E : zw_En) (u : Nat → Nat) : zw_ws (E.1, u, zk_L0, E.2.2.2) zk_hF = [(u 0, .inr (8, [.ref (u 1), .ref (u 3), .ref (u 6), .ref (u 9), .ref (u 19), .ref (u 22), .int 0, .ref (u 24), .ref (u 28), .ref (u 30), .long 0])), (u 1, .inr (7, [.ref (u 2), .int 0])), (u 2, .inl (E.2.2.2.1, 36, .inl (fun _ => 0))), (u 3, .inr (2, [.ref (u 4), .ref (u 5), .int 0, .int 0, .int 0, .int 0, .int 0, .int 0, .int 0])), (u 4, .inl (E.2.2.2.1, 5, .inl (fun _ => 0))), (u 5, .inl (E.2.2.2.1, 4, .inl (fun _ => 0))), (u 6, .inr (2, [.ref (u 7), .ref (u 8), .int 0, .int 0, .int 0, .int 0, .int 0, .int 0, .int 0])), (u 7, .inl (E.2.2.2.1, 5, .inl (fun _ => 0))), (u 8, .inl (E.2.2.2.1, 4, .inl (fun _ => 0))), (u 9, .inr (3, [.ref (u 6), .ref (u 10), .ref (u 11), .ref (u 12), .ref (u 13), .int (zk_h1.1 9 5), .int (zk_h1.1 9 6), .int (zk_h1.1 9 7), .int (zk_h1.1 9 8), .int (zk_h1.1 9 9)])), (u 10, .inl (E.2.2.2.1, 5, .inl (zk_h1.1 10))), (u 11, .inl (E.2.2.2.1, 4, .inl (zk_h1.1 11))), (u 12, .inl (E.2.2.2.1, 4, .inl (zk_h1.1 12))), (u 13, .inl (E.2.2.2.1, 4, .inl (zk_h1.1 13))), (u 14, .inr (3, [.ref (u 6), .ref (u 15), .ref (u 16), .ref (u 17), .ref (u 18), .int (zk_h1.1 9 5), .int (zk_h1.1 9 6), .int (zk_h1.1 9 7), .int (zk_h1.1 9 8), .int (zk_h1.1 9 9)])), (u 15, .inl (E.2.2.2.1, 5, .inl (zk_h1.1 10))), (u 16, .inl (E.2.2.2.1, 4, .inl (zk_h1.1 11))), (u 17, .inl (E.2.2.2.1, 4, .inl (zk_h1.1 12))), (u 18, .inl (E.2.2.2.1, 4, .inl (zk_h1.1 13))), (u 19, .inr (0, [.ref (u 20), .int 0, .int 0])), (u 20, .inr (5, [.ref (u 21)])), (u 21, .inl (E.2.2.2.1, 294, .inl (fun _ => 0))), (u 22, .inr (5, [.ref (u 23)])), (u 23, .inl (E.2.2.2.1, 42, .inl (fun _ => 0))), (u 24, .inr (6, [.ref (u 25), .ref (u 26), .ref (u 27), .int 0])), (u 25, .inl (E.2.2.2.1, 6, .inl (fun _ => 0))), (u 26, .inl (E.2.2.2.1, 6, .inl (fun _ => 0))), (u 27, .inl (E.2.2.2.1, 6, .inl (fun _ => 0))), (u 28, .inr (4, [.ref (u 6), .ref (u 9), .ref (u 14), .ref (u 29), .int 0, .int 0])), (u 29, .inl (E.2.2.2.1, 5, .inl (fun _ => 0))), (u 30, .inr (1, [.ref (u 6), .ref (u 9), .ref (u 14)]))] := by
  unfold zw_ws zk_L0
  simp only [List.map_cons, List.map_nil, zk_e0, zk_e1, zk_e3, zk_e6, zk_e9, zk_e14, zk_e19, zk_e20, zk_e22, zk_e24, zk_e28, zk_e30]
  rfl
set_option maxRecDepth 100000 in
set_option maxHeartbeats 4000000 in
theorem zk_LL (E : zw_En) (u v : Nat → Nat) : zw_ws (E.1, u, zk_L0, E.2.2.2) zk_hF ++ zw_ws (E.1, v, zk_L1, E.2.2.2) zk_hF = zw_ws (E.1, fun j => if j < 31 then u j else v j, zk_L0 ++ zk_L1, E.2.2.2) zk_hF := by
  have e : zw_ws (E.1, fun j => if j < 31 then u j else v j, zk_L0 ++ zk_L1, E.2.2.2) zk_hF = zw_ws (E.1, fun j => if j < 31 then u j else v j, zk_L0, E.2.2.2) zk_hF ++ zw_ws (E.1, fun j => if j < 31 then u j else v j, zk_L1, E.2.2.2) zk_hF := List.map_append
  rw [e, zk_L0_ws, zk_L0_ws, zk_L1_ws, zk_L1_ws]
  rfl
section
variable {p : Program} {l : Launch} {e : Env} {R : Room} {s : State} {m : MethodId} {args : Array Value} {below : List Frame} {meth : Method} {c : Code} {cells slots : Nat} {Q : State → Prop} {E : zw_En} {A : Nat → Prop} {own : String} {cc : ByteArray} {nL pc : Nat} {lv : List (Nat × Value)} {rest : List Value}
theorem zk_to2 (g : zk_G p E A s m args c own cc nL) {L : List Nat} {ad : Nat → Nat} {h : zw_Hp} (hL : L.Nodup) (k : zw_Ok (E.1, ad, L, E.2.2.2) → zw_G p (E.1, ad, L, E.2.2.2) A s m args c own cc nL → zw_W p l e R s m args below meth c cells slots Q (E.1, ad, L, E.2.2.2) A nL pc lv rest h) : zk_W p l e R s m args below meth c cells slots Q E A nL pc lv rest (zw_ws (E.1, ad, L, E.2.2.2) h) := by
  intro H locs ls hs hP hD hS
  have ok : zw_Ok (E.1, ad, L, E.2.2.2) := by
    refine ⟨hL, fun i hi j hj he => ?_⟩
    obtain ⟨a, ha⟩ := List.getElem?_of_mem hi
    obtain ⟨b, hb⟩ := List.getElem?_of_mem hj
    have hab := hD.1 a b _ _ (zw_ws_at (E := (E.1, ad, L, E.2.2.2)) (h := h) ha) (zw_ws_at (E := (E.1, ad, L, E.2.2.2)) (h := h) hb) he
    subst hab
    exact Option.some.inj (ha.symm.trans hb)
  have hA : ∀ q, zw_A (E.1, ad, L, E.2.2.2) q → A q := by
    rintro q ⟨i, hi, rfl⟩
    obtain ⟨a, ha⟩ := List.getElem?_of_mem hi
    exact hD.2 a _ (zw_ws_at (E := (E.1, ad, L, E.2.2.2)) (h := h) ha)
  exact k ok ⟨g.1, g.2.1, g.2.2.1, g.2.2.2.1, g.2.2.2.2.1, g.2.2.2.2.2.1, fun h => zw_ws_D ok hA h, hA⟩ H locs ls hs hP hS
end
theorem zk_nest : ∀ q ∈ zw_nest, zw_nestw q ∈ lw_tbl := List.forall_mem_cons.mpr ⟨List.mem_of_getElem? (i := 85) (by decide +kernel), List.forall_mem_cons.mpr ⟨List.mem_of_getElem? (i := 102) (by decide +kernel), List.forall_mem_cons.mpr ⟨List.mem_of_getElem? (i := 215) (by decide +kernel), List.forall_mem_cons.mpr ⟨List.mem_of_getElem? (i := 244) (by decide +kernel), List.forall_mem_cons.mpr ⟨List.mem_of_getElem? (i := 620) (by decide +kernel), List.forall_mem_cons.mpr ⟨List.mem_of_getElem? (i := 676) (by decide +kernel), fun _ h => absurd h List.not_mem_nil⟩⟩⟩⟩⟩⟩
theorem zk_arr {args : Array Value} {s : State} {ty : FieldType} (hp : ∀ C, ty ≠ .object C) (h : (Cond.arrayClass ty).before args s = true) : ∃ cA, ArrOfT s cA ty ∧ va_RA s cA ty := by
  obtain ⟨cA, kA, comp, h1, h2, h3⟩ := Cond.arrayClass_spec h
  refine ⟨cA, fun n z => ⟨fun k h => (by cases h), kA, h2, comp, h3⟩, ?_⟩
  cases ty with
  | object C => exact absurd rfl (hp C)
  | _ => exact h1
theorem zk_cl_L_7 : Cond.classLink RL 7 RX8 ∈ zw_tb := zm 75 (by decide +kernel) rfl
theorem zk_cl_L_10 : Cond.classLink RL 10 RX9 ∈ zw_tb := zm 779 (by decide +kernel) rfl
theorem zk_il_L_9 : Cond.methodLink RL 9 yX8_init ∈ zw_tb := zm 77 (by decide +kernel) rfl
theorem zk_il_L_12 : Cond.methodLink RL 12 yX9_init ∈ zw_tb := zm 781 (by decide +kernel) rfl
theorem zk_in_X8 : Cond.instantiable RX8 11 ∈ zw_tb := zm 76 (by decide +kernel) rfl
theorem zk_ini_X8 : Cond.initialized RX8 ∈ zw_tb := zm 62 (by decide +kernel) rfl
theorem zk_in_X9 : Cond.instantiable RX9 38 ∈ zw_tb := zm 780 (by decide +kernel) rfl
theorem zk_ini_X9 : Cond.initialized RX9 ∈ zw_tb := zm 71 (by decide +kernel) rfl
set_option maxRecDepth 100000 in
set_option maxHeartbeats 4000000 in
theorem zk_law {p : Program} {e : Env} {s : State} {m : MethodId} {below : List Frame} {meth : Method} {c : Code} (l : Launch) {b L : Nat} {xs : Nat → Int32} (hL : L ≤ 2048) (C0 : lw_At p s m meth c b L xs) {E : zw_En} (g : zk_G p E (fun q : Nat => s.heap.size ≤ q) s m #[Value.ref b] c RL cL_law 4) : zk_W p l e room_1 s m #[Value.ref b] below meth c 0 0 (lw_Z below #[Value.ref b] s) E (fun q : Nat => s.heap.size ≤ q) 4 0 [(0, .ref b)] [] [] := by
  refine zk_new (q := 3) (fs := [.null, .null, .null, .null, .null, .null, .int 0, .null, .null, .null, .long 0]) (cells' := 1) (slots' := 11) (W' := fun a0 => [(a0, .inr (8, [.null, .null, .null, .null, .null, .null, .int 0, .null, .null, .null, .long 0]))]) g zc_X8 zk_cl_L_7 zk_in_X8 zk_ini_X8 zk_dfX8 ⟨rfl, rfl⟩ ⟨Nat.le_of_ble_eq_true rfl, Nat.le_of_ble_eq_true rfl⟩ dL_law_0 rfl (fun _ => rfl) (fun a0 => ?_)
  refine zk_dup (q := 4) g dL_law_3 rfl rfl ?_
  refine zk_callI (q := 7) (cells' := 31) (slots' := 516) (As := []) (rest := [.ref a0]) (wr := []) g (zk_c_X8 l E a0) zv_X8_init zk_il_L_9 [0] [] rfl rfl rfl (by decide) (by decide) (by decide) rfl rfl (Nat.le_of_ble_eq_true rfl) ⟨Nat.le_of_ble_eq_true rfl, Nat.le_of_ble_eq_true rfl⟩ ⟨rfl, rfl⟩ ⟨Nat.le_of_ble_eq_true rfl, Nat.le_of_ble_eq_true rfl⟩ dL_law_4 rfl (fun u hu => ?_)
  refine zk_ws (zw_ws (E.1, u, zk_L0, E.2.2.2) zk_hF) rfl ?_
  refine zk_astore_n (q := 8) (lv' := [(1, .ref a0), (0, .ref b)]) g dL_law_7 rfl rfl (by decide) rfl ?_
  refine zk_new (q := 11) (fs := [.int 0, .null, .int 0, .int 0, .int 0, .int 0, .int 0, .null, .int 0, .null, .int 0, .int 0, .int 0, .int 0, .null, .int 0, .null, .int 0, .null, .null, .null, .int 0, .null, .null, .int 0, .null, .null, .null, .long 0, .int 0, .int 0, .int 0, .int 0, .int 0, .int 0, .null, .null, .null]) (cells' := 32) (slots' := 554) (W' := fun a8 => zw_ws (E.1, u, zk_L0, E.2.2.2) zk_hF ++ [(a8, .inr (9, [.int 0, .null, .int 0, .int 0, .int 0, .int 0, .int 0, .null, .int 0, .null, .int 0, .int 0, .int 0, .int 0, .null, .int 0, .null, .int 0, .null, .null, .null, .int 0, .null, .null, .int 0, .null, .null, .null, .long 0, .int 0, .int 0, .int 0, .int 0, .int 0, .int 0, .null, .null, .null]))]) g zc_X9 zk_cl_L_10 zk_in_X9 zk_ini_X9 zk_dfX9 ⟨rfl, rfl⟩ ⟨Nat.le_of_ble_eq_true rfl, Nat.le_of_ble_eq_true rfl⟩ dL_law_8 rfl (fun _ => rfl) (fun a8 => ?_)
  refine zk_dup (q := 12) g dL_law_11 rfl rfl ?_
  refine zk_callI (q := 15) (cells' := 48) (slots' := 1035) (As := []) (rest := [.ref a8]) (wr := zw_ws (E.1, u, zk_L0, E.2.2.2) zk_hF) g (zk_c_X9 l E a8) zv_X9_init zk_il_L_12 [31] zk_L0 rfl rfl rfl (by decide) (by decide) (by decide) rfl rfl (Nat.le_of_ble_eq_true rfl) ⟨Nat.le_of_ble_eq_true rfl, Nat.le_of_ble_eq_true rfl⟩ ⟨rfl, rfl⟩ ⟨Nat.le_of_ble_eq_true rfl, Nat.le_of_ble_eq_true rfl⟩ dL_law_12 rfl (fun v hv => ?_)
  refine zk_ws _ (zk_LL E u v) ?_
  refine zk_astore_n (q := 16) (lv' := [(2, .ref a8), (1, .ref a0), (0, .ref b)]) g dL_law_15 rfl rfl (by decide) rfl ?_
  refine zk_iconst (q := 17) (v := 0) g dL_law_16 rfl (by decide) ?_
  refine zk_istore_n (q := 18) (lv' := [(3, .int 0), (2, .ref a8), (1, .ref a0), (0, .ref b)]) g dL_law_17 rfl rfl (by decide) rfl ?_
  refine zk_lv (lv' := [(0, .ref b), (1, .ref a0), (2, .ref a8), (3, .int 0)]) [3, 2, 1, 0] rfl ?_
  refine zk_wide (cells' := NC_L) (slots' := NS_L) (Nat.le_of_ble_eq_true rfl) (Nat.le_of_ble_eq_true rfl) ?_
  refine zk_to2 g (by decide) (fun ok g2 => ?_)
  subst hu
  subst hv
  exact UL_L_law_18 ok (show ∀ i, i < 48 → i ∈ zk_L0 ++ zk_L1 by decide) g2 C0 (Nat.le_of_ble_eq_true rfl) (0, zk_hF) 1 (pq_lawR hL xs zk_I0) rfl
set_option maxRecDepth 100000 in
set_option maxHeartbeats 4000000 in
theorem whole_start {p : Program} {e : Env} {s : State} {m : MethodId} {below : List Frame} {meth : Method} {c : Code} (l : Launch) (hflags : l.flags = flags0) {b L : Nat} {xs : Nat → Int32} (hL : L ≤ 2048) (C0 : lw_At p s m meth c b L xs) : W p l e room_1 s m #[Value.ref b] below meth c s.heap [] 0 0 (lw_Z below #[Value.ref b] s) (entryFrame m ([Value.ref b] : List Value).toArray 4) := by
  obtain ⟨hx, hb, hr, hml, hown, hts, hX, hbl, hlocks, hgv⟩ := id C0
  have ht : ∀ w ∈ zw_tb, w.before #[Value.ref b] s = true := fun w hw => hts w (zw_tb_in hw)
  obtain ⟨cX0, iX0, kX0⟩ := u_known (C := RX0) (T := TX0) (N := 3) (n := 3) ht zc_X0.2.1 (ht _ zk_in_X0)
  obtain ⟨cX1, iX1, kX1⟩ := u_known (C := RX1) (T := TX1) (N := 3) (n := 3) ht zc_X1.2.1 (ht _ zk_in_X1)
  obtain ⟨cX2, iX2, kX2⟩ := u_known (C := RX2) (T := TX2) (N := 9) (n := 9) ht zc_X2.2.1 (ht _ zk_in_X2)
  obtain ⟨cX3, iX3, kX3⟩ := u_known (C := RX3) (T := TX3) (N := 10) (n := 10) ht zc_X3.2.1 (ht _ zk_in_X3)
  obtain ⟨cX4, iX4, kX4⟩ := u_known (C := RX4) (T := TX4) (N := 6) (n := 6) ht zc_X4.2.1 (ht _ zk_in_X4)
  obtain ⟨cX5, iX5, kX5⟩ := u_known (C := RX5) (T := TX5) (N := 1) (n := 1) ht zc_X5.2.1 (ht _ zk_in_X5)
  obtain ⟨cX6, iX6, kX6⟩ := u_known (C := RX6) (T := TX6) (N := 4) (n := 4) ht zc_X6.2.1 (ht _ zk_in_X6)
  obtain ⟨cX7, iX7, kX7⟩ := u_known (C := RX7) (T := TX7) (N := 2) (n := 2) ht zc_X7.2.1 (ht _ zk_in_X7)
  obtain ⟨cX8, iX8, kX8⟩ := u_known (C := RX8) (T := TX8) (N := 11) (n := 11) ht zc_X8.2.1 (ht _ zk_in_X8)
  obtain ⟨cX9, iX9, kX9⟩ := u_known (C := RX9) (T := TX9) (N := 38) (n := 38) ht zc_X9.2.1 (ht _ zk_in_X9)
  obtain ⟨dC, dI, hKc⟩ : ∃ (dC : Nat → ClassId) (dI : Nat → Nat → Nat), ∀ (k : Nat) (q : vw_C), vwCl[k]? = some q → u_Kn s q.1 q.2.1 q.2.2 (dC k) (dI k) := by
    refine ⟨fun k => if k = 0 then cX0 else if k = 1 then cX1 else if k = 2 then cX2 else if k = 3 then cX3 else if k = 4 then cX4 else if k = 5 then cX5 else if k = 6 then cX6 else if k = 7 then cX7 else if k = 8 then cX8 else cX9, fun k => if k = 0 then iX0 else if k = 1 then iX1 else if k = 2 then iX2 else if k = 3 then iX3 else if k = 4 then iX4 else if k = 5 then iX5 else if k = 6 then iX6 else if k = 7 then iX7 else if k = 8 then iX8 else iX9, ?_⟩
    intro k q hq
    match k, hq with
    | 0, hq => cases hq; exact kX0
    | 1, hq => cases hq; exact kX1
    | 2, hq => cases hq; exact kX2
    | 3, hq => cases hq; exact kX3
    | 4, hq => cases hq; exact kX4
    | 5, hq => cases hq; exact kX5
    | 6, hq => cases hq; exact kX6
    | 7, hq => cases hq; exact kX7
    | 8, hq => cases hq; exact kX8
    | 9, hq => cases hq; exact kX9
    | k + 10, hq => simp [vwCl] at hq
  obtain ⟨cI, kI⟩ := zk_arr (fun C q => by cases q) (ht _ zk_ai)
  obtain ⟨cZ, kZ⟩ := zk_arr (fun C q => by cases q) (ht _ zk_az)
  have hK : zw_K ((dC, dI), fun _ => 0, [], cI, cZ) s := by
    refine ⟨⟨hKc, fun k q hq => ?_⟩, fun q hq => va_Nw.of rfl (hts _ (zk_nest q hq))⟩
    match k, hq with
    | 0, hq => cases hq; exact kI
    | 1, hq => cases hq; exact kZ
    | k + 2, hq => simp [zw_tys] at hq
  have hl := lv_entry ([.ref b]) (n := 4) (Nat.le_of_ble_eq_true rfl)
  rw [lg_entry_eq]
  exact zk_law l hL C0 (E := ((dC, dI), fun _ => 0, [], cI, cZ)) ⟨hx, hb, hml, hown, ht, hK, fun q h => h⟩ s.heap [] _ hl (fun k q h => by simp at h) ⟨fun i j p q h => by simp at h, fun k q h => by simp at h⟩ va_S.rf
