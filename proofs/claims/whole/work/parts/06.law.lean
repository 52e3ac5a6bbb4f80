-- ===== end of PART A; then your names; then what follows =====
/-! THE CLAIM OUT OF ONE WALK OF THE LAW'S BODY. Your part is whole_start (and what it stands on); all else here is the same for every law, but numbers. -/
def R_law : String := "BucketChainLaw"
def lw_P (b : Addr) (xs : List Int32) (args : Array Value) (s : State) : Prop := args = #[.ref b] ∧ s.IntsAt b xs ∧ xs.length ≤ 2048 ∧ (Jvm.Cond.and given_1 narrow_1).before args s = true
def lw_Q (_ : Array Value) (s : State) (o : Outcome) (t : State) : Prop := o = .returned (some (.int 1)) ∧ Framed s o t [] 600000 7302250
def lw_Z (below : List Frame) (a : Array Value) (s : State) : State → Prop := fun t => ∃ o, t.status = .running ∧ Ended t below o ∧ lw_Q a s o t
/-- the law's own end, with 1 on the stack, nothing written that was there before, its room as the claim has it -/
theorem lw_ret {p : Program} {l : Launch} {e : Env} {s : State} {m : MethodId} {below : List Frame} {meth : Method} {c : Code} {b : Nat} (hx : p.tables.exec = Jvm.exec) (hb : c.code = code) (hr : meth.sig.returnType = ret) (hlocks : meth.locks = false) {pc : Nat} {H : Heap} {ls : Array Slot} (hdg : decode code pc = .ok (.ireturn, 1)) : W p l e room_1 s m #[Value.ref b] below meth c H [] 600000 7302250 (lw_Z below #[Value.ref b] s) (F0 m pc ls [.int 1]) := by
  intro T hT X
  obtain ⟨fs, hret, hrun, hended, hW, hframe⟩ := X.leave (v := some (.int 1)) (hlocks := hlocks) (fun h => by rw [hr] at h; cases h)
  have hmeth' : T.vm.method? m = some meth := X.method'
  refine ⟨T.setFrames fs, ?_, .returned (some (.int 1)), hrun, hended, rfl, ⟨_, rfl⟩, hW, hframe⟩
  jvm_step X.here [X.here.top, hx, hb, hdg, hmeth', hr, ret, narrow_b1]
  (try refine ⟨rfl, ?_⟩); (try refine ⟨rfl, ?_⟩)
  first | (intro acts; rw [hret _ acts rfl rfl rfl]) | rw [hret _ _ rfl rfl rfl]
  exact Steps.refl _
/-- what holds at the law's entry: the machine, the code, the tables' words (any of lw_tbl by 'hts w (by decide +kernel)'), the script of L ints xs at the cell b, what the Statement gives of the start (any of its parts by flat_of_before) -/
def lw_At (p : Program) (s : State) (m : MethodId) (meth : Method) (c : Code) (b L : Nat) (xs : Nat → Int32) : Prop :=
  p.tables.exec = Jvm.exec ∧ c.code = code ∧ meth.sig.returnType = ret ∧ c.maxLocals = 4 ∧ s.vm.findClass R_law = some m.cls ∧ (∀ w ∈ lw_tbl, w.before #[Value.ref b] s = true) ∧ va_X b L xs s s.heap ∧ b < s.heap.size ∧ meth.locks = false ∧ (Jvm.Cond.and given_1 narrow_1).before #[Value.ref b] s = true
def NC_L : Nat := 48
def NS_L : Nat := 2000
section
variable {p : Program} {l : Launch} {e : Env} {R : Room} {s : State} {m : MethodId} {args : Array Value} {below : List Frame} {meth : Method} {c : Code} {cells slots : Nat} {Q : State → Prop} {E : zw_En} {A : Nat → Prop} {own : String} {cc : ByteArray} {nL pc q : Nat} {lv : List (Nat × Value)} {rest : List Value} {h : zw_Hp} {b L : Nat} {xs : Nat → Int32}
theorem zr_slen (g : zw_G p E A s m args c own cc nL) (hX : va_X b L xs s s.heap) (hbl : b < s.heap.size) (hbA : ¬ A b) (hd : decode cc pc = .ok (.arraylength, 1)) (hp : pc + 1 = q) (k : zw_W p l e R s m args below meth c cells slots Q E A nL q lv (.int (Int32.ofNat L) :: rest) h) : zw_W p l e R s m args below meth c cells slots Q E A nL pc lv (.ref b :: rest) h := by
  subst hp
  exact fun H locs ls hs hP hS => va_slen g.1 g.2.1 hX hbl hbA hS hd (k H locs ls hs hP hS)
theorem zr_sld (g : zw_G p E A s m args c own cc nL) {j : Int32} (hX : va_X b L xs s s.heap) (hbl : b < s.heap.size) (hbA : ¬ A b) (hin : zw_ok j L = true) (hd : decode cc pc = .ok (.iaload, 1)) (hp : pc + 1 = q) (k : zw_W p l e R s m args below meth c cells slots Q E A nL q lv (.int (xs j.toNatClampNeg) :: rest) h) : zw_W p l e R s m args below meth c cells slots Q E A nL pc lv (.int j :: .ref b :: rest) h := by
  subst hp
  exact fun H locs ls hs hP hS => va_sld g.1 g.2.1 hX hbl hbA hS (zw_ok_in hin) hd (k H locs ls hs hP hS)
theorem zr_lawret (C0 : lw_At p s m meth c b L xs) (hc : NC_L ≤ 600000) (hd : decode code pc = .ok (.ireturn, 1)) : zw_W p l e room_1 s m #[Value.ref b] below meth c NC_L NS_L (lw_Z below #[Value.ref b] s) E (fun q : Nat => s.heap.size ≤ q) nL pc lv [.int 1] h := by
  obtain ⟨hx, hb, hr, hml, hown, hts, hX, hbl, hlocks, hgv⟩ := C0
  exact fun H locs ls hs hP hS => va_forget (fun q hq => hS.2.2 q hq) (W.widen (k := 600000) (n := 7302250) hc (Nat.le_of_ble_eq_true rfl) (lw_ret hx hb hr hlocks hd))
end
section
variable {p : Program} {l : Launch} {e : Env} {s : State} {m : MethodId} {below : List Frame} {meth : Method} {c : Code} {E : zw_En} {b L : Nat} {xs : Nat → Int32}
noncomputable def B_L_law_977 (L : Nat) (xs : Nat → Int32) (k18 : (Int32 × zw_Hp) → Option (Int32)) (x3 : Int32) (h : zw_Hp) : Option (Int32) :=
  zw_nm (x3 + (4 : Int32)) (fun y234 => k18 (y234, h))
set_option maxRecDepth 100000 in
set_option maxHeartbeats 4000000 in
theorem U_L_law_977 (ok : zw_Ok E) (hI : ∀ i, i < 48 → i ∈ E.2.2.1) (g : zw_G p E (fun q : Nat => s.heap.size ≤ q) s m #[Value.ref b] c RL cL_law 4) (hr : lw_At p s m meth c b L xs) (hlk : NC_L ≤ 600000) {k18 : (Int32 × zw_Hp) → Option (Int32)} (eL18 : ∀ (w : Int32 × zw_Hp) (z : Int32), k18 w = some z → z = 1 → zw_W p l e room_1 s m #[Value.ref b] below meth c NC_L NS_L (lw_Z below #[Value.ref b] s) E (fun q : Nat => s.heap.size ≤ q) 4 18 [(0, .ref b), (1, .ref (E.2.1 0)), (2, .ref (E.2.1 31)), (3, .int w.1)] [] w.2) :
    ∀ (x3 : Int32) (h : zw_Hp) (z : Int32), B_L_law_977 L xs k18 x3 h = some z → z = 1 → zw_W p l e room_1 s m #[Value.ref b] below meth c NC_L NS_L (lw_Z below #[Value.ref b] s) E (fun q : Nat => s.heap.size ≤ q) 4 977 [(0, .ref b), (1, .ref (E.2.1 0)), (2, .ref (E.2.1 31)), (3, .int x3)] [] h := by
  intro x3 h z hM hz
  unfold B_L_law_977 at hM
  obtain ⟨y234, e235, hM⟩ := zw_nm_ex hM
  refine zr_iinc (q := 980) (v := y234) (lv' := [(3, .int y234), (0, .ref b), (1, .ref (E.2.1 0)), (2, .ref (E.2.1 31))]) g 3 dL_law_977 rfl rfl (by rw [e235]; rfl) (by decide) rfl ?_
  refine zr_goto (tgt := 18) g dL_law_980 rfl ?_
  refine zr_lv (lv' := [(0, .ref b), (1, .ref (E.2.1 0)), (2, .ref (E.2.1 31)), (3, .int y234)]) [1, 2, 3, 0] rfl ?_
  exact eL18 _ _ hM hz
noncomputable def B_L_law_665 (L : Nat) (xs : Nat → Int32) (k18 : (Int32 × zw_Hp) → Option (Int32)) (x3 : Int32) (s0 : Int32) (s1 : Int32) (s3 : Int32) (h : zw_Hp) : Option (Int32) :=
  (M_X9_share s1 s0 h).bind (fun z250 => if s3 = z250.1 then (B_L_law_977 L xs k18 x3 z250.2) else (some (0 : Int32)))
set_option maxRecDepth 100000 in
set_option maxHeartbeats 4000000 in
theorem U_L_law_665 (ok : zw_Ok E) (hI : ∀ i, i < 48 → i ∈ E.2.2.1) (g : zw_G p E (fun q : Nat => s.heap.size ≤ q) s m #[Value.ref b] c RL cL_law 4) (hr : lw_At p s m meth c b L xs) (hlk : NC_L ≤ 600000) {k18 : (Int32 × zw_Hp) → Option (Int32)} (eL18 : ∀ (w : Int32 × zw_Hp) (z : Int32), k18 w = some z → z = 1 → zw_W p l e room_1 s m #[Value.ref b] below meth c NC_L NS_L (lw_Z below #[Value.ref b] s) E (fun q : Nat => s.heap.size ≤ q) 4 18 [(0, .ref b), (1, .ref (E.2.1 0)), (2, .ref (E.2.1 31)), (3, .int w.1)] [] w.2) :
    ∀ (x3 : Int32) (s0 : Int32) (s1 : Int32) (s3 : Int32) (h : zw_Hp) (z : Int32), B_L_law_665 L xs k18 x3 s0 s1 s3 h = some z → z = 1 → zw_W p l e room_1 s m #[Value.ref b] below meth c NC_L NS_L (lw_Z below #[Value.ref b] s) E (fun q : Nat => s.heap.size ≤ q) 4 665 [(0, .ref b), (1, .ref (E.2.1 0)), (2, .ref (E.2.1 31)), (3, .int x3)] [.int s0, .int s1, .ref (E.2.1 31), .int s3] h := by
  intro x3 s0 s1 s3 h z hM hz
  unfold B_L_law_665 at hM
  obtain ⟨z250, q251, hM⟩ := zw_bd hM
  refine zr_callV (q := 668) (As := [.int s1, .int s0]) (rest := [.int s3]) (st' := [.int z250.1, .int s3]) (i := 31) g (R_X9_share ok hI q251) zv_X9_share zl_L_95 (hI 31 (by decide)) zs_31 zc_X9.1 dL_law_665 rfl rfl ⟨Nat.le_of_ble_eq_true rfl, Nat.le_of_ble_eq_true rfl⟩ ⟨hlk, Nat.le_of_ble_eq_true rfl⟩ (Nat.le_of_ble_eq_true rfl) rfl rfl ?_
  refine zr_icmp_eq (q := 671) (tgt := 977) g dL_law_668 rfl rfl (fun c252 => ?_) (fun c252 => ?_)
  · replace hM := zw_ift c252 hM
    exact U_L_law_977 ok hI g hr hlk eL18 _ _ _ hM hz
  · replace hM := zw_iff c252 hM
    refine zr_iconst (q := 672) (v := (0 : Int32)) g dL_law_671 rfl (by decide) ?_
    cases hM
    exact absurd hz (by decide)
noncomputable def B_L_law_643 (L : Nat) (xs : Nat → Int32) (k18 : (Int32 × zw_Hp) → Option (Int32)) (x3 : Int32) (s0 : Int32) (s1 : Int32) (h : zw_Hp) : Option (Int32) :=
  (M_X8_share s1 s0 h).bind (fun z245 => if zw_ok (x3 + (1 : Int32)) L = true then (if zw_ok (x3 + (2 : Int32)) L = true then (if (xs ((x3 + (2 : Int32))).toNatClampNeg) = 0 then (B_L_law_665 L xs k18 x3 (0 : Int32) (xs ((x3 + (1 : Int32))).toNatClampNeg) z245.1 z245.2) else (B_L_law_665 L xs k18 x3 (1 : Int32) (xs ((x3 + (1 : Int32))).toNatClampNeg) z245.1 z245.2)) else none) else none)
set_option maxRecDepth 100000 in
set_option maxHeartbeats 4000000 in
theorem U_L_law_643 (ok : zw_Ok E) (hI : ∀ i, i < 48 → i ∈ E.2.2.1) (g : zw_G p E (fun q : Nat => s.heap.size ≤ q) s m #[Value.ref b] c RL cL_law 4) (hr : lw_At p s m meth c b L xs) (hlk : NC_L ≤ 600000) {k18 : (Int32 × zw_Hp) → Option (Int32)} (eL18 : ∀ (w : Int32 × zw_Hp) (z : Int32), k18 w = some z → z = 1 → zw_W p l e room_1 s m #[Value.ref b] below meth c NC_L NS_L (lw_Z below #[Value.ref b] s) E (fun q : Nat => s.heap.size ≤ q) 4 18 [(0, .ref b), (1, .ref (E.2.1 0)), (2, .ref (E.2.1 31)), (3, .int w.1)] [] w.2) :
    ∀ (x3 : Int32) (s0 : Int32) (s1 : Int32) (h : zw_Hp) (z : Int32), B_L_law_643 L xs k18 x3 s0 s1 h = some z → z = 1 → zw_W p l e room_1 s m #[Value.ref b] below meth c NC_L NS_L (lw_Z below #[Value.ref b] s) E (fun q : Nat => s.heap.size ≤ q) 4 643 [(0, .ref b), (1, .ref (E.2.1 0)), (2, .ref (E.2.1 31)), (3, .int x3)] [.int s0, .int s1, .ref (E.2.1 0)] h := by
  intro x3 s0 s1 h z hM hz
  unfold B_L_law_643 at hM
  obtain ⟨z245, q246, hM⟩ := zw_bd hM
  refine zr_callV (q := 646) (As := [.int s1, .int s0]) (rest := []) (st' := [.int z245.1]) (i := 0) g (R_X8_share ok hI q246) zv_X8_share zl_L_91 (hI 0 (by decide)) zs_0 zc_X8.1 dL_law_643 rfl rfl ⟨Nat.le_of_ble_eq_true rfl, Nat.le_of_ble_eq_true rfl⟩ ⟨hlk, Nat.le_of_ble_eq_true rfl⟩ (Nat.le_of_ble_eq_true rfl) rfl rfl ?_
  refine zr_aload_n (q := 647) g 2 dL_law_646 rfl rfl rfl ?_
  refine zr_aload_n (q := 648) g 0 dL_law_647 rfl rfl rfl ?_
  refine zr_iload_n (q := 649) g 3 dL_law_648 rfl rfl rfl ?_
  refine zr_iconst (q := 650) (v := (1 : Int32)) g dL_law_649 rfl (by decide) ?_
  refine zr_iadd (q := 651) g dL_law_650 rfl ?_
  obtain ⟨c247, hM⟩ := zw_gd hM
  refine zr_sld (q := 652) g hr.2.2.2.2.2.2.1 hr.2.2.2.2.2.2.2.1 (Nat.not_le.mpr hr.2.2.2.2.2.2.2.1) c247 dL_law_651 rfl ?_
  refine zr_aload_n (q := 653) g 0 dL_law_652 rfl rfl rfl ?_
  refine zr_iload_n (q := 654) g 3 dL_law_653 rfl rfl rfl ?_
  refine zr_iconst (q := 655) (v := (2 : Int32)) g dL_law_654 rfl (by decide) ?_
  refine zr_iadd (q := 656) g dL_law_655 rfl ?_
  obtain ⟨c248, hM⟩ := zw_gd hM
  refine zr_sld (q := 657) g hr.2.2.2.2.2.2.1 hr.2.2.2.2.2.2.2.1 (Nat.not_le.mpr hr.2.2.2.2.2.2.2.1) c248 dL_law_656 rfl ?_
  refine zr_if_eq (q := 660) (tgt := 664) g dL_law_657 rfl rfl (fun c249 => ?_) (fun c249 => ?_)
  · replace hM := zw_ift c249 hM
    refine zr_iconst (q := 665) (v := (0 : Int32)) g dL_law_664 rfl (by decide) ?_
    exact U_L_law_665 ok hI g hr hlk eL18 _ _ _ _ _ _ hM hz
  · replace hM := zw_iff c249 hM
    refine zr_iconst (q := 661) (v := (1 : Int32)) g dL_law_660 rfl (by decide) ?_
    refine zr_goto (tgt := 665) g dL_law_661 rfl ?_
    exact U_L_law_665 ok hI g hr hlk eL18 _ _ _ _ _ _ hM hz
noncomputable def B_L_law_846 (L : Nat) (xs : Nat → Int32) (k18 : (Int32 × zw_Hp) → Option (Int32)) (x3 : Int32) (s0 : Int32) (s1 : Int32) (s2 : Int32) (s4 : Int32) (h : zw_Hp) : Option (Int32) :=
  (M_X9_falls s2 s1 s0 h).bind (fun z242 => if s4 = z242.1 then (B_L_law_977 L xs k18 x3 z242.2) else (some (0 : Int32)))
set_option maxRecDepth 100000 in
set_option maxHeartbeats 4000000 in
theorem U_L_law_846 (ok : zw_Ok E) (hI : ∀ i, i < 48 → i ∈ E.2.2.1) (g : zw_G p E (fun q : Nat => s.heap.size ≤ q) s m #[Value.ref b] c RL cL_law 4) (hr : lw_At p s m meth c b L xs) (hlk : NC_L ≤ 600000) {k18 : (Int32 × zw_Hp) → Option (Int32)} (eL18 : ∀ (w : Int32 × zw_Hp) (z : Int32), k18 w = some z → z = 1 → zw_W p l e room_1 s m #[Value.ref b] below meth c NC_L NS_L (lw_Z below #[Value.ref b] s) E (fun q : Nat => s.heap.size ≤ q) 4 18 [(0, .ref b), (1, .ref (E.2.1 0)), (2, .ref (E.2.1 31)), (3, .int w.1)] [] w.2) :
    ∀ (x3 : Int32) (s0 : Int32) (s1 : Int32) (s2 : Int32) (s4 : Int32) (h : zw_Hp) (z : Int32), B_L_law_846 L xs k18 x3 s0 s1 s2 s4 h = some z → z = 1 → zw_W p l e room_1 s m #[Value.ref b] below meth c NC_L NS_L (lw_Z below #[Value.ref b] s) E (fun q : Nat => s.heap.size ≤ q) 4 846 [(0, .ref b), (1, .ref (E.2.1 0)), (2, .ref (E.2.1 31)), (3, .int x3)] [.int s0, .int s1, .int s2, .ref (E.2.1 31), .int s4] h := by
  intro x3 s0 s1 s2 s4 h z hM hz
  unfold B_L_law_846 at hM
  obtain ⟨z242, q243, hM⟩ := zw_bd hM
  refine zr_callV (q := 849) (As := [.int s2, .int s1, .int s0]) (rest := [.int s4]) (st' := [.int z242.1, .int s4]) (i := 31) g (R_X9_falls ok hI q243) zv_X9_falls zl_L_117 (hI 31 (by decide)) zs_31 zc_X9.1 dL_law_846 rfl rfl ⟨Nat.le_of_ble_eq_true rfl, Nat.le_of_ble_eq_true rfl⟩ ⟨hlk, Nat.le_of_ble_eq_true rfl⟩ (Nat.le_of_ble_eq_true rfl) rfl rfl ?_
  refine zr_icmp_eq (q := 852) (tgt := 977) g dL_law_849 rfl rfl (fun c244 => ?_) (fun c244 => ?_)
  · replace hM := zw_ift c244 hM
    exact U_L_law_977 ok hI g hr hlk eL18 _ _ _ hM hz
  · replace hM := zw_iff c244 hM
    refine zr_iconst (q := 853) (v := (0 : Int32)) g dL_law_852 rfl (by decide) ?_
    cases hM
    exact absurd hz (by decide)
noncomputable def B_L_law_819 (L : Nat) (xs : Nat → Int32) (k18 : (Int32 × zw_Hp) → Option (Int32)) (x3 : Int32) (s0 : Int32) (s1 : Int32) (s2 : Int32) (h : zw_Hp) : Option (Int32) :=
  (M_X8_falls s2 s1 s0 h).bind (fun z236 => if zw_ok (x3 + (1 : Int32)) L = true then (if zw_ok (x3 + (2 : Int32)) L = true then (if zw_ok (x3 + (3 : Int32)) L = true then (if (xs ((x3 + (3 : Int32))).toNatClampNeg) = 0 then (B_L_law_846 L xs k18 x3 (0 : Int32) (xs ((x3 + (2 : Int32))).toNatClampNeg) (xs ((x3 + (1 : Int32))).toNatClampNeg) z236.1 z236.2) else (B_L_law_846 L xs k18 x3 (1 : Int32) (xs ((x3 + (2 : Int32))).toNatClampNeg) (xs ((x3 + (1 : Int32))).toNatClampNeg) z236.1 z236.2)) else none) else none) else none)
set_option maxRecDepth 100000 in
set_option maxHeartbeats 4000000 in
theorem U_L_law_819 (ok : zw_Ok E) (hI : ∀ i, i < 48 → i ∈ E.2.2.1) (g : zw_G p E (fun q : Nat => s.heap.size ≤ q) s m #[Value.ref b] c RL cL_law 4) (hr : lw_At p s m meth c b L xs) (hlk : NC_L ≤ 600000) {k18 : (Int32 × zw_Hp) → Option (Int32)} (eL18 : ∀ (w : Int32 × zw_Hp) (z : Int32), k18 w = some z → z = 1 → zw_W p l e room_1 s m #[Value.ref b] below meth c NC_L NS_L (lw_Z below #[Value.ref b] s) E (fun q : Nat => s.heap.size ≤ q) 4 18 [(0, .ref b), (1, .ref (E.2.1 0)), (2, .ref (E.2.1 31)), (3, .int w.1)] [] w.2) :
    ∀ (x3 : Int32) (s0 : Int32) (s1 : Int32) (s2 : Int32) (h : zw_Hp) (z : Int32), B_L_law_819 L xs k18 x3 s0 s1 s2 h = some z → z = 1 → zw_W p l e room_1 s m #[Value.ref b] below meth c NC_L NS_L (lw_Z below #[Value.ref b] s) E (fun q : Nat => s.heap.size ≤ q) 4 819 [(0, .ref b), (1, .ref (E.2.1 0)), (2, .ref (E.2.1 31)), (3, .int x3)] [.int s0, .int s1, .int s2, .ref (E.2.1 0)] h := by
  intro x3 s0 s1 s2 h z hM hz
  unfold B_L_law_819 at hM
  obtain ⟨z236, q237, hM⟩ := zw_bd hM
  refine zr_callV (q := 822) (As := [.int s2, .int s1, .int s0]) (rest := []) (st' := [.int z236.1]) (i := 0) g (R_X8_falls ok hI q237) zv_X8_falls zl_L_113 (hI 0 (by decide)) zs_0 zc_X8.1 dL_law_819 rfl rfl ⟨Nat.le_of_ble_eq_true rfl, Nat.le_of_ble_eq_true rfl⟩ ⟨hlk, Nat.le_of_ble_eq_true rfl⟩ (Nat.le_of_ble_eq_true rfl) rfl rfl ?_
  refine zr_aload_n (q := 823) g 2 dL_law_822 rfl rfl rfl ?_
  refine zr_aload_n (q := 824) g 0 dL_law_823 rfl rfl rfl ?_
  refine zr_iload_n (q := 825) g 3 dL_law_824 rfl rfl rfl ?_
  refine zr_iconst (q := 826) (v := (1 : Int32)) g dL_law_825 rfl (by decide) ?_
  refine zr_iadd (q := 827) g dL_law_826 rfl ?_
  obtain ⟨c238, hM⟩ := zw_gd hM
  refine zr_sld (q := 828) g hr.2.2.2.2.2.2.1 hr.2.2.2.2.2.2.2.1 (Nat.not_le.mpr hr.2.2.2.2.2.2.2.1) c238 dL_law_827 rfl ?_
  refine zr_aload_n (q := 829) g 0 dL_law_828 rfl rfl rfl ?_
  refine zr_iload_n (q := 830) g 3 dL_law_829 rfl rfl rfl ?_
  refine zr_iconst (q := 831) (v := (2 : Int32)) g dL_law_830 rfl (by decide) ?_
  refine zr_iadd (q := 832) g dL_law_831 rfl ?_
  obtain ⟨c239, hM⟩ := zw_gd hM
  refine zr_sld (q := 833) g hr.2.2.2.2.2.2.1 hr.2.2.2.2.2.2.2.1 (Nat.not_le.mpr hr.2.2.2.2.2.2.2.1) c239 dL_law_832 rfl ?_
  refine zr_aload_n (q := 834) g 0 dL_law_833 rfl rfl rfl ?_
  refine zr_iload_n (q := 835) g 3 dL_law_834 rfl rfl rfl ?_
  refine zr_iconst (q := 836) (v := (3 : Int32)) g dL_law_835 rfl (by decide) ?_
  refine zr_iadd (q := 837) g dL_law_836 rfl ?_
  obtain ⟨c240, hM⟩ := zw_gd hM
  refine zr_sld (q := 838) g hr.2.2.2.2.2.2.1 hr.2.2.2.2.2.2.2.1 (Nat.not_le.mpr hr.2.2.2.2.2.2.2.1) c240 dL_law_837 rfl ?_
  refine zr_if_eq (q := 841) (tgt := 845) g dL_law_838 rfl rfl (fun c241 => ?_) (fun c241 => ?_)
  · replace hM := zw_ift c241 hM
    refine zr_iconst (q := 846) (v := (0 : Int32)) g dL_law_845 rfl (by decide) ?_
    exact U_L_law_846 ok hI g hr hlk eL18 _ _ _ _ _ _ _ hM hz
  · replace hM := zw_iff c241 hM
    refine zr_iconst (q := 842) (v := (1 : Int32)) g dL_law_841 rfl (by decide) ?_
    refine zr_goto (tgt := 846) g dL_law_842 rfl ?_
    exact U_L_law_846 ok hI g hr hlk eL18 _ _ _ _ _ _ _ hM hz
noncomputable def B_L_law_18 (L : Nat) (xs : Nat → Int32) (k18 : (Int32 × zw_Hp) → Option (Int32)) (x3 : Int32) (h : zw_Hp) : Option (Int32) :=
  if ((Int32.ofNat L) - (4 : Int32)) < x3 then (some (1 : Int32)) else (if zw_ok x3 L = true then (if ((xs (x3).toNatClampNeg) &&& (31 : Int32)) = (0 : Int32) then (if zw_ok (x3 + (1 : Int32)) L = true then ((M_X8_write (xs ((x3 + (1 : Int32))).toNatClampNeg) h).bind (fun z5 => if zw_ok (x3 + (1 : Int32)) L = true then ((M_X9_write (xs ((x3 + (1 : Int32))).toNatClampNeg) z5.2).bind (fun z8 => if z5.1 = z8.1 then (B_L_law_977 L xs k18 x3 z8.2) else (some (0 : Int32)))) else none)) else none) else (if ((xs (x3).toNatClampNeg) &&& (31 : Int32)) = (1 : Int32) then ((M_X8_wipe h).bind (fun z12 => (M_X9_wipe z12.2).bind (fun z14 => if z12.1 = z14.1 then (B_L_law_977 L xs k18 x3 z14.2) else (some (0 : Int32))))) else (if ((xs (x3).toNatClampNeg) &&& (31 : Int32)) = (2 : Int32) then ((M_X8_fault h).bind (fun z18 => (M_X9_fault z18.2).bind (fun z20 => if z18.1 = z20.1 then (B_L_law_977 L xs k18 x3 z20.2) else (some (0 : Int32))))) else (if ((xs (x3).toNatClampNeg) &&& (31 : Int32)) = (3 : Int32) then ((M_X8_night h).bind (fun z24 => (M_X9_night z24.2).bind (fun z26 => if z24.1 = z26.1 then (B_L_law_977 L xs k18 x3 z26.2) else (some (0 : Int32))))) else (if ((xs (x3).toNatClampNeg) &&& (31 : Int32)) = (4 : Int32) then (if zw_ok (x3 + (1 : Int32)) L = true then ((M_X8_about (xs ((x3 + (1 : Int32))).toNatClampNeg) h).bind (fun z31 => if zw_ok (x3 + (1 : Int32)) L = true then ((M_X9_about (xs ((x3 + (1 : Int32))).toNatClampNeg) h).bind (fun z34 => if z31 = z34.1 then (B_L_law_977 L xs k18 x3 z34.2) else (some (0 : Int32)))) else none)) else none) else (if ((xs (x3).toNatClampNeg) &&& (31 : Int32)) = (5 : Int32) then (if zw_ok (x3 + (1 : Int32)) L = true then (if zw_ok (x3 + (2 : Int32)) L = true then ((M_X8_person (xs ((x3 + (1 : Int32))).toNatClampNeg) (xs ((x3 + (2 : Int32))).toNatClampNeg) h).bind (fun z40 => if zw_ok (x3 + (1 : Int32)) L = true then (if zw_ok (x3 + (2 : Int32)) L = true then ((M_X9_person (xs ((x3 + (1 : Int32))).toNatClampNeg) (xs ((x3 + (2 : Int32))).toNatClampNeg) h).bind (fun z44 => if z40 = z44.1 then (B_L_law_977 L xs k18 x3 z44.2) else (some (0 : Int32)))) else none) else none)) else none) else none) else (if ((xs (x3).toNatClampNeg) &&& (31 : Int32)) = (6 : Int32) then (if zw_ok (x3 + (1 : Int32)) L = true then (if zw_ok (x3 + (2 : Int32)) L = true then ((M_X8_stand (xs ((x3 + (1 : Int32))).toNatClampNeg) (xs ((x3 + (2 : Int32))).toNatClampNeg) h).bind (fun z50 => if zw_ok (x3 + (1 : Int32)) L = true then (if zw_ok (x3 + (2 : Int32)) L = true then ((M_X9_stand (xs ((x3 + (1 : Int32))).toNatClampNeg) (xs ((x3 + (2 : Int32))).toNatClampNeg) h).bind (fun z54 => if z50 = z54.1 then (B_L_law_977 L xs k18 x3 z54.2) else (some (0 : Int32)))) else none) else none)) else none) else none) else (if ((xs (x3).toNatClampNeg) &&& (31 : Int32)) = (7 : Int32) then (if zw_ok (x3 + (1 : Int32)) L = true then (if zw_ok (x3 + (2 : Int32)) L = true then ((M_X8_bucket (xs ((x3 + (1 : Int32))).toNatClampNeg) (xs ((x3 + (2 : Int32))).toNatClampNeg) h).bind (fun z60 => if zw_ok (x3 + (1 : Int32)) L = true then (if zw_ok (x3 + (2 : Int32)) L = true then ((M_X9_bucket (xs ((x3 + (1 : Int32))).toNatClampNeg) (xs ((x3 + (2 : Int32))).toNatClampNeg) h).bind (fun z64 => if z60 = z64.1 then (B_L_law_977 L xs k18 x3 z64.2) else (some (0 : Int32)))) else none) else none)) else none) else none) else (if ((xs (x3).toNatClampNeg) &&& (31 : Int32)) = (8 : Int32) then ((M_X8_beat h).bind (fun z68 => (M_X9_beat z68.2).bind (fun z70 => if z68.1 = z70.1 then (B_L_law_977 L xs k18 x3 z70.2) else (some (0 : Int32))))) else (if ((xs (x3).toNatClampNeg) &&& (31 : Int32)) = (9 : Int32) then (if zw_ok (x3 + (1 : Int32)) L = true then (if zw_ok (x3 + (2 : Int32)) L = true then ((M_X8_change (xs ((x3 + (1 : Int32))).toNatClampNeg) (xs ((x3 + (2 : Int32))).toNatClampNeg) h).bind (fun z76 => if zw_ok (x3 + (1 : Int32)) L = true then (if zw_ok (x3 + (2 : Int32)) L = true then ((M_X9_change (xs ((x3 + (1 : Int32))).toNatClampNeg) (xs ((x3 + (2 : Int32))).toNatClampNeg) z76.2).bind (fun z80 => if z76.1 = z80.1 then (B_L_law_977 L xs k18 x3 z80.2) else (some (0 : Int32)))) else none) else none)) else none) else none) else (if ((xs (x3).toNatClampNeg) &&& (31 : Int32)) = (10 : Int32) then (if zw_ok (x3 + (1 : Int32)) L = true then ((M_X8_mend (xs ((x3 + (1 : Int32))).toNatClampNeg) h).bind (fun z85 => if zw_ok (x3 + (1 : Int32)) L = true then ((M_X9_mend (xs ((x3 + (1 : Int32))).toNatClampNeg) z85.2).bind (fun z88 => if z85.1 = z88.1 then (B_L_law_977 L xs k18 x3 z88.2) else (some (0 : Int32)))) else none)) else none) else (if ((xs (x3).toNatClampNeg) &&& (31 : Int32)) = (11 : Int32) then (if zw_ok (x3 + (1 : Int32)) L = true then ((M_X8_drop (xs ((x3 + (1 : Int32))).toNatClampNeg) h).bind (fun z93 => if zw_ok (x3 + (1 : Int32)) L = true then ((M_X9_drop (xs ((x3 + (1 : Int32))).toNatClampNeg) z93.2).bind (fun z96 => if z93.1 = z96.1 then (B_L_law_977 L xs k18 x3 z96.2) else (some (0 : Int32)))) else none)) else none) else (if ((xs (x3).toNatClampNeg) &&& (31 : Int32)) = (12 : Int32) then ((M_X8_undo h).bind (fun z100 => (M_X9_undo z100.2).bind (fun z102 => if z100.1 = z102.1 then (B_L_law_977 L xs k18 x3 z102.2) else (some (0 : Int32))))) else (if ((xs (x3).toNatClampNeg) &&& (31 : Int32)) = (13 : Int32) then (if zw_ok (x3 + (1 : Int32)) L = true then (if zw_ok (x3 + (2 : Int32)) L = true then ((M_X8_later (xs ((x3 + (1 : Int32))).toNatClampNeg) (xs ((x3 + (2 : Int32))).toNatClampNeg) h).bind (fun z108 => if zw_ok (x3 + (1 : Int32)) L = true then (if zw_ok (x3 + (2 : Int32)) L = true then ((M_X9_later (xs ((x3 + (1 : Int32))).toNatClampNeg) (xs ((x3 + (2 : Int32))).toNatClampNeg) z108.2).bind (fun z112 => if z108.1 = z112.1 then (B_L_law_977 L xs k18 x3 z112.2) else (some (0 : Int32)))) else none) else none)) else none) else none) else (if ((xs (x3).toNatClampNeg) &&& (31 : Int32)) = (14 : Int32) then ((M_X8_out h).bind (fun z116 => (M_X9_out z116.2).bind (fun z118 => if z116.1 = z118.1 then (B_L_law_977 L xs k18 x3 z118.2) else (some (0 : Int32))))) else (if ((xs (x3).toNatClampNeg) &&& (31 : Int32)) = (15 : Int32) then (if zw_ok (x3 + (1 : Int32)) L = true then (if zw_ok (x3 + (2 : Int32)) L = true then ((M_X8_swap (xs ((x3 + (1 : Int32))).toNatClampNeg) (xs ((x3 + (2 : Int32))).toNatClampNeg) h).bind (fun z124 => if zw_ok (x3 + (1 : Int32)) L = true then (if zw_ok (x3 + (2 : Int32)) L = true then ((M_X9_swap (xs ((x3 + (1 : Int32))).toNatClampNeg) (xs ((x3 + (2 : Int32))).toNatClampNeg) z124.2).bind (fun z128 => if z124.1 = z128.1 then (B_L_law_977 L xs k18 x3 z128.2) else (some (0 : Int32)))) else none) else none)) else none) else none) else (if ((xs (x3).toNatClampNeg) &&& (31 : Int32)) = (16 : Int32) then (if zw_ok (x3 + (1 : Int32)) L = true then (if zw_ok (x3 + (2 : Int32)) L = true then ((M_X8_line (xs ((x3 + (1 : Int32))).toNatClampNeg) (xs ((x3 + (2 : Int32))).toNatClampNeg) h).bind (fun z134 => if zw_ok (x3 + (1 : Int32)) L = true then (if zw_ok (x3 + (2 : Int32)) L = true then ((M_X9_line (xs ((x3 + (1 : Int32))).toNatClampNeg) (xs ((x3 + (2 : Int32))).toNatClampNeg) z134.2).bind (fun z138 => if z134.1 = z138.1 then (B_L_law_977 L xs k18 x3 z138.2) else (some (0 : Int32)))) else none) else none)) else none) else none) else (if ((xs (x3).toNatClampNeg) &&& (31 : Int32)) = (17 : Int32) then (if zw_ok (x3 + (1 : Int32)) L = true then (if zw_ok (x3 + (2 : Int32)) L = true then (if zw_ok (x3 + (3 : Int32)) L = true then ((M_X8_judge (xs ((x3 + (1 : Int32))).toNatClampNeg) ((((xs ((x3 + (2 : Int32))).toNatClampNeg)).toInt64 <<< (((32 : Int32)).toInt64 &&& 63)) ||| (((xs ((x3 + (3 : Int32))).toNatClampNeg)).toInt64 &&& (4294967295 : Int64))) h).bind (fun z145 => if zw_ok (x3 + (1 : Int32)) L = true then (if zw_ok (x3 + (2 : Int32)) L = true then (if zw_ok (x3 + (3 : Int32)) L = true then ((M_X9_judge (xs ((x3 + (1 : Int32))).toNatClampNeg) ((((xs ((x3 + (2 : Int32))).toNatClampNeg)).toInt64 <<< (((32 : Int32)).toInt64 &&& 63)) ||| (((xs ((x3 + (3 : Int32))).toNatClampNeg)).toInt64 &&& (4294967295 : Int64))) z145.2).bind (fun z150 => if z145.1 = z150.1 then (B_L_law_977 L xs k18 x3 z150.2) else (some (0 : Int32)))) else none) else none) else none)) else none) else none) else none) else (if ((xs (x3).toNatClampNeg) &&& (31 : Int32)) = (18 : Int32) then (if zw_ok (x3 + (1 : Int32)) L = true then (if zw_ok (x3 + (2 : Int32)) L = true then (if (xs ((x3 + (2 : Int32))).toNatClampNeg) = 0 then (B_L_law_643 L xs k18 x3 (0 : Int32) (xs ((x3 + (1 : Int32))).toNatClampNeg) h) else (B_L_law_643 L xs k18 x3 (1 : Int32) (xs ((x3 + (1 : Int32))).toNatClampNeg) h)) else none) else none) else (if ((xs (x3).toNatClampNeg) &&& (31 : Int32)) = (19 : Int32) then (if zw_ok (x3 + (1 : Int32)) L = true then (if zw_ok (x3 + (2 : Int32)) L = true then (if zw_ok (x3 + (3 : Int32)) L = true then ((M_X8_see (xs ((x3 + (1 : Int32))).toNatClampNeg) (xs ((x3 + (2 : Int32))).toNatClampNeg) (xs ((x3 + (3 : Int32))).toNatClampNeg) h).bind (fun z161 => if zw_ok (x3 + (1 : Int32)) L = true then (if zw_ok (x3 + (2 : Int32)) L = true then (if zw_ok (x3 + (3 : Int32)) L = true then ((M_X9_see (xs ((x3 + (1 : Int32))).toNatClampNeg) (xs ((x3 + (2 : Int32))).toNatClampNeg) (xs ((x3 + (3 : Int32))).toNatClampNeg) z161.2).bind (fun z166 => if z161.1 = z166.1 then (B_L_law_977 L xs k18 x3 z166.2) else (some (0 : Int32)))) else none) else none) else none)) else none) else none) else none) else (if ((xs (x3).toNatClampNeg) &&& (31 : Int32)) = (20 : Int32) then ((M_X8_unsee h).bind (fun z170 => (M_X9_unsee z170.2).bind (fun z172 => if z170.1 = z172.1 then (B_L_law_977 L xs k18 x3 z172.2) else (some (0 : Int32))))) else (if ((xs (x3).toNatClampNeg) &&& (31 : Int32)) = (21 : Int32) then (if zw_ok (x3 + (1 : Int32)) L = true then ((M_X8_fires (xs ((x3 + (1 : Int32))).toNatClampNeg) h).bind (fun z177 => if zw_ok (x3 + (1 : Int32)) L = true then ((M_X9_fires (xs ((x3 + (1 : Int32))).toNatClampNeg) h).bind (fun z180 => if z177 = z180.1 then (B_L_law_977 L xs k18 x3 z180.2) else (some (0 : Int32)))) else none)) else none) else (if ((xs (x3).toNatClampNeg) &&& (31 : Int32)) = (22 : Int32) then (if zw_ok (x3 + (1 : Int32)) L = true then (if zw_ok (x3 + (2 : Int32)) L = true then (if zw_ok (x3 + (3 : Int32)) L = true then ((M_X8_rests (xs ((x3 + (1 : Int32))).toNatClampNeg) (xs ((x3 + (2 : Int32))).toNatClampNeg) (xs ((x3 + (3 : Int32))).toNatClampNeg) h).bind (fun z187 => if zw_ok (x3 + (1 : Int32)) L = true then (if zw_ok (x3 + (2 : Int32)) L = true then (if zw_ok (x3 + (3 : Int32)) L = true then ((M_X9_rests (xs ((x3 + (1 : Int32))).toNatClampNeg) (xs ((x3 + (2 : Int32))).toNatClampNeg) (xs ((x3 + (3 : Int32))).toNatClampNeg) z187.2).bind (fun z192 => if z187.1 = z192.1 then (B_L_law_977 L xs k18 x3 z192.2) else (some (0 : Int32)))) else none) else none) else none)) else none) else none) else none) else (if ((xs (x3).toNatClampNeg) &&& (31 : Int32)) = (23 : Int32) then (if zw_ok (x3 + (1 : Int32)) L = true then (if zw_ok (x3 + (2 : Int32)) L = true then (if zw_ok (x3 + (3 : Int32)) L = true then (if (xs ((x3 + (3 : Int32))).toNatClampNeg) = 0 then (B_L_law_819 L xs k18 x3 (0 : Int32) (xs ((x3 + (2 : Int32))).toNatClampNeg) (xs ((x3 + (1 : Int32))).toNatClampNeg) h) else (B_L_law_819 L xs k18 x3 (1 : Int32) (xs ((x3 + (2 : Int32))).toNatClampNeg) (xs ((x3 + (1 : Int32))).toNatClampNeg) h)) else none) else none) else none) else (if ((xs (x3).toNatClampNeg) &&& (31 : Int32)) = (24 : Int32) then (if zw_ok (x3 + (1 : Int32)) L = true then (if zw_ok (x3 + (2 : Int32)) L = true then ((M_X8_seed ((((xs ((x3 + (1 : Int32))).toNatClampNeg)).toInt64 <<< (((32 : Int32)).toInt64 &&& 63)) ||| (((xs ((x3 + (2 : Int32))).toNatClampNeg)).toInt64 &&& (4294967295 : Int64))) h).bind (fun z203 => if zw_ok (x3 + (1 : Int32)) L = true then (if zw_ok (x3 + (2 : Int32)) L = true then ((M_X9_seed ((((xs ((x3 + (1 : Int32))).toNatClampNeg)).toInt64 <<< (((32 : Int32)).toInt64 &&& 63)) ||| (((xs ((x3 + (2 : Int32))).toNatClampNeg)).toInt64 &&& (4294967295 : Int64))) z203.2).bind (fun z207 => if (lg_cmp z203.1 z207.1) = 0 then (B_L_law_977 L xs k18 x3 z207.2) else (some (0 : Int32)))) else none) else none)) else none) else none) else (if ((xs (x3).toNatClampNeg) &&& (31 : Int32)) = (25 : Int32) then (if zw_ok (x3 + (1 : Int32)) L = true then ((M_X8_nights (xs ((x3 + (1 : Int32))).toNatClampNeg) h).bind (fun z212 => if zw_ok (x3 + (1 : Int32)) L = true then ((M_X9_nights (xs ((x3 + (1 : Int32))).toNatClampNeg) z212.2).bind (fun z215 => if z212.1 = z215.1 then (B_L_law_977 L xs k18 x3 z215.2) else (some (0 : Int32)))) else none)) else none) else (if ((xs (x3).toNatClampNeg) &&& (31 : Int32)) = (26 : Int32) then (if zw_ok (x3 + (1 : Int32)) L = true then ((M_X8_keep (xs ((x3 + (1 : Int32))).toNatClampNeg) h).bind (fun z220 => if zw_ok (x3 + (1 : Int32)) L = true then ((M_X9_keep (xs ((x3 + (1 : Int32))).toNatClampNeg) z220.2).bind (fun z223 => if z220.1 = z223.1 then (B_L_law_977 L xs k18 x3 z223.2) else (some (0 : Int32)))) else none)) else none) else (if ((xs (x3).toNatClampNeg) &&& (31 : Int32)) = (27 : Int32) then (if zw_ok (x3 + (1 : Int32)) L = true then ((M_X8_again (xs ((x3 + (1 : Int32))).toNatClampNeg) h).bind (fun z228 => if zw_ok (x3 + (1 : Int32)) L = true then ((M_X9_again (xs ((x3 + (1 : Int32))).toNatClampNeg) z228.2).bind (fun z231 => if z228.1 = z231.1 then (B_L_law_977 L xs k18 x3 z231.2) else (some (0 : Int32)))) else none)) else none) else (B_L_law_977 L xs k18 x3 h))))))))))))))))))))))))))))) else none)
set_option maxRecDepth 100000 in
set_option maxHeartbeats 4000000 in
theorem U_L_law_18 (ok : zw_Ok E) (hI : ∀ i, i < 48 → i ∈ E.2.2.1) (g : zw_G p E (fun q : Nat => s.heap.size ≤ q) s m #[Value.ref b] c RL cL_law 4) (hr : lw_At p s m meth c b L xs) (hlk : NC_L ≤ 600000) {k18 : (Int32 × zw_Hp) → Option (Int32)} (eL18 : ∀ (w : Int32 × zw_Hp) (z : Int32), k18 w = some z → z = 1 → zw_W p l e room_1 s m #[Value.ref b] below meth c NC_L NS_L (lw_Z below #[Value.ref b] s) E (fun q : Nat => s.heap.size ≤ q) 4 18 [(0, .ref b), (1, .ref (E.2.1 0)), (2, .ref (E.2.1 31)), (3, .int w.1)] [] w.2) :
    ∀ (x3 : Int32) (h : zw_Hp) (z : Int32), B_L_law_18 L xs k18 x3 h = some z → z = 1 → zw_W p l e room_1 s m #[Value.ref b] below meth c NC_L NS_L (lw_Z below #[Value.ref b] s) E (fun q : Nat => s.heap.size ≤ q) 4 18 [(0, .ref b), (1, .ref (E.2.1 0)), (2, .ref (E.2.1 31)), (3, .int x3)] [] h := by
  intro x3 h z hM hz
  unfold B_L_law_18 at hM
  refine zr_iload_n (q := 19) g 3 dL_law_18 rfl rfl rfl ?_
  refine zr_aload_n (q := 20) g 0 dL_law_19 rfl rfl rfl ?_
  refine zr_slen (q := 21) g hr.2.2.2.2.2.2.1 hr.2.2.2.2.2.2.2.1 (Nat.not_le.mpr hr.2.2.2.2.2.2.2.1) dL_law_20 rfl ?_
  refine zr_iconst (q := 22) (v := (4 : Int32)) g dL_law_21 rfl (by decide) ?_
  refine zr_isub (q := 23) g dL_law_22 rfl ?_
  refine zr_icmp_gt (q := 26) (tgt := 983) g dL_law_23 rfl rfl (fun c1 => ?_) (fun c1 => ?_)
  · replace hM := zw_ift c1 hM
    refine zr_iconst (q := 984) (v := (1 : Int32)) g dL_law_983 rfl (by decide) ?_
    exact zr_lawret hr hlk dL_law_984
  · replace hM := zw_iff c1 hM
    refine zr_aload_n (q := 27) g 0 dL_law_26 rfl rfl rfl ?_
    refine zr_iload_n (q := 28) g 3 dL_law_27 rfl rfl rfl ?_
    obtain ⟨c2, hM⟩ := zw_gd hM
    refine zr_sld (q := 29) g hr.2.2.2.2.2.2.1 hr.2.2.2.2.2.2.2.1 (Nat.not_le.mpr hr.2.2.2.2.2.2.2.1) c2 dL_law_28 rfl ?_
    refine zr_bipush (q := 31) (v := (31 : Int32)) g dL_law_29 rfl (by decide) ?_
    refine zr_iand (q := 32) g dL_law_31 rfl ?_
    by_cases c3 : ((xs (x3).toNatClampNeg) &&& (31 : Int32)) = (0 : Int32)
    · replace hM := zw_ift c3 hM
      refine zr_tabIn (tgt := 160) (off := 128) g dL_law_32 c3 (by decide) rfl ?_
      refine zr_aload_n (q := 161) g 1 dL_law_160 rfl rfl rfl ?_
      refine zr_aload_n (q := 162) g 0 dL_law_161 rfl rfl rfl ?_
      refine zr_iload_n (q := 163) g 3 dL_law_162 rfl rfl rfl ?_
      refine zr_iconst (q := 164) (v := (1 : Int32)) g dL_law_163 rfl (by decide) ?_
      refine zr_iadd (q := 165) g dL_law_164 rfl ?_
      obtain ⟨c4, hM⟩ := zw_gd hM
      refine zr_sld (q := 166) g hr.2.2.2.2.2.2.1 hr.2.2.2.2.2.2.2.1 (Nat.not_le.mpr hr.2.2.2.2.2.2.2.1) c4 dL_law_165 rfl ?_
      obtain ⟨z5, q6, hM⟩ := zw_bd hM
      refine zr_callV (q := 169) (As := [.int (xs ((x3 + (1 : Int32))).toNatClampNeg)]) (rest := []) (st' := [.int z5.1]) (i := 0) g (R_X8_write ok hI q6) zv_X8_write zl_L_13 (hI 0 (by decide)) zs_0 zc_X8.1 dL_law_166 rfl rfl ⟨Nat.le_of_ble_eq_true rfl, Nat.le_of_ble_eq_true rfl⟩ ⟨hlk, Nat.le_of_ble_eq_true rfl⟩ (Nat.le_of_ble_eq_true rfl) rfl rfl ?_
      refine zr_aload_n (q := 170) g 2 dL_law_169 rfl rfl rfl ?_
      refine zr_aload_n (q := 171) g 0 dL_law_170 rfl rfl rfl ?_
      refine zr_iload_n (q := 172) g 3 dL_law_171 rfl rfl rfl ?_
      refine zr_iconst (q := 173) (v := (1 : Int32)) g dL_law_172 rfl (by decide) ?_
      refine zr_iadd (q := 174) g dL_law_173 rfl ?_
      obtain ⟨c7, hM⟩ := zw_gd hM
      refine zr_sld (q := 175) g hr.2.2.2.2.2.2.1 hr.2.2.2.2.2.2.2.1 (Nat.not_le.mpr hr.2.2.2.2.2.2.2.1) c7 dL_law_174 rfl ?_
      obtain ⟨z8, q9, hM⟩ := zw_bd hM
      refine zr_callV (q := 178) (As := [.int (xs ((x3 + (1 : Int32))).toNatClampNeg)]) (rest := [.int z5.1]) (st' := [.int z8.1, .int z5.1]) (i := 31) g (R_X9_write ok hI q9) zv_X9_write zl_L_17 (hI 31 (by decide)) zs_31 zc_X9.1 dL_law_175 rfl rfl ⟨Nat.le_of_ble_eq_true rfl, Nat.le_of_ble_eq_true rfl⟩ ⟨hlk, Nat.le_of_ble_eq_true rfl⟩ (Nat.le_of_ble_eq_true rfl) rfl rfl ?_
      refine zr_icmp_eq (q := 181) (tgt := 977) g dL_law_178 rfl rfl (fun c10 => ?_) (fun c10 => ?_)
      · replace hM := zw_ift c10 hM
        exact U_L_law_977 ok hI g hr hlk eL18 _ _ _ hM hz
      · replace hM := zw_iff c10 hM
        refine zr_iconst (q := 182) (v := (0 : Int32)) g dL_law_181 rfl (by decide) ?_
        cases hM
        exact absurd hz (by decide)
    · replace hM := zw_iff c3 hM
      by_cases c11 : ((xs (x3).toNatClampNeg) &&& (31 : Int32)) = (1 : Int32)
      · replace hM := zw_ift c11 hM
        refine zr_tabIn (tgt := 183) (off := 151) g dL_law_32 c11 (by decide) rfl ?_
        refine zr_aload_n (q := 184) g 1 dL_law_183 rfl rfl rfl ?_
        obtain ⟨z12, q13, hM⟩ := zw_bd hM
        refine zr_callV (q := 187) (As := []) (rest := []) (st' := [.int z12.1]) (i := 0) g (R_X8_wipe ok hI q13) zv_X8_wipe zl_L_18 (hI 0 (by decide)) zs_0 zc_X8.1 dL_law_184 rfl rfl ⟨Nat.le_of_ble_eq_true rfl, Nat.le_of_ble_eq_true rfl⟩ ⟨hlk, Nat.le_of_ble_eq_true rfl⟩ (Nat.le_of_ble_eq_true rfl) rfl rfl ?_
        refine zr_aload_n (q := 188) g 2 dL_law_187 rfl rfl rfl ?_
        obtain ⟨z14, q15, hM⟩ := zw_bd hM
        refine zr_callV (q := 191) (As := []) (rest := [.int z12.1]) (st' := [.int z14.1, .int z12.1]) (i := 31) g (R_X9_wipe ok hI q15) zv_X9_wipe zl_L_22 (hI 31 (by decide)) zs_31 zc_X9.1 dL_law_188 rfl rfl ⟨Nat.le_of_ble_eq_true rfl, Nat.le_of_ble_eq_true rfl⟩ ⟨hlk, Nat.le_of_ble_eq_true rfl⟩ (Nat.le_of_ble_eq_true rfl) rfl rfl ?_
        refine zr_icmp_eq (q := 194) (tgt := 977) g dL_law_191 rfl rfl (fun c16 => ?_) (fun c16 => ?_)
        · replace hM := zw_ift c16 hM
          exact U_L_law_977 ok hI g hr hlk eL18 _ _ _ hM hz
        · replace hM := zw_iff c16 hM
          refine zr_iconst (q := 195) (v := (0 : Int32)) g dL_law_194 rfl (by decide) ?_
          cases hM
          exact absurd hz (by decide)
      · replace hM := zw_iff c11 hM
        by_cases c17 : ((xs (x3).toNatClampNeg) &&& (31 : Int32)) = (2 : Int32)
        · replace hM := zw_ift c17 hM
          refine zr_tabIn (tgt := 196) (off := 164) g dL_law_32 c17 (by decide) rfl ?_
          refine zr_aload_n (q := 197) g 1 dL_law_196 rfl rfl rfl ?_
          obtain ⟨z18, q19, hM⟩ := zw_bd hM
          refine zr_callV (q := 200) (As := []) (rest := []) (st' := [.int z18.1]) (i := 0) g (R_X8_fault ok hI q19) zv_X8_fault zl_L_23 (hI 0 (by decide)) zs_0 zc_X8.1 dL_law_197 rfl rfl ⟨Nat.le_of_ble_eq_true rfl, Nat.le_of_ble_eq_true rfl⟩ ⟨hlk, Nat.le_of_ble_eq_true rfl⟩ (Nat.le_of_ble_eq_true rfl) rfl rfl ?_
          refine zr_aload_n (q := 201) g 2 dL_law_200 rfl rfl rfl ?_
          obtain ⟨z20, q21, hM⟩ := zw_bd hM
          refine zr_callV (q := 204) (As := []) (rest := [.int z18.1]) (st' := [.int z20.1, .int z18.1]) (i := 31) g (R_X9_fault ok hI q21) zv_X9_fault zl_L_26 (hI 31 (by decide)) zs_31 zc_X9.1 dL_law_201 rfl rfl ⟨Nat.le_of_ble_eq_true rfl, Nat.le_of_ble_eq_true rfl⟩ ⟨hlk, Nat.le_of_ble_eq_true rfl⟩ (Nat.le_of_ble_eq_true rfl) rfl rfl ?_
          refine zr_icmp_eq (q := 207) (tgt := 977) g dL_law_204 rfl rfl (fun c22 => ?_) (fun c22 => ?_)
          · replace hM := zw_ift c22 hM
            exact U_L_law_977 ok hI g hr hlk eL18 _ _ _ hM hz
          · replace hM := zw_iff c22 hM
            refine zr_iconst (q := 208) (v := (0 : Int32)) g dL_law_207 rfl (by decide) ?_
            cases hM
            exact absurd hz (by decide)
        · replace hM := zw_iff c17 hM
          by_cases c23 : ((xs (x3).toNatClampNeg) &&& (31 : Int32)) = (3 : Int32)
          · replace hM := zw_ift c23 hM
            refine zr_tabIn (tgt := 209) (off := 177) g dL_law_32 c23 (by decide) rfl ?_
            refine zr_aload_n (q := 210) g 1 dL_law_209 rfl rfl rfl ?_
            obtain ⟨z24, q25, hM⟩ := zw_bd hM
            refine zr_callV (q := 213) (As := []) (rest := []) (st' := [.int z24.1]) (i := 0) g (R_X8_night ok hI q25) zv_X8_night zl_L_27 (hI 0 (by decide)) zs_0 zc_X8.1 dL_law_210 rfl rfl ⟨Nat.le_of_ble_eq_true rfl, Nat.le_of_ble_eq_true rfl⟩ ⟨hlk, Nat.le_of_ble_eq_true rfl⟩ (Nat.le_of_ble_eq_true rfl) rfl rfl ?_
            refine zr_aload_n (q := 214) g 2 dL_law_213 rfl rfl rfl ?_
            obtain ⟨z26, q27, hM⟩ := zw_bd hM
            refine zr_callV (q := 217) (As := []) (rest := [.int z24.1]) (st' := [.int z26.1, .int z24.1]) (i := 31) g (R_X9_night ok hI q27) zv_X9_night zl_L_30 (hI 31 (by decide)) zs_31 zc_X9.1 dL_law_214 rfl rfl ⟨Nat.le_of_ble_eq_true rfl, Nat.le_of_ble_eq_true rfl⟩ ⟨hlk, Nat.le_of_ble_eq_true rfl⟩ (Nat.le_of_ble_eq_true rfl) rfl rfl ?_
            refine zr_icmp_eq (q := 220) (tgt := 977) g dL_law_217 rfl rfl (fun c28 => ?_) (fun c28 => ?_)
            · replace hM := zw_ift c28 hM
              exact U_L_law_977 ok hI g hr hlk eL18 _ _ _ hM hz
            · replace hM := zw_iff c28 hM
              refine zr_iconst (q := 221) (v := (0 : Int32)) g dL_law_220 rfl (by decide) ?_
              cases hM
              exact absurd hz (by decide)
          · replace hM := zw_iff c23 hM
            by_cases c29 : ((xs (x3).toNatClampNeg) &&& (31 : Int32)) = (4 : Int32)
            · replace hM := zw_ift c29 hM
              refine zr_tabIn (tgt := 222) (off := 190) g dL_law_32 c29 (by decide) rfl ?_
              refine zr_aload_n (q := 223) g 1 dL_law_222 rfl rfl rfl ?_
              refine zr_aload_n (q := 224) g 0 dL_law_223 rfl rfl rfl ?_
              refine zr_iload_n (q := 225) g 3 dL_law_224 rfl rfl rfl ?_
              refine zr_iconst (q := 226) (v := (1 : Int32)) g dL_law_225 rfl (by decide) ?_
              refine zr_iadd (q := 227) g dL_law_226 rfl ?_
              obtain ⟨c30, hM⟩ := zw_gd hM
              refine zr_sld (q := 228) g hr.2.2.2.2.2.2.1 hr.2.2.2.2.2.2.2.1 (Nat.not_le.mpr hr.2.2.2.2.2.2.2.1) c30 dL_law_227 rfl ?_
              obtain ⟨z31, q32, hM⟩ := zw_bd hM
              refine zr_callV (q := 231) (As := [.int (xs ((x3 + (1 : Int32))).toNatClampNeg)]) (rest := []) (st' := [.int z31]) (i := 0) g (R_X8_about ok hI q32) zv_X8_about zl_L_31 (hI 0 (by decide)) zs_0 zc_X8.1 dL_law_228 rfl rfl ⟨Nat.le_of_ble_eq_true rfl, Nat.le_of_ble_eq_true rfl⟩ ⟨hlk, Nat.le_of_ble_eq_true rfl⟩ (Nat.le_of_ble_eq_true rfl) rfl rfl ?_
              refine zr_aload_n (q := 232) g 2 dL_law_231 rfl rfl rfl ?_
              refine zr_aload_n (q := 233) g 0 dL_law_232 rfl rfl rfl ?_
              refine zr_iload_n (q := 234) g 3 dL_law_233 rfl rfl rfl ?_
              refine zr_iconst (q := 235) (v := (1 : Int32)) g dL_law_234 rfl (by decide) ?_
              refine zr_iadd (q := 236) g dL_law_235 rfl ?_
              obtain ⟨c33, hM⟩ := zw_gd hM
              refine zr_sld (q := 237) g hr.2.2.2.2.2.2.1 hr.2.2.2.2.2.2.2.1 (Nat.not_le.mpr hr.2.2.2.2.2.2.2.1) c33 dL_law_236 rfl ?_
              obtain ⟨z34, q35, hM⟩ := zw_bd hM
              refine zr_callV (q := 240) (As := [.int (xs ((x3 + (1 : Int32))).toNatClampNeg)]) (rest := [.int z31]) (st' := [.int z34.1, .int z31]) (i := 31) g (R_X9_about ok hI q35) zv_X9_about zl_L_34 (hI 31 (by decide)) zs_31 zc_X9.1 dL_law_237 rfl rfl ⟨Nat.le_of_ble_eq_true rfl, Nat.le_of_ble_eq_true rfl⟩ ⟨hlk, Nat.le_of_ble_eq_true rfl⟩ (Nat.le_of_ble_eq_true rfl) rfl rfl ?_
              refine zr_icmp_eq (q := 243) (tgt := 977) g dL_law_240 rfl rfl (fun c36 => ?_) (fun c36 => ?_)
              · replace hM := zw_ift c36 hM
                exact U_L_law_977 ok hI g hr hlk eL18 _ _ _ hM hz
              · replace hM := zw_iff c36 hM
                refine zr_iconst (q := 244) (v := (0 : Int32)) g dL_law_243 rfl (by decide) ?_
                cases hM
                exact absurd hz (by decide)
            · replace hM := zw_iff c29 hM
              by_cases c37 : ((xs (x3).toNatClampNeg) &&& (31 : Int32)) = (5 : Int32)
              · replace hM := zw_ift c37 hM
                refine zr_tabIn (tgt := 245) (off := 213) g dL_law_32 c37 (by decide) rfl ?_
                refine zr_aload_n (q := 246) g 1 dL_law_245 rfl rfl rfl ?_
                refine zr_aload_n (q := 247) g 0 dL_law_246 rfl rfl rfl ?_
                refine zr_iload_n (q := 248) g 3 dL_law_247 rfl rfl rfl ?_
                refine zr_iconst (q := 249) (v := (1 : Int32)) g dL_law_248 rfl (by decide) ?_
                refine zr_iadd (q := 250) g dL_law_249 rfl ?_
                obtain ⟨c38, hM⟩ := zw_gd hM
                refine zr_sld (q := 251) g hr.2.2.2.2.2.2.1 hr.2.2.2.2.2.2.2.1 (Nat.not_le.mpr hr.2.2.2.2.2.2.2.1) c38 dL_law_250 rfl ?_
                refine zr_aload_n (q := 252) g 0 dL_law_251 rfl rfl rfl ?_
                refine zr_iload_n (q := 253) g 3 dL_law_252 rfl rfl rfl ?_
                refine zr_iconst (q := 254) (v := (2 : Int32)) g dL_law_253 rfl (by decide) ?_
                refine zr_iadd (q := 255) g dL_law_254 rfl ?_
                obtain ⟨c39, hM⟩ := zw_gd hM
                refine zr_sld (q := 256) g hr.2.2.2.2.2.2.1 hr.2.2.2.2.2.2.2.1 (Nat.not_le.mpr hr.2.2.2.2.2.2.2.1) c39 dL_law_255 rfl ?_
                obtain ⟨z40, q41, hM⟩ := zw_bd hM
                refine zr_callV (q := 259) (As := [.int (xs ((x3 + (1 : Int32))).toNatClampNeg), .int (xs ((x3 + (2 : Int32))).toNatClampNeg)]) (rest := []) (st' := [.int z40]) (i := 0) g (R_X8_person ok hI q41) zv_X8_person zl_L_35 (hI 0 (by decide)) zs_0 zc_X8.1 dL_law_256 rfl rfl ⟨Nat.le_of_ble_eq_true rfl, Nat.le_of_ble_eq_true rfl⟩ ⟨hlk, Nat.le_of_ble_eq_true rfl⟩ (Nat.le_of_ble_eq_true rfl) rfl rfl ?_
                refine zr_aload_n (q := 260) g 2 dL_law_259 rfl rfl rfl ?_
                refine zr_aload_n (q := 261) g 0 dL_law_260 rfl rfl rfl ?_
                refine zr_iload_n (q := 262) g 3 dL_law_261 rfl rfl rfl ?_
                refine zr_iconst (q := 263) (v := (1 : Int32)) g dL_law_262 rfl (by decide) ?_
                refine zr_iadd (q := 264) g dL_law_263 rfl ?_
                obtain ⟨c42, hM⟩ := zw_gd hM
                refine zr_sld (q := 265) g hr.2.2.2.2.2.2.1 hr.2.2.2.2.2.2.2.1 (Nat.not_le.mpr hr.2.2.2.2.2.2.2.1) c42 dL_law_264 rfl ?_
                refine zr_aload_n (q := 266) g 0 dL_law_265 rfl rfl rfl ?_
                refine zr_iload_n (q := 267) g 3 dL_law_266 rfl rfl rfl ?_
                refine zr_iconst (q := 268) (v := (2 : Int32)) g dL_law_267 rfl (by decide) ?_
                refine zr_iadd (q := 269) g dL_law_268 rfl ?_
                obtain ⟨c43, hM⟩ := zw_gd hM
                refine zr_sld (q := 270) g hr.2.2.2.2.2.2.1 hr.2.2.2.2.2.2.2.1 (Nat.not_le.mpr hr.2.2.2.2.2.2.2.1) c43 dL_law_269 rfl ?_
                obtain ⟨z44, q45, hM⟩ := zw_bd hM
                refine zr_callV (q := 273) (As := [.int (xs ((x3 + (1 : Int32))).toNatClampNeg), .int (xs ((x3 + (2 : Int32))).toNatClampNeg)]) (rest := [.int z40]) (st' := [.int z44.1, .int z40]) (i := 31) g (R_X9_person ok hI q45) zv_X9_person zl_L_39 (hI 31 (by decide)) zs_31 zc_X9.1 dL_law_270 rfl rfl ⟨Nat.le_of_ble_eq_true rfl, Nat.le_of_ble_eq_true rfl⟩ ⟨hlk, Nat.le_of_ble_eq_true rfl⟩ (Nat.le_of_ble_eq_true rfl) rfl rfl ?_
                refine zr_icmp_eq (q := 276) (tgt := 977) g dL_law_273 rfl rfl (fun c46 => ?_) (fun c46 => ?_)
                · replace hM := zw_ift c46 hM
                  exact U_L_law_977 ok hI g hr hlk eL18 _ _ _ hM hz
                · replace hM := zw_iff c46 hM
                  refine zr_iconst (q := 277) (v := (0 : Int32)) g dL_law_276 rfl (by decide) ?_
                  cases hM
                  exact absurd hz (by decide)
              · replace hM := zw_iff c37 hM
                by_cases c47 : ((xs (x3).toNatClampNeg) &&& (31 : Int32)) = (6 : Int32)
                · replace hM := zw_ift c47 hM
                  refine zr_tabIn (tgt := 278) (off := 246) g dL_law_32 c47 (by decide) rfl ?_
                  refine zr_aload_n (q := 279) g 1 dL_law_278 rfl rfl rfl ?_
                  refine zr_aload_n (q := 280) g 0 dL_law_279 rfl rfl rfl ?_
                  refine zr_iload_n (q := 281) g 3 dL_law_280 rfl rfl rfl ?_
                  refine zr_iconst (q := 282) (v := (1 : Int32)) g dL_law_281 rfl (by decide) ?_
                  refine zr_iadd (q := 283) g dL_law_282 rfl ?_
                  obtain ⟨c48, hM⟩ := zw_gd hM
                  refine zr_sld (q := 284) g hr.2.2.2.2.2.2.1 hr.2.2.2.2.2.2.2.1 (Nat.not_le.mpr hr.2.2.2.2.2.2.2.1) c48 dL_law_283 rfl ?_
                  refine zr_aload_n (q := 285) g 0 dL_law_284 rfl rfl rfl ?_
                  refine zr_iload_n (q := 286) g 3 dL_law_285 rfl rfl rfl ?_
                  refine zr_iconst (q := 287) (v := (2 : Int32)) g dL_law_286 rfl (by decide) ?_
                  refine zr_iadd (q := 288) g dL_law_287 rfl ?_
                  obtain ⟨c49, hM⟩ := zw_gd hM
                  refine zr_sld (q := 289) g hr.2.2.2.2.2.2.1 hr.2.2.2.2.2.2.2.1 (Nat.not_le.mpr hr.2.2.2.2.2.2.2.1) c49 dL_law_288 rfl ?_
                  obtain ⟨z50, q51, hM⟩ := zw_bd hM
                  refine zr_callV (q := 292) (As := [.int (xs ((x3 + (1 : Int32))).toNatClampNeg), .int (xs ((x3 + (2 : Int32))).toNatClampNeg)]) (rest := []) (st' := [.int z50]) (i := 0) g (R_X8_stand ok hI q51) zv_X8_stand zl_L_40 (hI 0 (by decide)) zs_0 zc_X8.1 dL_law_289 rfl rfl ⟨Nat.le_of_ble_eq_true rfl, Nat.le_of_ble_eq_true rfl⟩ ⟨hlk, Nat.le_of_ble_eq_true rfl⟩ (Nat.le_of_ble_eq_true rfl) rfl rfl ?_
                  refine zr_aload_n (q := 293) g 2 dL_law_292 rfl rfl rfl ?_
                  refine zr_aload_n (q := 294) g 0 dL_law_293 rfl rfl rfl ?_
                  refine zr_iload_n (q := 295) g 3 dL_law_294 rfl rfl rfl ?_
                  refine zr_iconst (q := 296) (v := (1 : Int32)) g dL_law_295 rfl (by decide) ?_
                  refine zr_iadd (q := 297) g dL_law_296 rfl ?_
                  obtain ⟨c52, hM⟩ := zw_gd hM
                  refine zr_sld (q := 298) g hr.2.2.2.2.2.2.1 hr.2.2.2.2.2.2.2.1 (Nat.not_le.mpr hr.2.2.2.2.2.2.2.1) c52 dL_law_297 rfl ?_
                  refine zr_aload_n (q := 299) g 0 dL_law_298 rfl rfl rfl ?_
                  refine zr_iload_n (q := 300) g 3 dL_law_299 rfl rfl rfl ?_
                  refine zr_iconst (q := 301) (v := (2 : Int32)) g dL_law_300 rfl (by decide) ?_
                  refine zr_iadd (q := 302) g dL_law_301 rfl ?_
                  obtain ⟨c53, hM⟩ := zw_gd hM
                  refine zr_sld (q := 303) g hr.2.2.2.2.2.2.1 hr.2.2.2.2.2.2.2.1 (Nat.not_le.mpr hr.2.2.2.2.2.2.2.1) c53 dL_law_302 rfl ?_
                  obtain ⟨z54, q55, hM⟩ := zw_bd hM
                  refine zr_callV (q := 306) (As := [.int (xs ((x3 + (1 : Int32))).toNatClampNeg), .int (xs ((x3 + (2 : Int32))).toNatClampNeg)]) (rest := [.int z50]) (st' := [.int z54.1, .int z50]) (i := 31) g (R_X9_stand ok hI q55) zv_X9_stand zl_L_43 (hI 31 (by decide)) zs_31 zc_X9.1 dL_law_303 rfl rfl ⟨Nat.le_of_ble_eq_true rfl, Nat.le_of_ble_eq_true rfl⟩ ⟨hlk, Nat.le_of_ble_eq_true rfl⟩ (Nat.le_of_ble_eq_true rfl) rfl rfl ?_
                  refine zr_icmp_eq (q := 309) (tgt := 977) g dL_law_306 rfl rfl (fun c56 => ?_) (fun c56 => ?_)
                  · replace hM := zw_ift c56 hM
                    exact U_L_law_977 ok hI g hr hlk eL18 _ _ _ hM hz
                  · replace hM := zw_iff c56 hM
                    refine zr_iconst (q := 310) (v := (0 : Int32)) g dL_law_309 rfl (by decide) ?_
                    cases hM
                    exact absurd hz (by decide)
                · replace hM := zw_iff c47 hM
                  by_cases c57 : ((xs (x3).toNatClampNeg) &&& (31 : Int32)) = (7 : Int32)
                  · replace hM := zw_ift c57 hM
                    refine zr_tabIn (tgt := 311) (off := 279) g dL_law_32 c57 (by decide) rfl ?_
                    refine zr_aload_n (q := 312) g 1 dL_law_311 rfl rfl rfl ?_
                    refine zr_aload_n (q := 313) g 0 dL_law_312 rfl rfl rfl ?_
                    refine zr_iload_n (q := 314) g 3 dL_law_313 rfl rfl rfl ?_
                    refine zr_iconst (q := 315) (v := (1 : Int32)) g dL_law_314 rfl (by decide) ?_
                    refine zr_iadd (q := 316) g dL_law_315 rfl ?_
                    obtain ⟨c58, hM⟩ := zw_gd hM
                    refine zr_sld (q := 317) g hr.2.2.2.2.2.2.1 hr.2.2.2.2.2.2.2.1 (Nat.not_le.mpr hr.2.2.2.2.2.2.2.1) c58 dL_law_316 rfl ?_
                    refine zr_aload_n (q := 318) g 0 dL_law_317 rfl rfl rfl ?_
                    refine zr_iload_n (q := 319) g 3 dL_law_318 rfl rfl rfl ?_
                    refine zr_iconst (q := 320) (v := (2 : Int32)) g dL_law_319 rfl (by decide) ?_
                    refine zr_iadd (q := 321) g dL_law_320 rfl ?_
                    obtain ⟨c59, hM⟩ := zw_gd hM
                    refine zr_sld (q := 322) g hr.2.2.2.2.2.2.1 hr.2.2.2.2.2.2.2.1 (Nat.not_le.mpr hr.2.2.2.2.2.2.2.1) c59 dL_law_321 rfl ?_
                    obtain ⟨z60, q61, hM⟩ := zw_bd hM
                    refine zr_callV (q := 325) (As := [.int (xs ((x3 + (1 : Int32))).toNatClampNeg), .int (xs ((x3 + (2 : Int32))).toNatClampNeg)]) (rest := []) (st' := [.int z60]) (i := 0) g (R_X8_bucket ok hI q61) zv_X8_bucket zl_L_44 (hI 0 (by decide)) zs_0 zc_X8.1 dL_law_322 rfl rfl ⟨Nat.le_of_ble_eq_true rfl, Nat.le_of_ble_eq_true rfl⟩ ⟨hlk, Nat.le_of_ble_eq_true rfl⟩ (Nat.le_of_ble_eq_true rfl) rfl rfl ?_
                    refine zr_aload_n (q := 326) g 2 dL_law_325 rfl rfl rfl ?_
                    refine zr_aload_n (q := 327) g 0 dL_law_326 rfl rfl rfl ?_
                    refine zr_iload_n (q := 328) g 3 dL_law_327 rfl rfl rfl ?_
                    refine zr_iconst (q := 329) (v := (1 : Int32)) g dL_law_328 rfl (by decide) ?_
                    refine zr_iadd (q := 330) g dL_law_329 rfl ?_
                    obtain ⟨c62, hM⟩ := zw_gd hM
                    refine zr_sld (q := 331) g hr.2.2.2.2.2.2.1 hr.2.2.2.2.2.2.2.1 (Nat.not_le.mpr hr.2.2.2.2.2.2.2.1) c62 dL_law_330 rfl ?_
                    refine zr_aload_n (q := 332) g 0 dL_law_331 rfl rfl rfl ?_
                    refine zr_iload_n (q := 333) g 3 dL_law_332 rfl rfl rfl ?_
                    refine zr_iconst (q := 334) (v := (2 : Int32)) g dL_law_333 rfl (by decide) ?_
                    refine zr_iadd (q := 335) g dL_law_334 rfl ?_
                    obtain ⟨c63, hM⟩ := zw_gd hM
                    refine zr_sld (q := 336) g hr.2.2.2.2.2.2.1 hr.2.2.2.2.2.2.2.1 (Nat.not_le.mpr hr.2.2.2.2.2.2.2.1) c63 dL_law_335 rfl ?_
                    obtain ⟨z64, q65, hM⟩ := zw_bd hM
                    refine zr_callV (q := 339) (As := [.int (xs ((x3 + (1 : Int32))).toNatClampNeg), .int (xs ((x3 + (2 : Int32))).toNatClampNeg)]) (rest := [.int z60]) (st' := [.int z64.1, .int z60]) (i := 31) g (R_X9_bucket ok hI q65) zv_X9_bucket zl_L_47 (hI 31 (by decide)) zs_31 zc_X9.1 dL_law_336 rfl rfl ⟨Nat.le_of_ble_eq_true rfl, Nat.le_of_ble_eq_true rfl⟩ ⟨hlk, Nat.le_of_ble_eq_true rfl⟩ (Nat.le_of_ble_eq_true rfl) rfl rfl ?_
                    refine zr_icmp_eq (q := 342) (tgt := 977) g dL_law_339 rfl rfl (fun c66 => ?_) (fun c66 => ?_)
                    · replace hM := zw_ift c66 hM
                      exact U_L_law_977 ok hI g hr hlk eL18 _ _ _ hM hz
                    · replace hM := zw_iff c66 hM
                      refine zr_iconst (q := 343) (v := (0 : Int32)) g dL_law_342 rfl (by decide) ?_
                      cases hM
                      exact absurd hz (by decide)
                  · replace hM := zw_iff c57 hM
                    by_cases c67 : ((xs (x3).toNatClampNeg) &&& (31 : Int32)) = (8 : Int32)
                    · replace hM := zw_ift c67 hM
                      refine zr_tabIn (tgt := 344) (off := 312) g dL_law_32 c67 (by decide) rfl ?_
                      refine zr_aload_n (q := 345) g 1 dL_law_344 rfl rfl rfl ?_
                      obtain ⟨z68, q69, hM⟩ := zw_bd hM
                      refine zr_callV (q := 348) (As := []) (rest := []) (st' := [.int z68.1]) (i := 0) g (R_X8_beat ok hI q69) zv_X8_beat zl_L_48 (hI 0 (by decide)) zs_0 zc_X8.1 dL_law_345 rfl rfl ⟨Nat.le_of_ble_eq_true rfl, Nat.le_of_ble_eq_true rfl⟩ ⟨hlk, Nat.le_of_ble_eq_true rfl⟩ (Nat.le_of_ble_eq_true rfl) rfl rfl ?_
                      refine zr_aload_n (q := 349) g 2 dL_law_348 rfl rfl rfl ?_
                      obtain ⟨z70, q71, hM⟩ := zw_bd hM
                      refine zr_callV (q := 352) (As := []) (rest := [.int z68.1]) (st' := [.int z70.1, .int z68.1]) (i := 31) g (R_X9_beat ok hI q71) zv_X9_beat zl_L_51 (hI 31 (by decide)) zs_31 zc_X9.1 dL_law_349 rfl rfl ⟨Nat.le_of_ble_eq_true rfl, Nat.le_of_ble_eq_true rfl⟩ ⟨hlk, Nat.le_of_ble_eq_true rfl⟩ (Nat.le_of_ble_eq_true rfl) rfl rfl ?_
                      refine zr_icmp_eq (q := 355) (tgt := 977) g dL_law_352 rfl rfl (fun c72 => ?_) (fun c72 => ?_)
                      · replace hM := zw_ift c72 hM
                        exact U_L_law_977 ok hI g hr hlk eL18 _ _ _ hM hz
                      · replace hM := zw_iff c72 hM
                        refine zr_iconst (q := 356) (v := (0 : Int32)) g dL_law_355 rfl (by decide) ?_
                        cases hM
                        exact absurd hz (by decide)
                    · replace hM := zw_iff c67 hM
                      by_cases c73 : ((xs (x3).toNatClampNeg) &&& (31 : Int32)) = (9 : Int32)
                      · replace hM := zw_ift c73 hM
                        refine zr_tabIn (tgt := 357) (off := 325) g dL_law_32 c73 (by decide) rfl ?_
                        refine zr_aload_n (q := 358) g 1 dL_law_357 rfl rfl rfl ?_
                        refine zr_aload_n (q := 359) g 0 dL_law_358 rfl rfl rfl ?_
                        refine zr_iload_n (q := 360) g 3 dL_law_359 rfl rfl rfl ?_
                        refine zr_iconst (q := 361) (v := (1 : Int32)) g dL_law_360 rfl (by decide) ?_
                        refine zr_iadd (q := 362) g dL_law_361 rfl ?_
                        obtain ⟨c74, hM⟩ := zw_gd hM
                        refine zr_sld (q := 363) g hr.2.2.2.2.2.2.1 hr.2.2.2.2.2.2.2.1 (Nat.not_le.mpr hr.2.2.2.2.2.2.2.1) c74 dL_law_362 rfl ?_
                        refine zr_aload_n (q := 364) g 0 dL_law_363 rfl rfl rfl ?_
                        refine zr_iload_n (q := 365) g 3 dL_law_364 rfl rfl rfl ?_
                        refine zr_iconst (q := 366) (v := (2 : Int32)) g dL_law_365 rfl (by decide) ?_
                        refine zr_iadd (q := 367) g dL_law_366 rfl ?_
                        obtain ⟨c75, hM⟩ := zw_gd hM
                        refine zr_sld (q := 368) g hr.2.2.2.2.2.2.1 hr.2.2.2.2.2.2.2.1 (Nat.not_le.mpr hr.2.2.2.2.2.2.2.1) c75 dL_law_367 rfl ?_
                        obtain ⟨z76, q77, hM⟩ := zw_bd hM
                        refine zr_callV (q := 371) (As := [.int (xs ((x3 + (1 : Int32))).toNatClampNeg), .int (xs ((x3 + (2 : Int32))).toNatClampNeg)]) (rest := []) (st' := [.int z76.1]) (i := 0) g (R_X8_change ok hI q77) zv_X8_change zl_L_52 (hI 0 (by decide)) zs_0 zc_X8.1 dL_law_368 rfl rfl ⟨Nat.le_of_ble_eq_true rfl, Nat.le_of_ble_eq_true rfl⟩ ⟨hlk, Nat.le_of_ble_eq_true rfl⟩ (Nat.le_of_ble_eq_true rfl) rfl rfl ?_
                        refine zr_aload_n (q := 372) g 2 dL_law_371 rfl rfl rfl ?_
                        refine zr_aload_n (q := 373) g 0 dL_law_372 rfl rfl rfl ?_
                        refine zr_iload_n (q := 374) g 3 dL_law_373 rfl rfl rfl ?_
                        refine zr_iconst (q := 375) (v := (1 : Int32)) g dL_law_374 rfl (by decide) ?_
                        refine zr_iadd (q := 376) g dL_law_375 rfl ?_
                        obtain ⟨c78, hM⟩ := zw_gd hM
                        refine zr_sld (q := 377) g hr.2.2.2.2.2.2.1 hr.2.2.2.2.2.2.2.1 (Nat.not_le.mpr hr.2.2.2.2.2.2.2.1) c78 dL_law_376 rfl ?_
                        refine zr_aload_n (q := 378) g 0 dL_law_377 rfl rfl rfl ?_
                        refine zr_iload_n (q := 379) g 3 dL_law_378 rfl rfl rfl ?_
                        refine zr_iconst (q := 380) (v := (2 : Int32)) g dL_law_379 rfl (by decide) ?_
                        refine zr_iadd (q := 381) g dL_law_380 rfl ?_
                        obtain ⟨c79, hM⟩ := zw_gd hM
                        refine zr_sld (q := 382) g hr.2.2.2.2.2.2.1 hr.2.2.2.2.2.2.2.1 (Nat.not_le.mpr hr.2.2.2.2.2.2.2.1) c79 dL_law_381 rfl ?_
                        obtain ⟨z80, q81, hM⟩ := zw_bd hM
                        refine zr_callV (q := 385) (As := [.int (xs ((x3 + (1 : Int32))).toNatClampNeg), .int (xs ((x3 + (2 : Int32))).toNatClampNeg)]) (rest := [.int z76.1]) (st' := [.int z80.1, .int z76.1]) (i := 31) g (R_X9_change ok hI q81) zv_X9_change zl_L_55 (hI 31 (by decide)) zs_31 zc_X9.1 dL_law_382 rfl rfl ⟨Nat.le_of_ble_eq_true rfl, Nat.le_of_ble_eq_true rfl⟩ ⟨hlk, Nat.le_of_ble_eq_true rfl⟩ (Nat.le_of_ble_eq_true rfl) rfl rfl ?_
                        refine zr_icmp_eq (q := 388) (tgt := 977) g dL_law_385 rfl rfl (fun c82 => ?_) (fun c82 => ?_)
                        · replace hM := zw_ift c82 hM
                          exact U_L_law_977 ok hI g hr hlk eL18 _ _ _ hM hz
                        · replace hM := zw_iff c82 hM
                          refine zr_iconst (q := 389) (v := (0 : Int32)) g dL_law_388 rfl (by decide) ?_
                          cases hM
                          exact absurd hz (by decide)
                      · replace hM := zw_iff c73 hM
                        by_cases c83 : ((xs (x3).toNatClampNeg) &&& (31 : Int32)) = (10 : Int32)
                        · replace hM := zw_ift c83 hM
                          refine zr_tabIn (tgt := 390) (off := 358) g dL_law_32 c83 (by decide) rfl ?_
                          refine zr_aload_n (q := 391) g 1 dL_law_390 rfl rfl rfl ?_
                          refine zr_aload_n (q := 392) g 0 dL_law_391 rfl rfl rfl ?_
                          refine zr_iload_n (q := 393) g 3 dL_law_392 rfl rfl rfl ?_
                          refine zr_iconst (q := 394) (v := (1 : Int32)) g dL_law_393 rfl (by decide) ?_
                          refine zr_iadd (q := 395) g dL_law_394 rfl ?_
                          obtain ⟨c84, hM⟩ := zw_gd hM
                          refine zr_sld (q := 396) g hr.2.2.2.2.2.2.1 hr.2.2.2.2.2.2.2.1 (Nat.not_le.mpr hr.2.2.2.2.2.2.2.1) c84 dL_law_395 rfl ?_
                          obtain ⟨z85, q86, hM⟩ := zw_bd hM
                          refine zr_callV (q := 399) (As := [.int (xs ((x3 + (1 : Int32))).toNatClampNeg)]) (rest := []) (st' := [.int z85.1]) (i := 0) g (R_X8_mend ok hI q86) zv_X8_mend zl_L_56 (hI 0 (by decide)) zs_0 zc_X8.1 dL_law_396 rfl rfl ⟨Nat.le_of_ble_eq_true rfl, Nat.le_of_ble_eq_true rfl⟩ ⟨hlk, Nat.le_of_ble_eq_true rfl⟩ (Nat.le_of_ble_eq_true rfl) rfl rfl ?_
                          refine zr_aload_n (q := 400) g 2 dL_law_399 rfl rfl rfl ?_
                          refine zr_aload_n (q := 401) g 0 dL_law_400 rfl rfl rfl ?_
                          refine zr_iload_n (q := 402) g 3 dL_law_401 rfl rfl rfl ?_
                          refine zr_iconst (q := 403) (v := (1 : Int32)) g dL_law_402 rfl (by decide) ?_
                          refine zr_iadd (q := 404) g dL_law_403 rfl ?_
                          obtain ⟨c87, hM⟩ := zw_gd hM
                          refine zr_sld (q := 405) g hr.2.2.2.2.2.2.1 hr.2.2.2.2.2.2.2.1 (Nat.not_le.mpr hr.2.2.2.2.2.2.2.1) c87 dL_law_404 rfl ?_
                          obtain ⟨z88, q89, hM⟩ := zw_bd hM
                          refine zr_callV (q := 408) (As := [.int (xs ((x3 + (1 : Int32))).toNatClampNeg)]) (rest := [.int z85.1]) (st' := [.int z88.1, .int z85.1]) (i := 31) g (R_X9_mend ok hI q89) zv_X9_mend zl_L_59 (hI 31 (by decide)) zs_31 zc_X9.1 dL_law_405 rfl rfl ⟨Nat.le_of_ble_eq_true rfl, Nat.le_of_ble_eq_true rfl⟩ ⟨hlk, Nat.le_of_ble_eq_true rfl⟩ (Nat.le_of_ble_eq_true rfl) rfl rfl ?_
                          refine zr_icmp_eq (q := 411) (tgt := 977) g dL_law_408 rfl rfl (fun c90 => ?_) (fun c90 => ?_)
                          · replace hM := zw_ift c90 hM
                            exact U_L_law_977 ok hI g hr hlk eL18 _ _ _ hM hz
                          · replace hM := zw_iff c90 hM
                            refine zr_iconst (q := 412) (v := (0 : Int32)) g dL_law_411 rfl (by decide) ?_
                            cases hM
                            exact absurd hz (by decide)
                        · replace hM := zw_iff c83 hM
                          by_cases c91 : ((xs (x3).toNatClampNeg) &&& (31 : Int32)) = (11 : Int32)
                          · replace hM := zw_ift c91 hM
                            refine zr_tabIn (tgt := 413) (off := 381) g dL_law_32 c91 (by decide) rfl ?_
                            refine zr_aload_n (q := 414) g 1 dL_law_413 rfl rfl rfl ?_
                            refine zr_aload_n (q := 415) g 0 dL_law_414 rfl rfl rfl ?_
                            refine zr_iload_n (q := 416) g 3 dL_law_415 rfl rfl rfl ?_
                            refine zr_iconst (q := 417) (v := (1 : Int32)) g dL_law_416 rfl (by decide) ?_
                            refine zr_iadd (q := 418) g dL_law_417 rfl ?_
                            obtain ⟨c92, hM⟩ := zw_gd hM
                            refine zr_sld (q := 419) g hr.2.2.2.2.2.2.1 hr.2.2.2.2.2.2.2.1 (Nat.not_le.mpr hr.2.2.2.2.2.2.2.1) c92 dL_law_418 rfl ?_
                            obtain ⟨z93, q94, hM⟩ := zw_bd hM
                            refine zr_callV (q := 422) (As := [.int (xs ((x3 + (1 : Int32))).toNatClampNeg)]) (rest := []) (st' := [.int z93.1]) (i := 0) g (R_X8_drop ok hI q94) zv_X8_drop zl_L_60 (hI 0 (by decide)) zs_0 zc_X8.1 dL_law_419 rfl rfl ⟨Nat.le_of_ble_eq_true rfl, Nat.le_of_ble_eq_true rfl⟩ ⟨hlk, Nat.le_of_ble_eq_true rfl⟩ (Nat.le_of_ble_eq_true rfl) rfl rfl ?_
                            refine zr_aload_n (q := 423) g 2 dL_law_422 rfl rfl rfl ?_
                            refine zr_aload_n (q := 424) g 0 dL_law_423 rfl rfl rfl ?_
                            refine zr_iload_n (q := 425) g 3 dL_law_424 rfl rfl rfl ?_
                            refine zr_iconst (q := 426) (v := (1 : Int32)) g dL_law_425 rfl (by decide) ?_
                            refine zr_iadd (q := 427) g dL_law_426 rfl ?_
                            obtain ⟨c95, hM⟩ := zw_gd hM
                            refine zr_sld (q := 428) g hr.2.2.2.2.2.2.1 hr.2.2.2.2.2.2.2.1 (Nat.not_le.mpr hr.2.2.2.2.2.2.2.1) c95 dL_law_427 rfl ?_
                            obtain ⟨z96, q97, hM⟩ := zw_bd hM
                            refine zr_callV (q := 431) (As := [.int (xs ((x3 + (1 : Int32))).toNatClampNeg)]) (rest := [.int z93.1]) (st' := [.int z96.1, .int z93.1]) (i := 31) g (R_X9_drop ok hI q97) zv_X9_drop zl_L_63 (hI 31 (by decide)) zs_31 zc_X9.1 dL_law_428 rfl rfl ⟨Nat.le_of_ble_eq_true rfl, Nat.le_of_ble_eq_true rfl⟩ ⟨hlk, Nat.le_of_ble_eq_true rfl⟩ (Nat.le_of_ble_eq_true rfl) rfl rfl ?_
                            refine zr_icmp_eq (q := 434) (tgt := 977) g dL_law_431 rfl rfl (fun c98 => ?_) (fun c98 => ?_)
                            · replace hM := zw_ift c98 hM
                              exact U_L_law_977 ok hI g hr hlk eL18 _ _ _ hM hz
                            · replace hM := zw_iff c98 hM
                              refine zr_iconst (q := 435) (v := (0 : Int32)) g dL_law_434 rfl (by decide) ?_
                              cases hM
                              exact absurd hz (by decide)
                          · replace hM := zw_iff c91 hM
                            by_cases c99 : ((xs (x3).toNatClampNeg) &&& (31 : Int32)) = (12 : Int32)
                            · replace hM := zw_ift c99 hM
                              refine zr_tabIn (tgt := 436) (off := 404) g dL_law_32 c99 (by decide) rfl ?_
                              refine zr_aload_n (q := 437) g 1 dL_law_436 rfl rfl rfl ?_
                              obtain ⟨z100, q101, hM⟩ := zw_bd hM
                              refine zr_callV (q := 440) (As := []) (rest := []) (st' := [.int z100.1]) (i := 0) g (R_X8_undo ok hI q101) zv_X8_undo zl_L_64 (hI 0 (by decide)) zs_0 zc_X8.1 dL_law_437 rfl rfl ⟨Nat.le_of_ble_eq_true rfl, Nat.le_of_ble_eq_true rfl⟩ ⟨hlk, Nat.le_of_ble_eq_true rfl⟩ (Nat.le_of_ble_eq_true rfl) rfl rfl ?_
                              refine zr_aload_n (q := 441) g 2 dL_law_440 rfl rfl rfl ?_
                              obtain ⟨z102, q103, hM⟩ := zw_bd hM
                              refine zr_callV (q := 444) (As := []) (rest := [.int z100.1]) (st' := [.int z102.1, .int z100.1]) (i := 31) g (R_X9_undo ok hI q103) zv_X9_undo zl_L_67 (hI 31 (by decide)) zs_31 zc_X9.1 dL_law_441 rfl rfl ⟨Nat.le_of_ble_eq_true rfl, Nat.le_of_ble_eq_true rfl⟩ ⟨hlk, Nat.le_of_ble_eq_true rfl⟩ (Nat.le_of_ble_eq_true rfl) rfl rfl ?_
                              refine zr_icmp_eq (q := 447) (tgt := 977) g dL_law_444 rfl rfl (fun c104 => ?_) (fun c104 => ?_)
                              · replace hM := zw_ift c104 hM
                                exact U_L_law_977 ok hI g hr hlk eL18 _ _ _ hM hz
                              · replace hM := zw_iff c104 hM
                                refine zr_iconst (q := 448) (v := (0 : Int32)) g dL_law_447 rfl (by decide) ?_
                                cases hM
                                exact absurd hz (by decide)
                            · replace hM := zw_iff c99 hM
                              by_cases c105 : ((xs (x3).toNatClampNeg) &&& (31 : Int32)) = (13 : Int32)
                              · replace hM := zw_ift c105 hM
                                refine zr_tabIn (tgt := 449) (off := 417) g dL_law_32 c105 (by decide) rfl ?_
                                refine zr_aload_n (q := 450) g 1 dL_law_449 rfl rfl rfl ?_
                                refine zr_aload_n (q := 451) g 0 dL_law_450 rfl rfl rfl ?_
                                refine zr_iload_n (q := 452) g 3 dL_law_451 rfl rfl rfl ?_
                                refine zr_iconst (q := 453) (v := (1 : Int32)) g dL_law_452 rfl (by decide) ?_
                                refine zr_iadd (q := 454) g dL_law_453 rfl ?_
                                obtain ⟨c106, hM⟩ := zw_gd hM
                                refine zr_sld (q := 455) g hr.2.2.2.2.2.2.1 hr.2.2.2.2.2.2.2.1 (Nat.not_le.mpr hr.2.2.2.2.2.2.2.1) c106 dL_law_454 rfl ?_
                                refine zr_aload_n (q := 456) g 0 dL_law_455 rfl rfl rfl ?_
                                refine zr_iload_n (q := 457) g 3 dL_law_456 rfl rfl rfl ?_
                                refine zr_iconst (q := 458) (v := (2 : Int32)) g dL_law_457 rfl (by decide) ?_
                                refine zr_iadd (q := 459) g dL_law_458 rfl ?_
                                obtain ⟨c107, hM⟩ := zw_gd hM
                                refine zr_sld (q := 460) g hr.2.2.2.2.2.2.1 hr.2.2.2.2.2.2.2.1 (Nat.not_le.mpr hr.2.2.2.2.2.2.2.1) c107 dL_law_459 rfl ?_
                                obtain ⟨z108, q109, hM⟩ := zw_bd hM
                                refine zr_callV (q := 463) (As := [.int (xs ((x3 + (1 : Int32))).toNatClampNeg), .int (xs ((x3 + (2 : Int32))).toNatClampNeg)]) (rest := []) (st' := [.int z108.1]) (i := 0) g (R_X8_later ok hI q109) zv_X8_later zl_L_68 (hI 0 (by decide)) zs_0 zc_X8.1 dL_law_460 rfl rfl ⟨Nat.le_of_ble_eq_true rfl, Nat.le_of_ble_eq_true rfl⟩ ⟨hlk, Nat.le_of_ble_eq_true rfl⟩ (Nat.le_of_ble_eq_true rfl) rfl rfl ?_
                                refine zr_aload_n (q := 464) g 2 dL_law_463 rfl rfl rfl ?_
                                refine zr_aload_n (q := 465) g 0 dL_law_464 rfl rfl rfl ?_
                                refine zr_iload_n (q := 466) g 3 dL_law_465 rfl rfl rfl ?_
                                refine zr_iconst (q := 467) (v := (1 : Int32)) g dL_law_466 rfl (by decide) ?_
                                refine zr_iadd (q := 468) g dL_law_467 rfl ?_
                                obtain ⟨c110, hM⟩ := zw_gd hM
                                refine zr_sld (q := 469) g hr.2.2.2.2.2.2.1 hr.2.2.2.2.2.2.2.1 (Nat.not_le.mpr hr.2.2.2.2.2.2.2.1) c110 dL_law_468 rfl ?_
                                refine zr_aload_n (q := 470) g 0 dL_law_469 rfl rfl rfl ?_
                                refine zr_iload_n (q := 471) g 3 dL_law_470 rfl rfl rfl ?_
                                refine zr_iconst (q := 472) (v := (2 : Int32)) g dL_law_471 rfl (by decide) ?_
                                refine zr_iadd (q := 473) g dL_law_472 rfl ?_
                                obtain ⟨c111, hM⟩ := zw_gd hM
                                refine zr_sld (q := 474) g hr.2.2.2.2.2.2.1 hr.2.2.2.2.2.2.2.1 (Nat.not_le.mpr hr.2.2.2.2.2.2.2.1) c111 dL_law_473 rfl ?_
                                obtain ⟨z112, q113, hM⟩ := zw_bd hM
                                refine zr_callV (q := 477) (As := [.int (xs ((x3 + (1 : Int32))).toNatClampNeg), .int (xs ((x3 + (2 : Int32))).toNatClampNeg)]) (rest := [.int z108.1]) (st' := [.int z112.1, .int z108.1]) (i := 31) g (R_X9_later ok hI q113) zv_X9_later zl_L_71 (hI 31 (by decide)) zs_31 zc_X9.1 dL_law_474 rfl rfl ⟨Nat.le_of_ble_eq_true rfl, Nat.le_of_ble_eq_true rfl⟩ ⟨hlk, Nat.le_of_ble_eq_true rfl⟩ (Nat.le_of_ble_eq_true rfl) rfl rfl ?_
                                refine zr_icmp_eq (q := 480) (tgt := 977) g dL_law_477 rfl rfl (fun c114 => ?_) (fun c114 => ?_)
                                · replace hM := zw_ift c114 hM
                                  exact U_L_law_977 ok hI g hr hlk eL18 _ _ _ hM hz
                                · replace hM := zw_iff c114 hM
                                  refine zr_iconst (q := 481) (v := (0 : Int32)) g dL_law_480 rfl (by decide) ?_
                                  cases hM
                                  exact absurd hz (by decide)
                              · replace hM := zw_iff c105 hM
                                by_cases c115 : ((xs (x3).toNatClampNeg) &&& (31 : Int32)) = (14 : Int32)
                                · replace hM := zw_ift c115 hM
                                  refine zr_tabIn (tgt := 482) (off := 450) g dL_law_32 c115 (by decide) rfl ?_
                                  refine zr_aload_n (q := 483) g 1 dL_law_482 rfl rfl rfl ?_
                                  obtain ⟨z116, q117, hM⟩ := zw_bd hM
                                  refine zr_callV (q := 486) (As := []) (rest := []) (st' := [.int z116.1]) (i := 0) g (R_X8_out ok hI q117) zv_X8_out zl_L_72 (hI 0 (by decide)) zs_0 zc_X8.1 dL_law_483 rfl rfl ⟨Nat.le_of_ble_eq_true rfl, Nat.le_of_ble_eq_true rfl⟩ ⟨hlk, Nat.le_of_ble_eq_true rfl⟩ (Nat.le_of_ble_eq_true rfl) rfl rfl ?_
                                  refine zr_aload_n (q := 487) g 2 dL_law_486 rfl rfl rfl ?_
                                  obtain ⟨z118, q119, hM⟩ := zw_bd hM
                                  refine zr_callV (q := 490) (As := []) (rest := [.int z116.1]) (st' := [.int z118.1, .int z116.1]) (i := 31) g (R_X9_out ok hI q119) zv_X9_out zl_L_75 (hI 31 (by decide)) zs_31 zc_X9.1 dL_law_487 rfl rfl ⟨Nat.le_of_ble_eq_true rfl, Nat.le_of_ble_eq_true rfl⟩ ⟨hlk, Nat.le_of_ble_eq_true rfl⟩ (Nat.le_of_ble_eq_true rfl) rfl rfl ?_
                                  refine zr_icmp_eq (q := 493) (tgt := 977) g dL_law_490 rfl rfl (fun c120 => ?_) (fun c120 => ?_)
                                  · replace hM := zw_ift c120 hM
                                    exact U_L_law_977 ok hI g hr hlk eL18 _ _ _ hM hz
                                  · replace hM := zw_iff c120 hM
                                    refine zr_iconst (q := 494) (v := (0 : Int32)) g dL_law_493 rfl (by decide) ?_
                                    cases hM
                                    exact absurd hz (by decide)
                                · replace hM := zw_iff c115 hM
                                  by_cases c121 : ((xs (x3).toNatClampNeg) &&& (31 : Int32)) = (15 : Int32)
                                  · replace hM := zw_ift c121 hM
                                    refine zr_tabIn (tgt := 495) (off := 463) g dL_law_32 c121 (by decide) rfl ?_
                                    refine zr_aload_n (q := 496) g 1 dL_law_495 rfl rfl rfl ?_
                                    refine zr_aload_n (q := 497) g 0 dL_law_496 rfl rfl rfl ?_
                                    refine zr_iload_n (q := 498) g 3 dL_law_497 rfl rfl rfl ?_
                                    refine zr_iconst (q := 499) (v := (1 : Int32)) g dL_law_498 rfl (by decide) ?_
                                    refine zr_iadd (q := 500) g dL_law_499 rfl ?_
                                    obtain ⟨c122, hM⟩ := zw_gd hM
                                    refine zr_sld (q := 501) g hr.2.2.2.2.2.2.1 hr.2.2.2.2.2.2.2.1 (Nat.not_le.mpr hr.2.2.2.2.2.2.2.1) c122 dL_law_500 rfl ?_
                                    refine zr_aload_n (q := 502) g 0 dL_law_501 rfl rfl rfl ?_
                                    refine zr_iload_n (q := 503) g 3 dL_law_502 rfl rfl rfl ?_
                                    refine zr_iconst (q := 504) (v := (2 : Int32)) g dL_law_503 rfl (by decide) ?_
                                    refine zr_iadd (q := 505) g dL_law_504 rfl ?_
                                    obtain ⟨c123, hM⟩ := zw_gd hM
                                    refine zr_sld (q := 506) g hr.2.2.2.2.2.2.1 hr.2.2.2.2.2.2.2.1 (Nat.not_le.mpr hr.2.2.2.2.2.2.2.1) c123 dL_law_505 rfl ?_
                                    obtain ⟨z124, q125, hM⟩ := zw_bd hM
                                    refine zr_callV (q := 509) (As := [.int (xs ((x3 + (1 : Int32))).toNatClampNeg), .int (xs ((x3 + (2 : Int32))).toNatClampNeg)]) (rest := []) (st' := [.int z124.1]) (i := 0) g (R_X8_swap ok hI q125) zv_X8_swap zl_L_76 (hI 0 (by decide)) zs_0 zc_X8.1 dL_law_506 rfl rfl ⟨Nat.le_of_ble_eq_true rfl, Nat.le_of_ble_eq_true rfl⟩ ⟨hlk, Nat.le_of_ble_eq_true rfl⟩ (Nat.le_of_ble_eq_true rfl) rfl rfl ?_
                                    refine zr_aload_n (q := 510) g 2 dL_law_509 rfl rfl rfl ?_
                                    refine zr_aload_n (q := 511) g 0 dL_law_510 rfl rfl rfl ?_
                                    refine zr_iload_n (q := 512) g 3 dL_law_511 rfl rfl rfl ?_
                                    refine zr_iconst (q := 513) (v := (1 : Int32)) g dL_law_512 rfl (by decide) ?_
                                    refine zr_iadd (q := 514) g dL_law_513 rfl ?_
                                    obtain ⟨c126, hM⟩ := zw_gd hM
                                    refine zr_sld (q := 515) g hr.2.2.2.2.2.2.1 hr.2.2.2.2.2.2.2.1 (Nat.not_le.mpr hr.2.2.2.2.2.2.2.1) c126 dL_law_514 rfl ?_
                                    refine zr_aload_n (q := 516) g 0 dL_law_515 rfl rfl rfl ?_
                                    refine zr_iload_n (q := 517) g 3 dL_law_516 rfl rfl rfl ?_
                                    refine zr_iconst (q := 518) (v := (2 : Int32)) g dL_law_517 rfl (by decide) ?_
                                    refine zr_iadd (q := 519) g dL_law_518 rfl ?_
                                    obtain ⟨c127, hM⟩ := zw_gd hM
                                    refine zr_sld (q := 520) g hr.2.2.2.2.2.2.1 hr.2.2.2.2.2.2.2.1 (Nat.not_le.mpr hr.2.2.2.2.2.2.2.1) c127 dL_law_519 rfl ?_
                                    obtain ⟨z128, q129, hM⟩ := zw_bd hM
                                    refine zr_callV (q := 523) (As := [.int (xs ((x3 + (1 : Int32))).toNatClampNeg), .int (xs ((x3 + (2 : Int32))).toNatClampNeg)]) (rest := [.int z124.1]) (st' := [.int z128.1, .int z124.1]) (i := 31) g (R_X9_swap ok hI q129) zv_X9_swap zl_L_79 (hI 31 (by decide)) zs_31 zc_X9.1 dL_law_520 rfl rfl ⟨Nat.le_of_ble_eq_true rfl, Nat.le_of_ble_eq_true rfl⟩ ⟨hlk, Nat.le_of_ble_eq_true rfl⟩ (Nat.le_of_ble_eq_true rfl) rfl rfl ?_
                                    refine zr_icmp_eq (q := 526) (tgt := 977) g dL_law_523 rfl rfl (fun c130 => ?_) (fun c130 => ?_)
                                    · replace hM := zw_ift c130 hM
                                      exact U_L_law_977 ok hI g hr hlk eL18 _ _ _ hM hz
                                    · replace hM := zw_iff c130 hM
                                      refine zr_iconst (q := 527) (v := (0 : Int32)) g dL_law_526 rfl (by decide) ?_
                                      cases hM
                                      exact absurd hz (by decide)
                                  · replace hM := zw_iff c121 hM
                                    by_cases c131 : ((xs (x3).toNatClampNeg) &&& (31 : Int32)) = (16 : Int32)
                                    · replace hM := zw_ift c131 hM
                                      refine zr_tabIn (tgt := 528) (off := 496) g dL_law_32 c131 (by decide) rfl ?_
                                      refine zr_aload_n (q := 529) g 1 dL_law_528 rfl rfl rfl ?_
                                      refine zr_aload_n (q := 530) g 0 dL_law_529 rfl rfl rfl ?_
                                      refine zr_iload_n (q := 531) g 3 dL_law_530 rfl rfl rfl ?_
                                      refine zr_iconst (q := 532) (v := (1 : Int32)) g dL_law_531 rfl (by decide) ?_
                                      refine zr_iadd (q := 533) g dL_law_532 rfl ?_
                                      obtain ⟨c132, hM⟩ := zw_gd hM
                                      refine zr_sld (q := 534) g hr.2.2.2.2.2.2.1 hr.2.2.2.2.2.2.2.1 (Nat.not_le.mpr hr.2.2.2.2.2.2.2.1) c132 dL_law_533 rfl ?_
                                      refine zr_aload_n (q := 535) g 0 dL_law_534 rfl rfl rfl ?_
                                      refine zr_iload_n (q := 536) g 3 dL_law_535 rfl rfl rfl ?_
                                      refine zr_iconst (q := 537) (v := (2 : Int32)) g dL_law_536 rfl (by decide) ?_
                                      refine zr_iadd (q := 538) g dL_law_537 rfl ?_
                                      obtain ⟨c133, hM⟩ := zw_gd hM
                                      refine zr_sld (q := 539) g hr.2.2.2.2.2.2.1 hr.2.2.2.2.2.2.2.1 (Nat.not_le.mpr hr.2.2.2.2.2.2.2.1) c133 dL_law_538 rfl ?_
                                      obtain ⟨z134, q135, hM⟩ := zw_bd hM
                                      refine zr_callV (q := 542) (As := [.int (xs ((x3 + (1 : Int32))).toNatClampNeg), .int (xs ((x3 + (2 : Int32))).toNatClampNeg)]) (rest := []) (st' := [.int z134.1]) (i := 0) g (R_X8_line ok hI q135) zv_X8_line zl_L_80 (hI 0 (by decide)) zs_0 zc_X8.1 dL_law_539 rfl rfl ⟨Nat.le_of_ble_eq_true rfl, Nat.le_of_ble_eq_true rfl⟩ ⟨hlk, Nat.le_of_ble_eq_true rfl⟩ (Nat.le_of_ble_eq_true rfl) rfl rfl ?_
                                      refine zr_aload_n (q := 543) g 2 dL_law_542 rfl rfl rfl ?_
                                      refine zr_aload_n (q := 544) g 0 dL_law_543 rfl rfl rfl ?_
                                      refine zr_iload_n (q := 545) g 3 dL_law_544 rfl rfl rfl ?_
                                      refine zr_iconst (q := 546) (v := (1 : Int32)) g dL_law_545 rfl (by decide) ?_
                                      refine zr_iadd (q := 547) g dL_law_546 rfl ?_
                                      obtain ⟨c136, hM⟩ := zw_gd hM
                                      refine zr_sld (q := 548) g hr.2.2.2.2.2.2.1 hr.2.2.2.2.2.2.2.1 (Nat.not_le.mpr hr.2.2.2.2.2.2.2.1) c136 dL_law_547 rfl ?_
                                      refine zr_aload_n (q := 549) g 0 dL_law_548 rfl rfl rfl ?_
                                      refine zr_iload_n (q := 550) g 3 dL_law_549 rfl rfl rfl ?_
                                      refine zr_iconst (q := 551) (v := (2 : Int32)) g dL_law_550 rfl (by decide) ?_
                                      refine zr_iadd (q := 552) g dL_law_551 rfl ?_
                                      obtain ⟨c137, hM⟩ := zw_gd hM
                                      refine zr_sld (q := 553) g hr.2.2.2.2.2.2.1 hr.2.2.2.2.2.2.2.1 (Nat.not_le.mpr hr.2.2.2.2.2.2.2.1) c137 dL_law_552 rfl ?_
                                      obtain ⟨z138, q139, hM⟩ := zw_bd hM
                                      refine zr_callV (q := 556) (As := [.int (xs ((x3 + (1 : Int32))).toNatClampNeg), .int (xs ((x3 + (2 : Int32))).toNatClampNeg)]) (rest := [.int z134.1]) (st' := [.int z138.1, .int z134.1]) (i := 31) g (R_X9_line ok hI q139) zv_X9_line zl_L_83 (hI 31 (by decide)) zs_31 zc_X9.1 dL_law_553 rfl rfl ⟨Nat.le_of_ble_eq_true rfl, Nat.le_of_ble_eq_true rfl⟩ ⟨hlk, Nat.le_of_ble_eq_true rfl⟩ (Nat.le_of_ble_eq_true rfl) rfl rfl ?_
                                      refine zr_icmp_eq (q := 559) (tgt := 977) g dL_law_556 rfl rfl (fun c140 => ?_) (fun c140 => ?_)
                                      · replace hM := zw_ift c140 hM
                                        exact U_L_law_977 ok hI g hr hlk eL18 _ _ _ hM hz
                                      · replace hM := zw_iff c140 hM
                                        refine zr_iconst (q := 560) (v := (0 : Int32)) g dL_law_559 rfl (by decide) ?_
                                        cases hM
                                        exact absurd hz (by decide)
                                    · replace hM := zw_iff c131 hM
                                      by_cases c141 : ((xs (x3).toNatClampNeg) &&& (31 : Int32)) = (17 : Int32)
                                      · replace hM := zw_ift c141 hM
                                        refine zr_tabIn (tgt := 561) (off := 529) g dL_law_32 c141 (by decide) rfl ?_
                                        refine zr_aload_n (q := 562) g 1 dL_law_561 rfl rfl rfl ?_
                                        refine zr_aload_n (q := 563) g 0 dL_law_562 rfl rfl rfl ?_
                                        refine zr_iload_n (q := 564) g 3 dL_law_563 rfl rfl rfl ?_
                                        refine zr_iconst (q := 565) (v := (1 : Int32)) g dL_law_564 rfl (by decide) ?_
                                        refine zr_iadd (q := 566) g dL_law_565 rfl ?_
                                        obtain ⟨c142, hM⟩ := zw_gd hM
                                        refine zr_sld (q := 567) g hr.2.2.2.2.2.2.1 hr.2.2.2.2.2.2.2.1 (Nat.not_le.mpr hr.2.2.2.2.2.2.2.1) c142 dL_law_566 rfl ?_
                                        refine zr_aload_n (q := 568) g 0 dL_law_567 rfl rfl rfl ?_
                                        refine zr_iload_n (q := 569) g 3 dL_law_568 rfl rfl rfl ?_
                                        refine zr_iconst (q := 570) (v := (2 : Int32)) g dL_law_569 rfl (by decide) ?_
                                        refine zr_iadd (q := 571) g dL_law_570 rfl ?_
                                        obtain ⟨c143, hM⟩ := zw_gd hM
                                        refine zr_sld (q := 572) g hr.2.2.2.2.2.2.1 hr.2.2.2.2.2.2.2.1 (Nat.not_le.mpr hr.2.2.2.2.2.2.2.1) c143 dL_law_571 rfl ?_
                                        refine zr_i2l (q := 573) g dL_law_572 rfl ?_
                                        refine zr_bipush (q := 575) (v := (32 : Int32)) g dL_law_573 rfl (by decide) ?_
                                        refine zr_lshl (q := 576) g dL_law_575 rfl ?_
                                        refine zr_aload_n (q := 577) g 0 dL_law_576 rfl rfl rfl ?_
                                        refine zr_iload_n (q := 578) g 3 dL_law_577 rfl rfl rfl ?_
                                        refine zr_iconst (q := 579) (v := (3 : Int32)) g dL_law_578 rfl (by decide) ?_
                                        refine zr_iadd (q := 580) g dL_law_579 rfl ?_
                                        obtain ⟨c144, hM⟩ := zw_gd hM
                                        refine zr_sld (q := 581) g hr.2.2.2.2.2.2.1 hr.2.2.2.2.2.2.2.1 (Nat.not_le.mpr hr.2.2.2.2.2.2.2.1) c144 dL_law_580 rfl ?_
                                        refine zr_i2l (q := 582) g dL_law_581 rfl ?_
                                        refine zr_ldc2 (q := 585) (v := (4294967295 : Int64)) g dL_law_582 rfl zk_L_84 ?_
                                        refine zr_land (q := 586) g dL_law_585 rfl ?_
                                        refine zr_lor (q := 587) g dL_law_586 rfl ?_
                                        obtain ⟨z145, q146, hM⟩ := zw_bd hM
                                        refine zr_callV (q := 590) (As := [.int (xs ((x3 + (1 : Int32))).toNatClampNeg), .long ((((xs ((x3 + (2 : Int32))).toNatClampNeg)).toInt64 <<< (((32 : Int32)).toInt64 &&& 63)) ||| (((xs ((x3 + (3 : Int32))).toNatClampNeg)).toInt64 &&& (4294967295 : Int64)))]) (rest := []) (st' := [.int z145.1]) (i := 0) g (R_X8_judge ok hI q146) zv_X8_judge zl_L_86 (hI 0 (by decide)) zs_0 zc_X8.1 dL_law_587 rfl rfl ⟨Nat.le_of_ble_eq_true rfl, Nat.le_of_ble_eq_true rfl⟩ ⟨hlk, Nat.le_of_ble_eq_true rfl⟩ (Nat.le_of_ble_eq_true rfl) rfl rfl ?_
                                        refine zr_aload_n (q := 591) g 2 dL_law_590 rfl rfl rfl ?_
                                        refine zr_aload_n (q := 592) g 0 dL_law_591 rfl rfl rfl ?_
                                        refine zr_iload_n (q := 593) g 3 dL_law_592 rfl rfl rfl ?_
                                        refine zr_iconst (q := 594) (v := (1 : Int32)) g dL_law_593 rfl (by decide) ?_
                                        refine zr_iadd (q := 595) g dL_law_594 rfl ?_
                                        obtain ⟨c147, hM⟩ := zw_gd hM
                                        refine zr_sld (q := 596) g hr.2.2.2.2.2.2.1 hr.2.2.2.2.2.2.2.1 (Nat.not_le.mpr hr.2.2.2.2.2.2.2.1) c147 dL_law_595 rfl ?_
                                        refine zr_aload_n (q := 597) g 0 dL_law_596 rfl rfl rfl ?_
                                        refine zr_iload_n (q := 598) g 3 dL_law_597 rfl rfl rfl ?_
                                        refine zr_iconst (q := 599) (v := (2 : Int32)) g dL_law_598 rfl (by decide) ?_
                                        refine zr_iadd (q := 600) g dL_law_599 rfl ?_
                                        obtain ⟨c148, hM⟩ := zw_gd hM
                                        refine zr_sld (q := 601) g hr.2.2.2.2.2.2.1 hr.2.2.2.2.2.2.2.1 (Nat.not_le.mpr hr.2.2.2.2.2.2.2.1) c148 dL_law_600 rfl ?_
                                        refine zr_i2l (q := 602) g dL_law_601 rfl ?_
                                        refine zr_bipush (q := 604) (v := (32 : Int32)) g dL_law_602 rfl (by decide) ?_
                                        refine zr_lshl (q := 605) g dL_law_604 rfl ?_
                                        refine zr_aload_n (q := 606) g 0 dL_law_605 rfl rfl rfl ?_
                                        refine zr_iload_n (q := 607) g 3 dL_law_606 rfl rfl rfl ?_
                                        refine zr_iconst (q := 608) (v := (3 : Int32)) g dL_law_607 rfl (by decide) ?_
                                        refine zr_iadd (q := 609) g dL_law_608 rfl ?_
                                        obtain ⟨c149, hM⟩ := zw_gd hM
                                        refine zr_sld (q := 610) g hr.2.2.2.2.2.2.1 hr.2.2.2.2.2.2.2.1 (Nat.not_le.mpr hr.2.2.2.2.2.2.2.1) c149 dL_law_609 rfl ?_
                                        refine zr_i2l (q := 611) g dL_law_610 rfl ?_
                                        refine zr_ldc2 (q := 614) (v := (4294967295 : Int64)) g dL_law_611 rfl zk_L_84 ?_
                                        refine zr_land (q := 615) g dL_law_614 rfl ?_
                                        refine zr_lor (q := 616) g dL_law_615 rfl ?_
                                        obtain ⟨z150, q151, hM⟩ := zw_bd hM
                                        refine zr_callV (q := 619) (As := [.int (xs ((x3 + (1 : Int32))).toNatClampNeg), .long ((((xs ((x3 + (2 : Int32))).toNatClampNeg)).toInt64 <<< (((32 : Int32)).toInt64 &&& 63)) ||| (((xs ((x3 + (3 : Int32))).toNatClampNeg)).toInt64 &&& (4294967295 : Int64)))]) (rest := [.int z145.1]) (st' := [.int z150.1, .int z145.1]) (i := 31) g (R_X9_judge ok hI q151) zv_X9_judge zl_L_90 (hI 31 (by decide)) zs_31 zc_X9.1 dL_law_616 rfl rfl ⟨Nat.le_of_ble_eq_true rfl, Nat.le_of_ble_eq_true rfl⟩ ⟨hlk, Nat.le_of_ble_eq_true rfl⟩ (Nat.le_of_ble_eq_true rfl) rfl rfl ?_
                                        refine zr_icmp_eq (q := 622) (tgt := 977) g dL_law_619 rfl rfl (fun c152 => ?_) (fun c152 => ?_)
                                        · replace hM := zw_ift c152 hM
                                          exact U_L_law_977 ok hI g hr hlk eL18 _ _ _ hM hz
                                        · replace hM := zw_iff c152 hM
                                          refine zr_iconst (q := 623) (v := (0 : Int32)) g dL_law_622 rfl (by decide) ?_
                                          cases hM
                                          exact absurd hz (by decide)
                                      · replace hM := zw_iff c141 hM
                                        by_cases c153 : ((xs (x3).toNatClampNeg) &&& (31 : Int32)) = (18 : Int32)
                                        · replace hM := zw_ift c153 hM
                                          refine zr_tabIn (tgt := 624) (off := 592) g dL_law_32 c153 (by decide) rfl ?_
                                          refine zr_aload_n (q := 625) g 1 dL_law_624 rfl rfl rfl ?_
                                          refine zr_aload_n (q := 626) g 0 dL_law_625 rfl rfl rfl ?_
                                          refine zr_iload_n (q := 627) g 3 dL_law_626 rfl rfl rfl ?_
                                          refine zr_iconst (q := 628) (v := (1 : Int32)) g dL_law_627 rfl (by decide) ?_
                                          refine zr_iadd (q := 629) g dL_law_628 rfl ?_
                                          obtain ⟨c154, hM⟩ := zw_gd hM
                                          refine zr_sld (q := 630) g hr.2.2.2.2.2.2.1 hr.2.2.2.2.2.2.2.1 (Nat.not_le.mpr hr.2.2.2.2.2.2.2.1) c154 dL_law_629 rfl ?_
                                          refine zr_aload_n (q := 631) g 0 dL_law_630 rfl rfl rfl ?_
                                          refine zr_iload_n (q := 632) g 3 dL_law_631 rfl rfl rfl ?_
                                          refine zr_iconst (q := 633) (v := (2 : Int32)) g dL_law_632 rfl (by decide) ?_
                                          refine zr_iadd (q := 634) g dL_law_633 rfl ?_
                                          obtain ⟨c155, hM⟩ := zw_gd hM
                                          refine zr_sld (q := 635) g hr.2.2.2.2.2.2.1 hr.2.2.2.2.2.2.2.1 (Nat.not_le.mpr hr.2.2.2.2.2.2.2.1) c155 dL_law_634 rfl ?_
                                          refine zr_if_eq (q := 638) (tgt := 642) g dL_law_635 rfl rfl (fun c156 => ?_) (fun c156 => ?_)
                                          · replace hM := zw_ift c156 hM
                                            refine zr_iconst (q := 643) (v := (0 : Int32)) g dL_law_642 rfl (by decide) ?_
                                            exact U_L_law_643 ok hI g hr hlk eL18 _ _ _ _ _ hM hz
                                          · replace hM := zw_iff c156 hM
                                            refine zr_iconst (q := 639) (v := (1 : Int32)) g dL_law_638 rfl (by decide) ?_
                                            refine zr_goto (tgt := 643) g dL_law_639 rfl ?_
                                            exact U_L_law_643 ok hI g hr hlk eL18 _ _ _ _ _ hM hz
                                        · replace hM := zw_iff c153 hM
                                          by_cases c157 : ((xs (x3).toNatClampNeg) &&& (31 : Int32)) = (19 : Int32)
                                          · replace hM := zw_ift c157 hM
                                            refine zr_tabIn (tgt := 673) (off := 641) g dL_law_32 c157 (by decide) rfl ?_
                                            refine zr_aload_n (q := 674) g 1 dL_law_673 rfl rfl rfl ?_
                                            refine zr_aload_n (q := 675) g 0 dL_law_674 rfl rfl rfl ?_
                                            refine zr_iload_n (q := 676) g 3 dL_law_675 rfl rfl rfl ?_
                                            refine zr_iconst (q := 677) (v := (1 : Int32)) g dL_law_676 rfl (by decide) ?_
                                            refine zr_iadd (q := 678) g dL_law_677 rfl ?_
                                            obtain ⟨c158, hM⟩ := zw_gd hM
                                            refine zr_sld (q := 679) g hr.2.2.2.2.2.2.1 hr.2.2.2.2.2.2.2.1 (Nat.not_le.mpr hr.2.2.2.2.2.2.2.1) c158 dL_law_678 rfl ?_
                                            refine zr_aload_n (q := 680) g 0 dL_law_679 rfl rfl rfl ?_
                                            refine zr_iload_n (q := 681) g 3 dL_law_680 rfl rfl rfl ?_
                                            refine zr_iconst (q := 682) (v := (2 : Int32)) g dL_law_681 rfl (by decide) ?_
                                            refine zr_iadd (q := 683) g dL_law_682 rfl ?_
                                            obtain ⟨c159, hM⟩ := zw_gd hM
                                            refine zr_sld (q := 684) g hr.2.2.2.2.2.2.1 hr.2.2.2.2.2.2.2.1 (Nat.not_le.mpr hr.2.2.2.2.2.2.2.1) c159 dL_law_683 rfl ?_
                                            refine zr_aload_n (q := 685) g 0 dL_law_684 rfl rfl rfl ?_
                                            refine zr_iload_n (q := 686) g 3 dL_law_685 rfl rfl rfl ?_
                                            refine zr_iconst (q := 687) (v := (3 : Int32)) g dL_law_686 rfl (by decide) ?_
                                            refine zr_iadd (q := 688) g dL_law_687 rfl ?_
                                            obtain ⟨c160, hM⟩ := zw_gd hM
                                            refine zr_sld (q := 689) g hr.2.2.2.2.2.2.1 hr.2.2.2.2.2.2.2.1 (Nat.not_le.mpr hr.2.2.2.2.2.2.2.1) c160 dL_law_688 rfl ?_
                                            obtain ⟨z161, q162, hM⟩ := zw_bd hM
                                            refine zr_callV (q := 692) (As := [.int (xs ((x3 + (1 : Int32))).toNatClampNeg), .int (xs ((x3 + (2 : Int32))).toNatClampNeg), .int (xs ((x3 + (3 : Int32))).toNatClampNeg)]) (rest := []) (st' := [.int z161.1]) (i := 0) g (R_X8_see ok hI q162) zv_X8_see zl_L_96 (hI 0 (by decide)) zs_0 zc_X8.1 dL_law_689 rfl rfl ⟨Nat.le_of_ble_eq_true rfl, Nat.le_of_ble_eq_true rfl⟩ ⟨hlk, Nat.le_of_ble_eq_true rfl⟩ (Nat.le_of_ble_eq_true rfl) rfl rfl ?_
                                            refine zr_aload_n (q := 693) g 2 dL_law_692 rfl rfl rfl ?_
                                            refine zr_aload_n (q := 694) g 0 dL_law_693 rfl rfl rfl ?_
                                            refine zr_iload_n (q := 695) g 3 dL_law_694 rfl rfl rfl ?_
                                            refine zr_iconst (q := 696) (v := (1 : Int32)) g dL_law_695 rfl (by decide) ?_
                                            refine zr_iadd (q := 697) g dL_law_696 rfl ?_
                                            obtain ⟨c163, hM⟩ := zw_gd hM
                                            refine zr_sld (q := 698) g hr.2.2.2.2.2.2.1 hr.2.2.2.2.2.2.2.1 (Nat.not_le.mpr hr.2.2.2.2.2.2.2.1) c163 dL_law_697 rfl ?_
                                            refine zr_aload_n (q := 699) g 0 dL_law_698 rfl rfl rfl ?_
                                            refine zr_iload_n (q := 700) g 3 dL_law_699 rfl rfl rfl ?_
                                            refine zr_iconst (q := 701) (v := (2 : Int32)) g dL_law_700 rfl (by decide) ?_
                                            refine zr_iadd (q := 702) g dL_law_701 rfl ?_
                                            obtain ⟨c164, hM⟩ := zw_gd hM
                                            refine zr_sld (q := 703) g hr.2.2.2.2.2.2.1 hr.2.2.2.2.2.2.2.1 (Nat.not_le.mpr hr.2.2.2.2.2.2.2.1) c164 dL_law_702 rfl ?_
                                            refine zr_aload_n (q := 704) g 0 dL_law_703 rfl rfl rfl ?_
                                            refine zr_iload_n (q := 705) g 3 dL_law_704 rfl rfl rfl ?_
                                            refine zr_iconst (q := 706) (v := (3 : Int32)) g dL_law_705 rfl (by decide) ?_
                                            refine zr_iadd (q := 707) g dL_law_706 rfl ?_
                                            obtain ⟨c165, hM⟩ := zw_gd hM
                                            refine zr_sld (q := 708) g hr.2.2.2.2.2.2.1 hr.2.2.2.2.2.2.2.1 (Nat.not_le.mpr hr.2.2.2.2.2.2.2.1) c165 dL_law_707 rfl ?_
                                            obtain ⟨z166, q167, hM⟩ := zw_bd hM
                                            refine zr_callV (q := 711) (As := [.int (xs ((x3 + (1 : Int32))).toNatClampNeg), .int (xs ((x3 + (2 : Int32))).toNatClampNeg), .int (xs ((x3 + (3 : Int32))).toNatClampNeg)]) (rest := [.int z161.1]) (st' := [.int z166.1, .int z161.1]) (i := 31) g (R_X9_see ok hI q167) zv_X9_see zl_L_100 (hI 31 (by decide)) zs_31 zc_X9.1 dL_law_708 rfl rfl ⟨Nat.le_of_ble_eq_true rfl, Nat.le_of_ble_eq_true rfl⟩ ⟨hlk, Nat.le_of_ble_eq_true rfl⟩ (Nat.le_of_ble_eq_true rfl) rfl rfl ?_
                                            refine zr_icmp_eq (q := 714) (tgt := 977) g dL_law_711 rfl rfl (fun c168 => ?_) (fun c168 => ?_)
                                            · replace hM := zw_ift c168 hM
                                              exact U_L_law_977 ok hI g hr hlk eL18 _ _ _ hM hz
                                            · replace hM := zw_iff c168 hM
                                              refine zr_iconst (q := 715) (v := (0 : Int32)) g dL_law_714 rfl (by decide) ?_
                                              cases hM
                                              exact absurd hz (by decide)
                                          · replace hM := zw_iff c157 hM
                                            by_cases c169 : ((xs (x3).toNatClampNeg) &&& (31 : Int32)) = (20 : Int32)
                                            · replace hM := zw_ift c169 hM
                                              refine zr_tabIn (tgt := 716) (off := 684) g dL_law_32 c169 (by decide) rfl ?_
                                              refine zr_aload_n (q := 717) g 1 dL_law_716 rfl rfl rfl ?_
                                              obtain ⟨z170, q171, hM⟩ := zw_bd hM
                                              refine zr_callV (q := 720) (As := []) (rest := []) (st' := [.int z170.1]) (i := 0) g (R_X8_unsee ok hI q171) zv_X8_unsee zl_L_101 (hI 0 (by decide)) zs_0 zc_X8.1 dL_law_717 rfl rfl ⟨Nat.le_of_ble_eq_true rfl, Nat.le_of_ble_eq_true rfl⟩ ⟨hlk, Nat.le_of_ble_eq_true rfl⟩ (Nat.le_of_ble_eq_true rfl) rfl rfl ?_
                                              refine zr_aload_n (q := 721) g 2 dL_law_720 rfl rfl rfl ?_
                                              obtain ⟨z172, q173, hM⟩ := zw_bd hM
                                              refine zr_callV (q := 724) (As := []) (rest := [.int z170.1]) (st' := [.int z172.1, .int z170.1]) (i := 31) g (R_X9_unsee ok hI q173) zv_X9_unsee zl_L_104 (hI 31 (by decide)) zs_31 zc_X9.1 dL_law_721 rfl rfl ⟨Nat.le_of_ble_eq_true rfl, Nat.le_of_ble_eq_true rfl⟩ ⟨hlk, Nat.le_of_ble_eq_true rfl⟩ (Nat.le_of_ble_eq_true rfl) rfl rfl ?_
                                              refine zr_icmp_eq (q := 727) (tgt := 977) g dL_law_724 rfl rfl (fun c174 => ?_) (fun c174 => ?_)
                                              · replace hM := zw_ift c174 hM
                                                exact U_L_law_977 ok hI g hr hlk eL18 _ _ _ hM hz
                                              · replace hM := zw_iff c174 hM
                                                refine zr_iconst (q := 728) (v := (0 : Int32)) g dL_law_727 rfl (by decide) ?_
                                                cases hM
                                                exact absurd hz (by decide)
                                            · replace hM := zw_iff c169 hM
                                              by_cases c175 : ((xs (x3).toNatClampNeg) &&& (31 : Int32)) = (21 : Int32)
                                              · replace hM := zw_ift c175 hM
                                                refine zr_tabIn (tgt := 729) (off := 697) g dL_law_32 c175 (by decide) rfl ?_
                                                refine zr_aload_n (q := 730) g 1 dL_law_729 rfl rfl rfl ?_
                                                refine zr_aload_n (q := 731) g 0 dL_law_730 rfl rfl rfl ?_
                                                refine zr_iload_n (q := 732) g 3 dL_law_731 rfl rfl rfl ?_
                                                refine zr_iconst (q := 733) (v := (1 : Int32)) g dL_law_732 rfl (by decide) ?_
                                                refine zr_iadd (q := 734) g dL_law_733 rfl ?_
                                                obtain ⟨c176, hM⟩ := zw_gd hM
                                                refine zr_sld (q := 735) g hr.2.2.2.2.2.2.1 hr.2.2.2.2.2.2.2.1 (Nat.not_le.mpr hr.2.2.2.2.2.2.2.1) c176 dL_law_734 rfl ?_
                                                obtain ⟨z177, q178, hM⟩ := zw_bd hM
                                                refine zr_callV (q := 738) (As := [.int (xs ((x3 + (1 : Int32))).toNatClampNeg)]) (rest := []) (st' := [.int z177]) (i := 0) g (R_X8_fires ok hI q178) zv_X8_fires zl_L_105 (hI 0 (by decide)) zs_0 zc_X8.1 dL_law_735 rfl rfl ⟨Nat.le_of_ble_eq_true rfl, Nat.le_of_ble_eq_true rfl⟩ ⟨hlk, Nat.le_of_ble_eq_true rfl⟩ (Nat.le_of_ble_eq_true rfl) rfl rfl ?_
                                                refine zr_aload_n (q := 739) g 2 dL_law_738 rfl rfl rfl ?_
                                                refine zr_aload_n (q := 740) g 0 dL_law_739 rfl rfl rfl ?_
                                                refine zr_iload_n (q := 741) g 3 dL_law_740 rfl rfl rfl ?_
                                                refine zr_iconst (q := 742) (v := (1 : Int32)) g dL_law_741 rfl (by decide) ?_
                                                refine zr_iadd (q := 743) g dL_law_742 rfl ?_
                                                obtain ⟨c179, hM⟩ := zw_gd hM
                                                refine zr_sld (q := 744) g hr.2.2.2.2.2.2.1 hr.2.2.2.2.2.2.2.1 (Nat.not_le.mpr hr.2.2.2.2.2.2.2.1) c179 dL_law_743 rfl ?_
                                                obtain ⟨z180, q181, hM⟩ := zw_bd hM
                                                refine zr_callV (q := 747) (As := [.int (xs ((x3 + (1 : Int32))).toNatClampNeg)]) (rest := [.int z177]) (st' := [.int z180.1, .int z177]) (i := 31) g (R_X9_fires ok hI q181) zv_X9_fires zl_L_108 (hI 31 (by decide)) zs_31 zc_X9.1 dL_law_744 rfl rfl ⟨Nat.le_of_ble_eq_true rfl, Nat.le_of_ble_eq_true rfl⟩ ⟨hlk, Nat.le_of_ble_eq_true rfl⟩ (Nat.le_of_ble_eq_true rfl) rfl rfl ?_
                                                refine zr_icmp_eq (q := 750) (tgt := 977) g dL_law_747 rfl rfl (fun c182 => ?_) (fun c182 => ?_)
                                                · replace hM := zw_ift c182 hM
                                                  exact U_L_law_977 ok hI g hr hlk eL18 _ _ _ hM hz
                                                · replace hM := zw_iff c182 hM
                                                  refine zr_iconst (q := 751) (v := (0 : Int32)) g dL_law_750 rfl (by decide) ?_
                                                  cases hM
                                                  exact absurd hz (by decide)
                                              · replace hM := zw_iff c175 hM
                                                by_cases c183 : ((xs (x3).toNatClampNeg) &&& (31 : Int32)) = (22 : Int32)
                                                · replace hM := zw_ift c183 hM
                                                  refine zr_tabIn (tgt := 752) (off := 720) g dL_law_32 c183 (by decide) rfl ?_
                                                  refine zr_aload_n (q := 753) g 1 dL_law_752 rfl rfl rfl ?_
                                                  refine zr_aload_n (q := 754) g 0 dL_law_753 rfl rfl rfl ?_
                                                  refine zr_iload_n (q := 755) g 3 dL_law_754 rfl rfl rfl ?_
                                                  refine zr_iconst (q := 756) (v := (1 : Int32)) g dL_law_755 rfl (by decide) ?_
                                                  refine zr_iadd (q := 757) g dL_law_756 rfl ?_
                                                  obtain ⟨c184, hM⟩ := zw_gd hM
                                                  refine zr_sld (q := 758) g hr.2.2.2.2.2.2.1 hr.2.2.2.2.2.2.2.1 (Nat.not_le.mpr hr.2.2.2.2.2.2.2.1) c184 dL_law_757 rfl ?_
                                                  refine zr_aload_n (q := 759) g 0 dL_law_758 rfl rfl rfl ?_
                                                  refine zr_iload_n (q := 760) g 3 dL_law_759 rfl rfl rfl ?_
                                                  refine zr_iconst (q := 761) (v := (2 : Int32)) g dL_law_760 rfl (by decide) ?_
                                                  refine zr_iadd (q := 762) g dL_law_761 rfl ?_
                                                  obtain ⟨c185, hM⟩ := zw_gd hM
                                                  refine zr_sld (q := 763) g hr.2.2.2.2.2.2.1 hr.2.2.2.2.2.2.2.1 (Nat.not_le.mpr hr.2.2.2.2.2.2.2.1) c185 dL_law_762 rfl ?_
                                                  refine zr_aload_n (q := 764) g 0 dL_law_763 rfl rfl rfl ?_
                                                  refine zr_iload_n (q := 765) g 3 dL_law_764 rfl rfl rfl ?_
                                                  refine zr_iconst (q := 766) (v := (3 : Int32)) g dL_law_765 rfl (by decide) ?_
                                                  refine zr_iadd (q := 767) g dL_law_766 rfl ?_
                                                  obtain ⟨c186, hM⟩ := zw_gd hM
                                                  refine zr_sld (q := 768) g hr.2.2.2.2.2.2.1 hr.2.2.2.2.2.2.2.1 (Nat.not_le.mpr hr.2.2.2.2.2.2.2.1) c186 dL_law_767 rfl ?_
                                                  obtain ⟨z187, q188, hM⟩ := zw_bd hM
                                                  refine zr_callV (q := 771) (As := [.int (xs ((x3 + (1 : Int32))).toNatClampNeg), .int (xs ((x3 + (2 : Int32))).toNatClampNeg), .int (xs ((x3 + (3 : Int32))).toNatClampNeg)]) (rest := []) (st' := [.int z187.1]) (i := 0) g (R_X8_rests ok hI q188) zv_X8_rests zl_L_109 (hI 0 (by decide)) zs_0 zc_X8.1 dL_law_768 rfl rfl ⟨Nat.le_of_ble_eq_true rfl, Nat.le_of_ble_eq_true rfl⟩ ⟨hlk, Nat.le_of_ble_eq_true rfl⟩ (Nat.le_of_ble_eq_true rfl) rfl rfl ?_
                                                  refine zr_aload_n (q := 772) g 2 dL_law_771 rfl rfl rfl ?_
                                                  refine zr_aload_n (q := 773) g 0 dL_law_772 rfl rfl rfl ?_
                                                  refine zr_iload_n (q := 774) g 3 dL_law_773 rfl rfl rfl ?_
                                                  refine zr_iconst (q := 775) (v := (1 : Int32)) g dL_law_774 rfl (by decide) ?_
                                                  refine zr_iadd (q := 776) g dL_law_775 rfl ?_
                                                  obtain ⟨c189, hM⟩ := zw_gd hM
                                                  refine zr_sld (q := 777) g hr.2.2.2.2.2.2.1 hr.2.2.2.2.2.2.2.1 (Nat.not_le.mpr hr.2.2.2.2.2.2.2.1) c189 dL_law_776 rfl ?_
                                                  refine zr_aload_n (q := 778) g 0 dL_law_777 rfl rfl rfl ?_
                                                  refine zr_iload_n (q := 779) g 3 dL_law_778 rfl rfl rfl ?_
                                                  refine zr_iconst (q := 780) (v := (2 : Int32)) g dL_law_779 rfl (by decide) ?_
                                                  refine zr_iadd (q := 781) g dL_law_780 rfl ?_
                                                  obtain ⟨c190, hM⟩ := zw_gd hM
                                                  refine zr_sld (q := 782) g hr.2.2.2.2.2.2.1 hr.2.2.2.2.2.2.2.1 (Nat.not_le.mpr hr.2.2.2.2.2.2.2.1) c190 dL_law_781 rfl ?_
                                                  refine zr_aload_n (q := 783) g 0 dL_law_782 rfl rfl rfl ?_
                                                  refine zr_iload_n (q := 784) g 3 dL_law_783 rfl rfl rfl ?_
                                                  refine zr_iconst (q := 785) (v := (3 : Int32)) g dL_law_784 rfl (by decide) ?_
                                                  refine zr_iadd (q := 786) g dL_law_785 rfl ?_
                                                  obtain ⟨c191, hM⟩ := zw_gd hM
                                                  refine zr_sld (q := 787) g hr.2.2.2.2.2.2.1 hr.2.2.2.2.2.2.2.1 (Nat.not_le.mpr hr.2.2.2.2.2.2.2.1) c191 dL_law_786 rfl ?_
                                                  obtain ⟨z192, q193, hM⟩ := zw_bd hM
                                                  refine zr_callV (q := 790) (As := [.int (xs ((x3 + (1 : Int32))).toNatClampNeg), .int (xs ((x3 + (2 : Int32))).toNatClampNeg), .int (xs ((x3 + (3 : Int32))).toNatClampNeg)]) (rest := [.int z187.1]) (st' := [.int z192.1, .int z187.1]) (i := 31) g (R_X9_rests ok hI q193) zv_X9_rests zl_L_112 (hI 31 (by decide)) zs_31 zc_X9.1 dL_law_787 rfl rfl ⟨Nat.le_of_ble_eq_true rfl, Nat.le_of_ble_eq_true rfl⟩ ⟨hlk, Nat.le_of_ble_eq_true rfl⟩ (Nat.le_of_ble_eq_true rfl) rfl rfl ?_
                                                  refine zr_icmp_eq (q := 793) (tgt := 977) g dL_law_790 rfl rfl (fun c194 => ?_) (fun c194 => ?_)
                                                  · replace hM := zw_ift c194 hM
                                                    exact U_L_law_977 ok hI g hr hlk eL18 _ _ _ hM hz
                                                  · replace hM := zw_iff c194 hM
                                                    refine zr_iconst (q := 794) (v := (0 : Int32)) g dL_law_793 rfl (by decide) ?_
                                                    cases hM
                                                    exact absurd hz (by decide)
                                                · replace hM := zw_iff c183 hM
                                                  by_cases c195 : ((xs (x3).toNatClampNeg) &&& (31 : Int32)) = (23 : Int32)
                                                  · replace hM := zw_ift c195 hM
                                                    refine zr_tabIn (tgt := 795) (off := 763) g dL_law_32 c195 (by decide) rfl ?_
                                                    refine zr_aload_n (q := 796) g 1 dL_law_795 rfl rfl rfl ?_
                                                    refine zr_aload_n (q := 797) g 0 dL_law_796 rfl rfl rfl ?_
                                                    refine zr_iload_n (q := 798) g 3 dL_law_797 rfl rfl rfl ?_
                                                    refine zr_iconst (q := 799) (v := (1 : Int32)) g dL_law_798 rfl (by decide) ?_
                                                    refine zr_iadd (q := 800) g dL_law_799 rfl ?_
                                                    obtain ⟨c196, hM⟩ := zw_gd hM
                                                    refine zr_sld (q := 801) g hr.2.2.2.2.2.2.1 hr.2.2.2.2.2.2.2.1 (Nat.not_le.mpr hr.2.2.2.2.2.2.2.1) c196 dL_law_800 rfl ?_
                                                    refine zr_aload_n (q := 802) g 0 dL_law_801 rfl rfl rfl ?_
                                                    refine zr_iload_n (q := 803) g 3 dL_law_802 rfl rfl rfl ?_
                                                    refine zr_iconst (q := 804) (v := (2 : Int32)) g dL_law_803 rfl (by decide) ?_
                                                    refine zr_iadd (q := 805) g dL_law_804 rfl ?_
                                                    obtain ⟨c197, hM⟩ := zw_gd hM
                                                    refine zr_sld (q := 806) g hr.2.2.2.2.2.2.1 hr.2.2.2.2.2.2.2.1 (Nat.not_le.mpr hr.2.2.2.2.2.2.2.1) c197 dL_law_805 rfl ?_
                                                    refine zr_aload_n (q := 807) g 0 dL_law_806 rfl rfl rfl ?_
                                                    refine zr_iload_n (q := 808) g 3 dL_law_807 rfl rfl rfl ?_
                                                    refine zr_iconst (q := 809) (v := (3 : Int32)) g dL_law_808 rfl (by decide) ?_
                                                    refine zr_iadd (q := 810) g dL_law_809 rfl ?_
                                                    obtain ⟨c198, hM⟩ := zw_gd hM
                                                    refine zr_sld (q := 811) g hr.2.2.2.2.2.2.1 hr.2.2.2.2.2.2.2.1 (Nat.not_le.mpr hr.2.2.2.2.2.2.2.1) c198 dL_law_810 rfl ?_
                                                    refine zr_if_eq (q := 814) (tgt := 818) g dL_law_811 rfl rfl (fun c199 => ?_) (fun c199 => ?_)
                                                    · replace hM := zw_ift c199 hM
                                                      refine zr_iconst (q := 819) (v := (0 : Int32)) g dL_law_818 rfl (by decide) ?_
                                                      exact U_L_law_819 ok hI g hr hlk eL18 _ _ _ _ _ _ hM hz
                                                    · replace hM := zw_iff c199 hM
                                                      refine zr_iconst (q := 815) (v := (1 : Int32)) g dL_law_814 rfl (by decide) ?_
                                                      refine zr_goto (tgt := 819) g dL_law_815 rfl ?_
                                                      exact U_L_law_819 ok hI g hr hlk eL18 _ _ _ _ _ _ hM hz
                                                  · replace hM := zw_iff c195 hM
                                                    by_cases c200 : ((xs (x3).toNatClampNeg) &&& (31 : Int32)) = (24 : Int32)
                                                    · replace hM := zw_ift c200 hM
                                                      refine zr_tabIn (tgt := 854) (off := 822) g dL_law_32 c200 (by decide) rfl ?_
                                                      refine zr_aload_n (q := 855) g 1 dL_law_854 rfl rfl rfl ?_
                                                      refine zr_aload_n (q := 856) g 0 dL_law_855 rfl rfl rfl ?_
                                                      refine zr_iload_n (q := 857) g 3 dL_law_856 rfl rfl rfl ?_
                                                      refine zr_iconst (q := 858) (v := (1 : Int32)) g dL_law_857 rfl (by decide) ?_
                                                      refine zr_iadd (q := 859) g dL_law_858 rfl ?_
                                                      obtain ⟨c201, hM⟩ := zw_gd hM
                                                      refine zr_sld (q := 860) g hr.2.2.2.2.2.2.1 hr.2.2.2.2.2.2.2.1 (Nat.not_le.mpr hr.2.2.2.2.2.2.2.1) c201 dL_law_859 rfl ?_
                                                      refine zr_i2l (q := 861) g dL_law_860 rfl ?_
                                                      refine zr_bipush (q := 863) (v := (32 : Int32)) g dL_law_861 rfl (by decide) ?_
                                                      refine zr_lshl (q := 864) g dL_law_863 rfl ?_
                                                      refine zr_aload_n (q := 865) g 0 dL_law_864 rfl rfl rfl ?_
                                                      refine zr_iload_n (q := 866) g 3 dL_law_865 rfl rfl rfl ?_
                                                      refine zr_iconst (q := 867) (v := (2 : Int32)) g dL_law_866 rfl (by decide) ?_
                                                      refine zr_iadd (q := 868) g dL_law_867 rfl ?_
                                                      obtain ⟨c202, hM⟩ := zw_gd hM
                                                      refine zr_sld (q := 869) g hr.2.2.2.2.2.2.1 hr.2.2.2.2.2.2.2.1 (Nat.not_le.mpr hr.2.2.2.2.2.2.2.1) c202 dL_law_868 rfl ?_
                                                      refine zr_i2l (q := 870) g dL_law_869 rfl ?_
                                                      refine zr_ldc2 (q := 873) (v := (4294967295 : Int64)) g dL_law_870 rfl zk_L_84 ?_
                                                      refine zr_land (q := 874) g dL_law_873 rfl ?_
                                                      refine zr_lor (q := 875) g dL_law_874 rfl ?_
                                                      obtain ⟨z203, q204, hM⟩ := zw_bd hM
                                                      refine zr_callV (q := 878) (As := [.long ((((xs ((x3 + (1 : Int32))).toNatClampNeg)).toInt64 <<< (((32 : Int32)).toInt64 &&& 63)) ||| (((xs ((x3 + (2 : Int32))).toNatClampNeg)).toInt64 &&& (4294967295 : Int64)))]) (rest := []) (st' := [.long z203.1]) (i := 0) g (R_X8_seed ok hI q204) zv_X8_seed zl_L_118 (hI 0 (by decide)) zs_0 zc_X8.1 dL_law_875 rfl rfl ⟨Nat.le_of_ble_eq_true rfl, Nat.le_of_ble_eq_true rfl⟩ ⟨hlk, Nat.le_of_ble_eq_true rfl⟩ (Nat.le_of_ble_eq_true rfl) rfl rfl ?_
                                                      refine zr_aload_n (q := 879) g 2 dL_law_878 rfl rfl rfl ?_
                                                      refine zr_aload_n (q := 880) g 0 dL_law_879 rfl rfl rfl ?_
                                                      refine zr_iload_n (q := 881) g 3 dL_law_880 rfl rfl rfl ?_
                                                      refine zr_iconst (q := 882) (v := (1 : Int32)) g dL_law_881 rfl (by decide) ?_
                                                      refine zr_iadd (q := 883) g dL_law_882 rfl ?_
                                                      obtain ⟨c205, hM⟩ := zw_gd hM
                                                      refine zr_sld (q := 884) g hr.2.2.2.2.2.2.1 hr.2.2.2.2.2.2.2.1 (Nat.not_le.mpr hr.2.2.2.2.2.2.2.1) c205 dL_law_883 rfl ?_
                                                      refine zr_i2l (q := 885) g dL_law_884 rfl ?_
                                                      refine zr_bipush (q := 887) (v := (32 : Int32)) g dL_law_885 rfl (by decide) ?_
                                                      refine zr_lshl (q := 888) g dL_law_887 rfl ?_
                                                      refine zr_aload_n (q := 889) g 0 dL_law_888 rfl rfl rfl ?_
                                                      refine zr_iload_n (q := 890) g 3 dL_law_889 rfl rfl rfl ?_
                                                      refine zr_iconst (q := 891) (v := (2 : Int32)) g dL_law_890 rfl (by decide) ?_
                                                      refine zr_iadd (q := 892) g dL_law_891 rfl ?_
                                                      obtain ⟨c206, hM⟩ := zw_gd hM
                                                      refine zr_sld (q := 893) g hr.2.2.2.2.2.2.1 hr.2.2.2.2.2.2.2.1 (Nat.not_le.mpr hr.2.2.2.2.2.2.2.1) c206 dL_law_892 rfl ?_
                                                      refine zr_i2l (q := 894) g dL_law_893 rfl ?_
                                                      refine zr_ldc2 (q := 897) (v := (4294967295 : Int64)) g dL_law_894 rfl zk_L_84 ?_
                                                      refine zr_land (q := 898) g dL_law_897 rfl ?_
                                                      refine zr_lor (q := 899) g dL_law_898 rfl ?_
                                                      obtain ⟨z207, q208, hM⟩ := zw_bd hM
                                                      refine zr_callV (q := 902) (As := [.long ((((xs ((x3 + (1 : Int32))).toNatClampNeg)).toInt64 <<< (((32 : Int32)).toInt64 &&& 63)) ||| (((xs ((x3 + (2 : Int32))).toNatClampNeg)).toInt64 &&& (4294967295 : Int64)))]) (rest := [.long z203.1]) (st' := [.long z207.1, .long z203.1]) (i := 31) g (R_X9_seed ok hI q208) zv_X9_seed zl_L_122 (hI 31 (by decide)) zs_31 zc_X9.1 dL_law_899 rfl rfl ⟨Nat.le_of_ble_eq_true rfl, Nat.le_of_ble_eq_true rfl⟩ ⟨hlk, Nat.le_of_ble_eq_true rfl⟩ (Nat.le_of_ble_eq_true rfl) rfl rfl ?_
                                                      refine zr_lcmp (q := 903) g dL_law_902 rfl ?_
                                                      refine zr_if_eq (q := 906) (tgt := 977) g dL_law_903 rfl rfl (fun c209 => ?_) (fun c209 => ?_)
                                                      · replace hM := zw_ift c209 hM
                                                        exact U_L_law_977 ok hI g hr hlk eL18 _ _ _ hM hz
                                                      · replace hM := zw_iff c209 hM
                                                        refine zr_iconst (q := 907) (v := (0 : Int32)) g dL_law_906 rfl (by decide) ?_
                                                        cases hM
                                                        exact absurd hz (by decide)
                                                    · replace hM := zw_iff c200 hM
                                                      by_cases c210 : ((xs (x3).toNatClampNeg) &&& (31 : Int32)) = (25 : Int32)
                                                      · replace hM := zw_ift c210 hM
                                                        refine zr_tabIn (tgt := 908) (off := 876) g dL_law_32 c210 (by decide) rfl ?_
                                                        refine zr_aload_n (q := 909) g 1 dL_law_908 rfl rfl rfl ?_
                                                        refine zr_aload_n (q := 910) g 0 dL_law_909 rfl rfl rfl ?_
                                                        refine zr_iload_n (q := 911) g 3 dL_law_910 rfl rfl rfl ?_
                                                        refine zr_iconst (q := 912) (v := (1 : Int32)) g dL_law_911 rfl (by decide) ?_
                                                        refine zr_iadd (q := 913) g dL_law_912 rfl ?_
                                                        obtain ⟨c211, hM⟩ := zw_gd hM
                                                        refine zr_sld (q := 914) g hr.2.2.2.2.2.2.1 hr.2.2.2.2.2.2.2.1 (Nat.not_le.mpr hr.2.2.2.2.2.2.2.1) c211 dL_law_913 rfl ?_
                                                        obtain ⟨z212, q213, hM⟩ := zw_bd hM
                                                        refine zr_callV (q := 917) (As := [.int (xs ((x3 + (1 : Int32))).toNatClampNeg)]) (rest := []) (st' := [.int z212.1]) (i := 0) g (R_X8_nights ok hI q213) zv_X8_nights zl_L_123 (hI 0 (by decide)) zs_0 zc_X8.1 dL_law_914 rfl rfl ⟨Nat.le_of_ble_eq_true rfl, Nat.le_of_ble_eq_true rfl⟩ ⟨hlk, Nat.le_of_ble_eq_true rfl⟩ (Nat.le_of_ble_eq_true rfl) rfl rfl ?_
                                                        refine zr_aload_n (q := 918) g 2 dL_law_917 rfl rfl rfl ?_
                                                        refine zr_aload_n (q := 919) g 0 dL_law_918 rfl rfl rfl ?_
                                                        refine zr_iload_n (q := 920) g 3 dL_law_919 rfl rfl rfl ?_
                                                        refine zr_iconst (q := 921) (v := (1 : Int32)) g dL_law_920 rfl (by decide) ?_
                                                        refine zr_iadd (q := 922) g dL_law_921 rfl ?_
                                                        obtain ⟨c214, hM⟩ := zw_gd hM
                                                        refine zr_sld (q := 923) g hr.2.2.2.2.2.2.1 hr.2.2.2.2.2.2.2.1 (Nat.not_le.mpr hr.2.2.2.2.2.2.2.1) c214 dL_law_922 rfl ?_
                                                        obtain ⟨z215, q216, hM⟩ := zw_bd hM
                                                        refine zr_callV (q := 926) (As := [.int (xs ((x3 + (1 : Int32))).toNatClampNeg)]) (rest := [.int z212.1]) (st' := [.int z215.1, .int z212.1]) (i := 31) g (R_X9_nights ok hI q216) zv_X9_nights zl_L_126 (hI 31 (by decide)) zs_31 zc_X9.1 dL_law_923 rfl rfl ⟨Nat.le_of_ble_eq_true rfl, Nat.le_of_ble_eq_true rfl⟩ ⟨hlk, Nat.le_of_ble_eq_true rfl⟩ (Nat.le_of_ble_eq_true rfl) rfl rfl ?_
                                                        refine zr_icmp_eq (q := 929) (tgt := 977) g dL_law_926 rfl rfl (fun c217 => ?_) (fun c217 => ?_)
                                                        · replace hM := zw_ift c217 hM
                                                          exact U_L_law_977 ok hI g hr hlk eL18 _ _ _ hM hz
                                                        · replace hM := zw_iff c217 hM
                                                          refine zr_iconst (q := 930) (v := (0 : Int32)) g dL_law_929 rfl (by decide) ?_
                                                          cases hM
                                                          exact absurd hz (by decide)
                                                      · replace hM := zw_iff c210 hM
                                                        by_cases c218 : ((xs (x3).toNatClampNeg) &&& (31 : Int32)) = (26 : Int32)
                                                        · replace hM := zw_ift c218 hM
                                                          refine zr_tabIn (tgt := 931) (off := 899) g dL_law_32 c218 (by decide) rfl ?_
                                                          refine zr_aload_n (q := 932) g 1 dL_law_931 rfl rfl rfl ?_
                                                          refine zr_aload_n (q := 933) g 0 dL_law_932 rfl rfl rfl ?_
                                                          refine zr_iload_n (q := 934) g 3 dL_law_933 rfl rfl rfl ?_
                                                          refine zr_iconst (q := 935) (v := (1 : Int32)) g dL_law_934 rfl (by decide) ?_
                                                          refine zr_iadd (q := 936) g dL_law_935 rfl ?_
                                                          obtain ⟨c219, hM⟩ := zw_gd hM
                                                          refine zr_sld (q := 937) g hr.2.2.2.2.2.2.1 hr.2.2.2.2.2.2.2.1 (Nat.not_le.mpr hr.2.2.2.2.2.2.2.1) c219 dL_law_936 rfl ?_
                                                          obtain ⟨z220, q221, hM⟩ := zw_bd hM
                                                          refine zr_callV (q := 940) (As := [.int (xs ((x3 + (1 : Int32))).toNatClampNeg)]) (rest := []) (st' := [.int z220.1]) (i := 0) g (R_X8_keep ok hI q221) zv_X8_keep zl_L_127 (hI 0 (by decide)) zs_0 zc_X8.1 dL_law_937 rfl rfl ⟨Nat.le_of_ble_eq_true rfl, Nat.le_of_ble_eq_true rfl⟩ ⟨hlk, Nat.le_of_ble_eq_true rfl⟩ (Nat.le_of_ble_eq_true rfl) rfl rfl ?_
                                                          refine zr_aload_n (q := 941) g 2 dL_law_940 rfl rfl rfl ?_
                                                          refine zr_aload_n (q := 942) g 0 dL_law_941 rfl rfl rfl ?_
                                                          refine zr_iload_n (q := 943) g 3 dL_law_942 rfl rfl rfl ?_
                                                          refine zr_iconst (q := 944) (v := (1 : Int32)) g dL_law_943 rfl (by decide) ?_
                                                          refine zr_iadd (q := 945) g dL_law_944 rfl ?_
                                                          obtain ⟨c222, hM⟩ := zw_gd hM
                                                          refine zr_sld (q := 946) g hr.2.2.2.2.2.2.1 hr.2.2.2.2.2.2.2.1 (Nat.not_le.mpr hr.2.2.2.2.2.2.2.1) c222 dL_law_945 rfl ?_
                                                          obtain ⟨z223, q224, hM⟩ := zw_bd hM
                                                          refine zr_callV (q := 949) (As := [.int (xs ((x3 + (1 : Int32))).toNatClampNeg)]) (rest := [.int z220.1]) (st' := [.int z223.1, .int z220.1]) (i := 31) g (R_X9_keep ok hI q224) zv_X9_keep zl_L_130 (hI 31 (by decide)) zs_31 zc_X9.1 dL_law_946 rfl rfl ⟨Nat.le_of_ble_eq_true rfl, Nat.le_of_ble_eq_true rfl⟩ ⟨hlk, Nat.le_of_ble_eq_true rfl⟩ (Nat.le_of_ble_eq_true rfl) rfl rfl ?_
                                                          refine zr_icmp_eq (q := 952) (tgt := 977) g dL_law_949 rfl rfl (fun c225 => ?_) (fun c225 => ?_)
                                                          · replace hM := zw_ift c225 hM
                                                            exact U_L_law_977 ok hI g hr hlk eL18 _ _ _ hM hz
                                                          · replace hM := zw_iff c225 hM
                                                            refine zr_iconst (q := 953) (v := (0 : Int32)) g dL_law_952 rfl (by decide) ?_
                                                            cases hM
                                                            exact absurd hz (by decide)
                                                        · replace hM := zw_iff c218 hM
                                                          by_cases c226 : ((xs (x3).toNatClampNeg) &&& (31 : Int32)) = (27 : Int32)
                                                          · replace hM := zw_ift c226 hM
                                                            refine zr_tabIn (tgt := 954) (off := 922) g dL_law_32 c226 (by decide) rfl ?_
                                                            refine zr_aload_n (q := 955) g 1 dL_law_954 rfl rfl rfl ?_
                                                            refine zr_aload_n (q := 956) g 0 dL_law_955 rfl rfl rfl ?_
                                                            refine zr_iload_n (q := 957) g 3 dL_law_956 rfl rfl rfl ?_
                                                            refine zr_iconst (q := 958) (v := (1 : Int32)) g dL_law_957 rfl (by decide) ?_
                                                            refine zr_iadd (q := 959) g dL_law_958 rfl ?_
                                                            obtain ⟨c227, hM⟩ := zw_gd hM
                                                            refine zr_sld (q := 960) g hr.2.2.2.2.2.2.1 hr.2.2.2.2.2.2.2.1 (Nat.not_le.mpr hr.2.2.2.2.2.2.2.1) c227 dL_law_959 rfl ?_
                                                            obtain ⟨z228, q229, hM⟩ := zw_bd hM
                                                            refine zr_callV (q := 963) (As := [.int (xs ((x3 + (1 : Int32))).toNatClampNeg)]) (rest := []) (st' := [.int z228.1]) (i := 0) g (R_X8_again ok hI q229) zv_X8_again zl_L_131 (hI 0 (by decide)) zs_0 zc_X8.1 dL_law_960 rfl rfl ⟨Nat.le_of_ble_eq_true rfl, Nat.le_of_ble_eq_true rfl⟩ ⟨hlk, Nat.le_of_ble_eq_true rfl⟩ (Nat.le_of_ble_eq_true rfl) rfl rfl ?_
                                                            refine zr_aload_n (q := 964) g 2 dL_law_963 rfl rfl rfl ?_
                                                            refine zr_aload_n (q := 965) g 0 dL_law_964 rfl rfl rfl ?_
                                                            refine zr_iload_n (q := 966) g 3 dL_law_965 rfl rfl rfl ?_
                                                            refine zr_iconst (q := 967) (v := (1 : Int32)) g dL_law_966 rfl (by decide) ?_
                                                            refine zr_iadd (q := 968) g dL_law_967 rfl ?_
                                                            obtain ⟨c230, hM⟩ := zw_gd hM
                                                            refine zr_sld (q := 969) g hr.2.2.2.2.2.2.1 hr.2.2.2.2.2.2.2.1 (Nat.not_le.mpr hr.2.2.2.2.2.2.2.1) c230 dL_law_968 rfl ?_
                                                            obtain ⟨z231, q232, hM⟩ := zw_bd hM
                                                            refine zr_callV (q := 972) (As := [.int (xs ((x3 + (1 : Int32))).toNatClampNeg)]) (rest := [.int z228.1]) (st' := [.int z231.1, .int z228.1]) (i := 31) g (R_X9_again ok hI q232) zv_X9_again zl_L_134 (hI 31 (by decide)) zs_31 zc_X9.1 dL_law_969 rfl rfl ⟨Nat.le_of_ble_eq_true rfl, Nat.le_of_ble_eq_true rfl⟩ ⟨hlk, Nat.le_of_ble_eq_true rfl⟩ (Nat.le_of_ble_eq_true rfl) rfl rfl ?_
                                                            refine zr_icmp_eq (q := 975) (tgt := 977) g dL_law_972 rfl rfl (fun c233 => ?_) (fun c233 => ?_)
                                                            · replace hM := zw_ift c233 hM
                                                              exact U_L_law_977 ok hI g hr hlk eL18 _ _ _ hM hz
                                                            · replace hM := zw_iff c233 hM
                                                              refine zr_iconst (q := 976) (v := (0 : Int32)) g dL_law_975 rfl (by decide) ?_
                                                              cases hM
                                                              exact absurd hz (by decide)
                                                          · replace hM := zw_iff c226 hM
                                                            have hx : (((xs (x3).toNatClampNeg) &&& (31 : Int32))).toInt < 0 ∨ 27 < (((xs (x3).toNatClampNeg) &&& (31 : Int32))).toInt := by
                                                                have := lv_neT (a := 0) c3 (by decide)
                                                                have := lv_neT (a := 1) c11 (by decide)
                                                                have := lv_neT (a := 2) c17 (by decide)
                                                                have := lv_neT (a := 3) c23 (by decide)
                                                                have := lv_neT (a := 4) c29 (by decide)
                                                                have := lv_neT (a := 5) c37 (by decide)
                                                                have := lv_neT (a := 6) c47 (by decide)
                                                                have := lv_neT (a := 7) c57 (by decide)
                                                                have := lv_neT (a := 8) c67 (by decide)
                                                                have := lv_neT (a := 9) c73 (by decide)
                                                                have := lv_neT (a := 10) c83 (by decide)
                                                                have := lv_neT (a := 11) c91 (by decide)
                                                                have := lv_neT (a := 12) c99 (by decide)
                                                                have := lv_neT (a := 13) c105 (by decide)
                                                                have := lv_neT (a := 14) c115 (by decide)
                                                                have := lv_neT (a := 15) c121 (by decide)
                                                                have := lv_neT (a := 16) c131 (by decide)
                                                                have := lv_neT (a := 17) c141 (by decide)
                                                                have := lv_neT (a := 18) c153 (by decide)
                                                                have := lv_neT (a := 19) c157 (by decide)
                                                                have := lv_neT (a := 20) c169 (by decide)
                                                                have := lv_neT (a := 21) c175 (by decide)
                                                                have := lv_neT (a := 22) c183 (by decide)
                                                                have := lv_neT (a := 23) c195 (by decide)
                                                                have := lv_neT (a := 24) c200 (by decide)
                                                                have := lv_neT (a := 25) c210 (by decide)
                                                                have := lv_neT (a := 26) c218 (by decide)
                                                                have := lv_neT (a := 27) c226 (by decide)
                                                                omega
                                                            refine zr_tabOut (tgt := 977) g dL_law_32 hx rfl ?_
                                                            exact U_L_law_977 ok hI g hr hlk eL18 _ _ _ hM hz
noncomputable def L_L_law_18 (L : Nat) (xs : Nat → Int32) (w : Int32 × zw_Hp) : Option (Int32) :=
  zw_it (fun (k18 : (Int32 × zw_Hp) → Option (Int32)) (w : Int32 × zw_Hp) => B_L_law_18 L xs k18 (w.1) (w.2)) 600 w
theorem UL_L_law_18 (ok : zw_Ok E) (hI : ∀ i, i < 48 → i ∈ E.2.2.1) (g : zw_G p E (fun q : Nat => s.heap.size ≤ q) s m #[Value.ref b] c RL cL_law 4) (hr : lw_At p s m meth c b L xs) (hlk : NC_L ≤ 600000) :
    ∀ (w : Int32 × zw_Hp) (z : Int32), L_L_law_18 L xs w = some z → z = 1 → zw_W p l e room_1 s m #[Value.ref b] below meth c NC_L NS_L (lw_Z below #[Value.ref b] s) E (fun q : Nat => s.heap.size ≤ q) 4 18 [(0, .ref b), (1, .ref (E.2.1 0)), (2, .ref (E.2.1 31)), (3, .int w.1)] [] w.2 :=
  fun w z hM => zw_it_ind (P := fun (w : Int32 × zw_Hp) (z : Int32) => z = 1 → zw_W p l e room_1 s m #[Value.ref b] below meth c NC_L NS_L (lw_Z below #[Value.ref b] s) E (fun q : Nat => s.heap.size ≤ q) 4 18 [(0, .ref b), (1, .ref (E.2.1 0)), (2, .ref (E.2.1 31)), (3, .int w.1)] [] w.2) (fun k e w z hM => U_L_law_18 ok hI g hr hlk e _ _ _ hM) 600 w z hM
end
