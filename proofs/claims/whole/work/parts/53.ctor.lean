/-! CONSTRUCTORS: worlds that grow, cell by cell -/
def zk_G (p : Program) (E : zw_En) (A : Nat → Prop) (s : State) (m : MethodId) (args : Array Value) (c : Code) (own : String) (cc : ByteArray) (nL : Nat) : Prop :=
  p.tables.exec = Jvm.exec ∧ c.code = cc ∧ c.maxLocals = nL ∧ s.vm.findClass own = some m.cls ∧ (∀ w ∈ zw_tb, w.before args s = true) ∧ zw_K E s ∧ ∀ q, s.heap.size ≤ q → A q
/-- the walk over a world written as a list of cells -/
def zk_W (p : Program) (l : Launch) (e : Env) (R : Room) (s : State) (m : MethodId) (args : Array Value) (below : List Frame) (meth : Method) (c : Code) (cells slots : Nat) (Q : State → Prop) (E : zw_En) (A : Nat → Prop) (nL : Nat) (pc : Nat) (lv : List (Nat × Value)) (st : List Value) (ws : va_W) : Prop :=
  ∀ (H : Heap) (locs : List Loc) (ls : Array Slot), lv_has ls nL lv → va_P E.1 vwCl ws H → va_D A ws → va_S A s.heap H locs → W p l e R s m args below meth c H locs cells slots Q (F0 m pc ls st)
/-- a constructor's contract: from the world w0 it comes to w1 of some u, mc new cells of ms slots -/
def zk_Ct {S : Type} (l : Launch) (E : zw_En) (mt : zw_Mt) (mc ms : Nat) (As : List Value) (w0 : va_W) (post : S → Prop) (w1 : S → va_W) : Prop :=
  ∀ sz : Nat, Met l mt.1 (zw_ws0 mt) { frames := mt.2.2.2.2.1, cells := mc, slots := ms, locals := mt.2.2.2.2.2 } (va_Pc As (fun U => U.heap.size = sz ∧ va_P E.1 vwCl w0 U.heap ∧ zw_K E U ∧ va_D (fun _ => True) w0)) (va_Qv post (fun u t => va_P E.1 vwCl (w1 u) t.heap ∧ va_D (va_A w0 sz) (w1 u)) (va_A w0 sz)) mc ms (va_A w0 sz)
def zw_Mi (mt : zw_Mt) (n : Nat) : Prop := zw_Mw mt n ∧ Cond.instanceMethod mt.1 ∈ zw_tb ∧ mt.1.name = "<init>" ∧ mt.2.2.2.1 = none
theorem zk_oi : Cond.instanceMethod objectInit ∈ zw_tb := zm 81 (by decide +kernel) rfl
theorem zk_oc : Cond.code objectInit ⟨#[0xb1]⟩ 1 none ∈ zw_tb := zm 82 (by decide +kernel) rfl
theorem zk_ai : Cond.arrayClass (newarray.typeOf .int) ∈ zw_tb := zm 99 (by decide +kernel) rfl
theorem zk_az : Cond.arrayClass (newarray.typeOf .boolean) ∈ zw_tb := zm 900 (by decide +kernel) rfl
section ZK
variable {p : Program} {l : Launch} {e : Env} {R : Room} {s : State} {m : MethodId} {args : Array Value} {below : List Frame} {meth : Method} {c : Code} {cells slots cells' slots' : Nat} {Q : State → Prop} {E : zw_En} {A : Nat → Prop} {own : String} {cc : ByteArray} {nL pc q : Nat} {lv lv' : List (Nat × Value)} {rest : List Value} {ws ws' : va_W}
theorem zk_ws (ws' : va_W) (hw : ws = ws') (k : zk_W p l e R s m args below meth c cells slots Q E A nL pc lv rest ws') : zk_W p l e R s m args below meth c cells slots Q E A nL pc lv rest ws := hw ▸ k
theorem zk_wide (h1 : cells ≤ cells') (h2 : slots ≤ slots') (k : zk_W p l e R s m args below meth c cells' slots' Q E A nL pc lv rest ws) : zk_W p l e R s m args below meth c cells slots Q E A nL pc lv rest ws :=
  fun H locs ls hs hP hD hS => W.widen h1 h2 (k H locs ls hs hP hD hS)
theorem zk_lv (ks : List Nat) (hl : lv_pick lv ks = lv') (k : zk_W p l e R s m args below meth c cells slots Q E A nL pc lv' rest ws) : zk_W p l e R s m args below meth c cells slots Q E A nL pc lv rest ws :=
  fun H locs ls hs hP hD hS => k H locs ls (lv_sub hs ks hl) hP hD hS
theorem zk_iconst (g : zk_G p E A s m args c own cc nL) {n : Int} {v : Int32} (hd : decode cc pc = .ok (.iconst n, 1)) (hp : pc + 1 = q) (hv : Int32.ofInt n = v) (k : zk_W p l e R s m args below meth c cells slots Q E A nL q lv (.int v :: rest) ws) : zk_W p l e R s m args below meth c cells slots Q E A nL pc lv rest ws := by
  subst hp
  exact fun H locs ls hs hP hD hS => lv_iconst g.1 g.2.1 hd hv (k H locs ls hs hP hD hS)
theorem zk_bipush (g : zk_G p E A s m args c own cc nL) {n : Int} {v : Int32} (hd : decode cc pc = .ok (.bipush n, 2)) (hp : pc + 2 = q) (hv : (Int8.ofInt n).toInt32 = v) (k : zk_W p l e R s m args below meth c cells slots Q E A nL q lv (.int v :: rest) ws) : zk_W p l e R s m args below meth c cells slots Q E A nL pc lv rest ws := by
  subst hp
  exact fun H locs ls hs hP hD hS => lv_bipush g.1 g.2.1 hd hv (k H locs ls hs hP hD hS)
theorem zk_sipush (g : zk_G p E A s m args c own cc nL) {n : Int} {v : Int32} (hd : decode cc pc = .ok (.sipush n, 3)) (hp : pc + 3 = q) (hv : (Int16.ofInt n).toInt32 = v) (k : zk_W p l e R s m args below meth c cells slots Q E A nL q lv (.int v :: rest) ws) : zk_W p l e R s m args below meth c cells slots Q E A nL pc lv rest ws := by
  subst hp
  exact fun H locs ls hs hP hD hS => lv_sipush g.1 g.2.1 hd hv (k H locs ls hs hP hD hS)
theorem zk_lconst (g : zk_G p E A s m args c own cc nL) {n : Fin 2} {v : Int64} (hd : decode cc pc = .ok (.lconst n, 1)) (hp : pc + 1 = q) (hv : Int64.ofNat (n : Nat) = v) (k : zk_W p l e R s m args below meth c cells slots Q E A nL q lv (.long v :: rest) ws) : zk_W p l e R s m args below meth c cells slots Q E A nL pc lv rest ws := by
  subst hp
  exact fun H locs ls hs hP hD hS => lv_lconst g.1 g.2.1 hd hv (k H locs ls hs hP hD hS)
theorem zk_iload_n (g : zk_G p E A s m args c own cc nL) {kf : Fin 4} {i : Nat} {x : Int32} (pos : Nat) (hd : decode cc pc = .ok (.iload_n kf, 1)) (hp : pc + 1 = q) (hi : (kf : Nat) = i) (hk : lv[pos]? = some (i, .int x)) (k : zk_W p l e R s m args below meth c cells slots Q E A nL q lv (.int x :: rest) ws) : zk_W p l e R s m args below meth c cells slots Q E A nL pc lv rest ws := by
  subst hp
  exact fun H locs ls hs hP hD hS => lv_iload_n g.1 g.2.1 hd hi (lv_at hs pos hk) (k H locs ls hs hP hD hS)
theorem zk_aload_n (g : zk_G p E A s m args c own cc nL) {kf : Fin 4} {i : Nat} {x : Nat} (pos : Nat) (hd : decode cc pc = .ok (.aload_n kf, 1)) (hp : pc + 1 = q) (hi : (kf : Nat) = i) (hk : lv[pos]? = some (i, .ref x)) (k : zk_W p l e R s m args below meth c cells slots Q E A nL q lv (.ref x :: rest) ws) : zk_W p l e R s m args below meth c cells slots Q E A nL pc lv rest ws := by
  subst hp
  exact fun H locs ls hs hP hD hS => lv_aload_n g.1 g.2.1 hd hi (lv_at hs pos hk) (k H locs ls hs hP hD hS)
theorem zk_astore_n (g : zk_G p E A s m args c own cc nL) {kf : Fin 4} {i : Nat} {x : Nat} (hd : decode cc pc = .ok (.astore_n kf, 1)) (hp : pc + 1 = q) (hi : (kf : Nat) = i) (hn : i < nL) (hl : (i, Value.ref x) :: lv.filter (fun q => !(q.1 == i) && !(q.1 + 1 == i && q.2.category == 2)) = lv') (k : zk_W p l e R s m args below meth c cells slots Q E A nL q lv' rest ws) : zk_W p l e R s m args below meth c cells slots Q E A nL pc lv (.ref x :: rest) ws := by
  subst hp
  exact fun H locs ls hs hP hD hS => lv_astore_n g.1 g.2.1 hd hi hs hn hl (fun ls' hs' => k H locs ls' hs' hP hD hS)
theorem zk_istore_n (g : zk_G p E A s m args c own cc nL) {kf : Fin 4} {i : Nat} {x : Int32} (hd : decode cc pc = .ok (.istore_n kf, 1)) (hp : pc + 1 = q) (hi : (kf : Nat) = i) (hn : i < nL) (hl : (i, Value.int x) :: lv.filter (fun q => !(q.1 == i) && !(q.1 + 1 == i && q.2.category == 2)) = lv') (k : zk_W p l e R s m args below meth c cells slots Q E A nL q lv' rest ws) : zk_W p l e R s m args below meth c cells slots Q E A nL pc lv (.int x :: rest) ws := by
  subst hp
  exact fun H locs ls hs hP hD hS => lv_istore_n g.1 g.2.1 hd hi hs hn hl (fun ls' hs' => k H locs ls' hs' hP hD hS)
theorem zk_dup (g : zk_G p E A s m args c own cc nL) {va : Value} (hd : decode cc pc = .ok (.dup, 1)) (hp : pc + 1 = q) (hva : va.category = 1) (k : zk_W p l e R s m args below meth c cells slots Q E A nL q lv (va :: va :: rest) ws) : zk_W p l e R s m args below meth c cells slots Q E A nL pc lv (va :: rest) ws := by
  subst hp
  exact fun H locs ls hs hP hD hS => lv_dup g.1 g.2.1 hd hva (k H locs ls hs hP hD hS)
theorem zk_imul (g : zk_G p E A s m args c own cc nL) {x y z : Int32} (hd : decode cc pc = .ok (.imul, 1)) (hp : pc + 1 = q) (hz : x * y = z) (k : zk_W p l e R s m args below meth c cells slots Q E A nL q lv (.int z :: rest) ws) : zk_W p l e R s m args below meth c cells slots Q E A nL pc lv (.int y :: .int x :: rest) ws := by
  subst hp; subst hz
  exact fun H locs ls hs hP hD hS => lv_imul g.1 g.2.1 hd (k H locs ls hs hP hD hS)
theorem zk_icmp_ge (g : zk_G p E A s m args c own cc nL) {x y : Int32} {off : Int} {tgt : Nat} (hd : decode cc pc = .ok (.if_icmp .ge off, 3)) (ht : (pc : Int) + off = (tgt : Int)) (hxy : y ≤ x) (k : zk_W p l e R s m args below meth c cells slots Q E A nL tgt lv rest ws) : zk_W p l e R s m args below meth c cells slots Q E A nL pc lv (.int y :: .int x :: rest) ws :=
  fun H locs ls hs hP hD hS => lv_icmp_ge g.1 g.2.1 hd ht (fun _ => k H locs ls hs hP hD hS) (fun z => absurd hxy z)
theorem zk_obj (g : zk_G p E A s m args c own cc nL) {idx a : Nat} (hl : Cond.methodLink own idx objectInit ∈ zw_tb) (hd : decode cc pc = .ok (.invokespecial idx, 3)) (hp : pc + 3 = q) (hR : 1 ≤ R.frames ∧ 20 ≤ R.locals) (hcat : (rest.map fun v => v.category).sum ≤ 8) (k : zk_W p l e R s m args below meth c cells slots Q E A nL q lv rest ws) : zk_W p l e R s m args below meth c cells slots Q E A nL pc lv (.ref a :: rest) ws := by
  subst hp
  intro H locs ls hs hP hD hS
  refine W.objInit g.1 g.2.1 g.2.2.2.1 (g.2.2.2.2.1 _ hl) (g.2.2.2.2.1 _ zk_oi) (g.2.2.2.2.1 _ zk_oc) rfl (by rw [g.2.2.1]; exact hs.1) rfl hd hR.1 (Nat.le_trans (Nat.add_le_add_right (lv_room hcat) 12) hR.2) ?_
  exact k H locs ls hs hP hD hS
theorem zk_new (g : zk_G p E A s m args c own cc nL) {idx ci N : Nat} {C : String} {T : u_T} {ty : Nat → FieldType} {fs : List Value} {W' : Nat → va_W} (hC : zw_Cl ci C T N ty) (hl : Cond.classLink own idx C ∈ zw_tb) (hin : Cond.instantiable C N ∈ zw_tb) (hini : Cond.initialized C ∈ zw_tb) (hfs : ∀ j, j < N → defaultValue (ty j) = vp_V fs j) (hz : cells + 1 = cells' ∧ slots + N = slots') (hR : cells' ≤ R.cells ∧ slots' ≤ R.slots) (hd : decode cc pc = .ok (.new idx, 3)) (hp : pc + 3 = q) (hw : ∀ a, ws ++ [(a, .inr (ci, fs))] = W' a) (k : ∀ a, zk_W p l e R s m args below meth c cells' slots' Q E A nL q lv (.ref a :: rest) (W' a)) : zk_W p l e R s m args below meth c cells slots Q E A nL pc lv rest ws := by
  obtain ⟨rfl, rfl⟩ := hz
  subst hp
  intro H locs ls hs hP hD hS
  obtain ⟨hc, hw2, hty, hnm⟩ := hC
  refine va_new (c0 := c) g.1 g.2.1 g.2.2.2.2.1 hw2 ty hty g.2.2.2.1 (g.2.2.2.2.1 _ hl) (g.2.2.2.2.1 _ hin) (g.2.2.2.2.1 _ hini) g.2.2.2.2.2.1.1 hP hD hS g.2.2.2.2.2.2 hc hfs hR.1 hR.2 hd (fun a H1 hP1 hD1 hS1 => ?_)
  rw [hw a] at hP1 hD1
  exact k a H1 locs ls hs hP1 hD1 hS1
theorem zk_newi (g : zk_G p E A s m args c own cc nL) {n : Int32} {N : Nat} {W' : Nat → va_W} (hn : ¬ n < 0) (hN : n.toNatClampNeg = N) (hb : N * componentBytes .int ≤ 536870912) (hz : cells + 1 = cells' ∧ slots + N = slots') (hR : cells' ≤ R.cells ∧ slots' ≤ R.slots) (hd : decode cc pc = .ok (.newarray .int, 2)) (hp : pc + 2 = q) (hw : ∀ a, ws ++ [(a, .inl (E.2.2.2.1, N, .inl (fun _ => 0)))] = W' a) (k : ∀ a, zk_W p l e R s m args below meth c cells' slots' Q E A nL q lv (.ref a :: rest) (W' a)) : zk_W p l e R s m args below meth c cells slots Q E A nL pc lv (.int n :: rest) ws := by
  obtain ⟨rfl, rfl⟩ := hz
  subst hp
  intro H locs ls hs hP hD hS
  refine va_newa (atype := .int) (ty := .int) (a0 := (N, .inl (fun _ => 0))) g.1 g.2.1 (g.2.2.2.2.1 _ zk_ai) rfl g.2.2.2.2.2.1.1 hP hD hS g.2.2.2.2.2.2 (fun cA => rfl) hn hN hb hR.1 hR.2 hd (fun a cA H1 hK1 hP1 hD1 hS1 => ?_)
  have r1 : s.vm.findClass ("[" ++ FieldType.int.toString) = some cA := (hK1.2 2 (cA, .int) rfl).2
  have r2 : s.vm.findClass ("[" ++ FieldType.int.toString) = some E.2.2.2.1 := (g.2.2.2.2.2.1.1.2 0 (E.2.2.2.1, .int) rfl).2
  have r3 : cA = E.2.2.2.1 := Option.some.inj (r1.symm.trans r2)
  subst r3
  rw [hw a] at hP1 hD1
  exact k a H1 locs ls hs hP1 hD1 hS1
theorem zk_newz (g : zk_G p E A s m args c own cc nL) {n : Int32} {N : Nat} {W' : Nat → va_W} (hn : ¬ n < 0) (hN : n.toNatClampNeg = N) (hb : N * componentBytes .boolean ≤ 536870912) (hz : cells + 1 = cells' ∧ slots + N = slots') (hR : cells' ≤ R.cells ∧ slots' ≤ R.slots) (hd : decode cc pc = .ok (.newarray .boolean, 2)) (hp : pc + 2 = q) (hw : ∀ a, ws ++ [(a, .inl (E.2.2.2.2, N, .inl (fun _ => 0)))] = W' a) (k : ∀ a, zk_W p l e R s m args below meth c cells' slots' Q E A nL q lv (.ref a :: rest) (W' a)) : zk_W p l e R s m args below meth c cells slots Q E A nL pc lv (.int n :: rest) ws := by
  obtain ⟨rfl, rfl⟩ := hz
  subst hp
  intro H locs ls hs hP hD hS
  refine va_newa (atype := .boolean) (ty := .boolean) (a0 := (N, .inl (fun _ => 0))) g.1 g.2.1 (g.2.2.2.2.1 _ zk_az) rfl g.2.2.2.2.2.1.1 hP hD hS g.2.2.2.2.2.2 (fun cA => rfl) hn hN hb hR.1 hR.2 hd (fun a cA H1 hK1 hP1 hD1 hS1 => ?_)
  have r1 : s.vm.findClass ("[" ++ FieldType.boolean.toString) = some cA := (hK1.2 2 (cA, .boolean) rfl).2
  have r2 : s.vm.findClass ("[" ++ FieldType.boolean.toString) = some E.2.2.2.2 := (g.2.2.2.2.2.1.1.2 1 (E.2.2.2.2, .boolean) rfl).2
  have r3 : cA = E.2.2.2.2 := Option.some.inj (r1.symm.trans r2)
  subst r3
  rw [hw a] at hP1 hD1
  exact k a H1 locs ls hs hP1 hD1 hS1
theorem zk_putF (g : zk_G p E A s m args c own cc nL) (hin : meth.name = "<init>") {idx ci N a : Nat} {C : String} {T : u_T} {ty : Nat → FieldType} {fs : List Value} {v : Value} (hC : zw_Cl ci C T N ty) (q0 k0 : Nat) (he : ws[q0]? = some (a, .inr (ci, fs))) (hk : k0 < N) (hl : Cond.fieldLink own idx (T k0).1 (T k0).2.1 (T k0).2.2.1 ∈ zw_tb) (hfin : (T k0).2.2.2 = true) (hdecl : (T k0).1 = own) (hn : narrow (ty k0) v = v) (hfit : fits (ty k0) v = true) (hlen : k0 < fs.length) (hd : decode cc pc = .ok (.putfield idx, 3)) (hp : pc + 3 = q) (hw : ws.set q0 (a, .inr (ci, fs.set k0 v)) = ws') (k : zk_W p l e R s m args below meth c cells slots Q E A nL q lv rest ws') : zk_W p l e R s m args below meth c cells slots Q E A nL pc lv (v :: .ref a :: rest) ws := by
  subst hp; subst hw
  intro H locs ls hs hP hD hS
  obtain ⟨hc, hw2, hty, hnm⟩ := hC
  exact va_putF (v := v) (ty := ty k0) (fs := fs) g.1 g.2.1 g.2.2.2.2.1 hw2 ty hty hnm g.2.2.2.1 g.2.2.2.2.2.1.1 hP hD hS q0 he hc k0 hk (g.2.2.2.2.1 _ hl) (fun _ h9 => h9) hfin hin hdecl (hty k0 hk) hn hfit hlen hd (fun H1 locs1 hP1 hD1 hS1 => k H1 locs1 ls hs hP1 hD1 hS1)
theorem zk_put (g : zk_G p E A s m args c own cc nL) {idx ci N a : Nat} {C : String} {T : u_T} {ty : Nat → FieldType} {fs : List Value} {v : Value} (hC : zw_Cl ci C T N ty) (q0 k0 : Nat) (he : ws[q0]? = some (a, .inr (ci, fs))) (hk : k0 < N) (hl : Cond.fieldLink own idx (T k0).1 (T k0).2.1 (T k0).2.2.1 ∈ zw_tb) (hfin : (T k0).2.2.2 = false) (hn : narrow (ty k0) v = v) (hfit : fits (ty k0) v = true) (hlen : k0 < fs.length) (hd : decode cc pc = .ok (.putfield idx, 3)) (hp : pc + 3 = q) (hw : ws.set q0 (a, .inr (ci, fs.set k0 v)) = ws') (k : zk_W p l e R s m args below meth c cells slots Q E A nL q lv rest ws') : zk_W p l e R s m args below meth c cells slots Q E A nL pc lv (v :: .ref a :: rest) ws := by
  subst hp; subst hw
  intro H locs ls hs hP hD hS
  obtain ⟨hc, hw2, hty, hnm⟩ := hC
  exact va_put (v := v) (ty := ty k0) (fs := fs) g.1 g.2.1 g.2.2.2.2.1 hw2 ty hty hnm g.2.2.2.1 g.2.2.2.2.2.1.1 hP hD hS q0 he hc k0 hk (g.2.2.2.2.1 _ hl) (fun _ h9 => h9) hfin (hty k0 hk) hn hfit hlen hd (fun H1 locs1 hP1 hD1 hS1 => k H1 locs1 ls hs hP1 hD1 hS1)
theorem zk_get (g : zk_G p E A s m args c own cc nL) {idx ci N a : Nat} {C : String} {T : u_T} {ty : Nat → FieldType} {fs : List Value} {v : Value} (hC : zw_Cl ci C T N ty) (q0 k0 : Nat) (he : ws[q0]? = some (a, .inr (ci, fs))) (hk : k0 < N) (hl : Cond.fieldLink own idx (T k0).1 (T k0).2.1 (T k0).2.2.1 ∈ zw_tb) (hv : fs[k0]? = some v) (hd : decode cc pc = .ok (.getfield idx, 3)) (hp : pc + 3 = q) (k : zk_W p l e R s m args below meth c cells slots Q E A nL q lv (v :: rest) ws) : zk_W p l e R s m args below meth c cells slots Q E A nL pc lv (.ref a :: rest) ws := by
  subst hp
  intro H locs ls hs hP hD hS
  obtain ⟨hc, hw2, hty, hnm⟩ := hC
  exact va_get (v := v) (fs := fs) g.1 g.2.1 g.2.2.2.2.1 hw2 g.2.2.2.1 g.2.2.2.2.2.1.1 hP q0 he hc k0 hk (g.2.2.2.2.1 _ hl) (fun _ h9 => h9) hv hd (k H locs ls hs hP hD hS)
theorem zk_blind (E : zw_En) (As : List Value) (w0 : va_W) (sz : Nat) : FrameBlind (va_Pc As (fun U => U.heap.size = sz ∧ va_P E.1 vwCl w0 U.heap ∧ zw_K E U ∧ va_D (fun _ => True) w0)) := fun a U gg mk ⟨h1, h2, h3, h4, h5⟩ => ⟨h1, h2, h3, ⟨va_K.moved (u := U) (U := U.calling gg mk a) (Vm.Alike.refl U.vm) h4.1, fun q hq => va_Nw.same rfl (rfl : U.vm = (U.calling gg mk a).vm) (h4.2 q hq)⟩, h5⟩
theorem zk_callI (g : zk_G p E A s m args c own cc nL) {S : Type} {mt : zw_Mt} {mc ms idx n a : Nat} {As st : List Value} {w0 wr : va_W} {post : S → Prop} {w1 : S → va_W} (hC : zk_Ct l E mt mc ms (.ref a :: As) w0 post w1) (hm : zw_Mi mt n) (hl : Cond.methodLink own idx mt.1 ∈ zw_tb) (isC isR : List Nat) (hwC0 : isC.filterMap (fun i => ws[i]?) = w0) (hwC : isC.map (fun i => ws[i]?) = w0.map some) (hwR : isR.map (fun i => ws[i]?) = wr.map some) (hnC : va_nd isC = true) (hnR : va_nd isR = true) (hdis : ∀ i ∈ isR, i ∉ isC) (hn : As.length = n) (hst : st = As.reverse ++ .ref a :: rest) (hcat : (rest.map fun v => v.category).sum ≤ 8) (hR : mt.2.2.2.2.1 + 1 ≤ R.frames ∧ 8 + (mt.2.2.1 + 11) + mt.2.2.2.2.2 ≤ R.locals) (hz : cells + mc = cells' ∧ slots + ms = slots') (hz2 : cells' ≤ R.cells ∧ slots' ≤ R.slots) (hd : decode cc pc = .ok (.invokespecial idx, 3)) (hp : pc + 3 = q) (k : ∀ u, post u → zk_W p l e R s m args below meth c cells' slots' Q E A nL q lv rest (wr ++ w1 u)) : zk_W p l e R s m args below meth c cells slots Q E A nL pc lv st ws := by
  obtain ⟨rfl, rfl⟩ := hz
  subst hp; subst hst
  intro H locs ls hs hP hD hS
  have hPc := hP.sub isC hwC0
  have hDc := hD.sub isC hnC hwC
  have hFc := va_free (wc := w0) hD hS g.2.2.2.2.2.2 isC hwC
  obtain ⟨hm1, hm2, hm3, hm4⟩ := hm
  have hw0 : zw_ws0 mt = Cond.code mt.1 mt.2.1 mt.2.2.1 none :: zw_tb := by unfold zw_ws0; rw [hm4]
  refine va_callv (va_runI (Ts := zw_tb) (nL := nL) (As := As) (rest := rest) (b := a) (n := n) ⟨g.1, g.2.1, g.2.2.1, g.2.2.2.1, g.2.2.2.2.1⟩ (hC H.size) (cwI n g.2.2.2.2.1 (zw_good (zw_ws0_in hm1)) hw0 rfl rfl (g.2.2.2.2.1 _ hm1.2.1) (g.2.2.2.2.1 _ hl) (g.2.2.2.2.1 _ hm2) hm3 hm1.2.2 hR) ⟨zk_blind E _ w0 H.size, fun U hU hW => ⟨rfl, by rw [hU], by rw [hU]; exact hPc, g.2.2.2.2.2.1.warm hW, hDc.weaken (fun _ _ _ _ => trivial)⟩⟩ rfl hn hs.1 rfl (lv_room hcat) hd hz2) hS (fun q _ h => hFc q h) hFc (fun u t H1 locs1 ht hvm hw hB hz1 hk1 hS1 => ?_)
  obtain ⟨hP1, hD1⟩ := hB
  rw [ht] at hP1
  obtain ⟨hP2, hD2⟩ := va_join (wr := wr) (w1 := w1 u) hP hD isC isR hwC hwR hnR hdis hk1 hFc hP1 hD1
  exact k u hw H1 locs1 ls hs hP2 hD2 hS1
theorem zk_callN (g : zk_G p E A s m args c own cc nL) {S : Type} {mt : zw_Mt} {mc ms idx n a : Nat} {host : String} {As st : List Value} {w0 wr : va_W} {post : S → Prop} {w1 : S → va_W} (hC : zk_Ct l E mt mc ms (.ref a :: As) w0 post w1) (hm : zw_Mi mt n) (hl : (own, idx, mt.1, host) ∈ zw_nest) (isC isR : List Nat) (hwC0 : isC.filterMap (fun i => ws[i]?) = w0) (hwC : isC.map (fun i => ws[i]?) = w0.map some) (hwR : isR.map (fun i => ws[i]?) = wr.map some) (hnC : va_nd isC = true) (hnR : va_nd isR = true) (hdis : ∀ i ∈ isR, i ∉ isC) (hn : As.length = n) (hst : st = As.reverse ++ .ref a :: rest) (hcat : (rest.map fun v => v.category).sum ≤ 8) (hR : mt.2.2.2.2.1 + 1 ≤ R.frames ∧ 8 + (mt.2.2.1 + 11) + mt.2.2.2.2.2 ≤ R.locals) (hz : cells + mc = cells' ∧ slots + ms = slots') (hz2 : cells' ≤ R.cells ∧ slots' ≤ R.slots) (hd : decode cc pc = .ok (.invokespecial idx, 3)) (hp : pc + 3 = q) (k : ∀ u, post u → zk_W p l e R s m args below meth c cells' slots' Q E A nL q lv rest (wr ++ w1 u)) : zk_W p l e R s m args below meth c cells slots Q E A nL pc lv st ws := by
  obtain ⟨rfl, rfl⟩ := hz
  subst hp; subst hst
  intro H locs ls hs hP hD hS
  have hPc := hP.sub isC hwC0
  have hDc := hD.sub isC hnC hwC
  have hFc := va_free (wc := w0) hD hS g.2.2.2.2.2.2 isC hwC
  obtain ⟨hm1, hm2, hm3, hm4⟩ := hm
  have hw0 : zw_ws0 mt = Cond.code mt.1 mt.2.1 mt.2.2.1 none :: zw_tb := by unfold zw_ws0; rw [hm4]
  refine va_callv (va_runIN (Ts := zw_tb) (nL := nL) (As := As) (rest := rest) (b := a) (n := n) (host := host) ⟨g.1, g.2.1, g.2.2.1, g.2.2.2.1, g.2.2.2.2.1⟩ (hC H.size) ⟨va_cnB n g.2.2.2.2.1 (zw_good (zw_ws0_in hm1)) hw0 rfl rfl (g.2.2.2.2.2.1.2 _ hl) (g.2.2.2.2.1 _ hm1.2.1) hm1.2.2 hR, hm3, g.2.2.2.2.1 _ hm2⟩ ⟨zk_blind E _ w0 H.size, fun U hU hW => ⟨rfl, by rw [hU], by rw [hU]; exact hPc, g.2.2.2.2.2.1.warm hW, hDc.weaken (fun _ _ _ _ => trivial)⟩⟩ rfl hn hs.1 rfl (lv_room hcat) hd hz2) hS (fun q _ h => hFc q h) hFc (fun u t H1 locs1 ht hvm hw hB hz1 hk1 hS1 => ?_)
  obtain ⟨hP1, hD1⟩ := hB
  rw [ht] at hP1
  obtain ⟨hP2, hD2⟩ := va_join (wr := wr) (w1 := w1 u) hP hD isC isR hwC hwR hnR hdis hk1 hFc hP1 hD1
  exact k u hw H1 locs1 ls hs hP2 hD2 hS1
/-- from a list of cells to the picture -/
theorem zk_to (g : zk_G p E A s m args c own cc nL) {L : List Nat} {ad : Nat → Nat} {h : zw_Hp} (is : List Nat) (h0 : is.filterMap (fun i => ws[i]?) = zw_ws (E.1, ad, L, E.2.2.2) h) (h1 : is.map (fun i => ws[i]?) = (zw_ws (E.1, ad, L, E.2.2.2) h).map some) (hnd : va_nd is = true) (hL : L.Nodup) (k : zw_Ok (E.1, ad, L, E.2.2.2) → zw_G p (E.1, ad, L, E.2.2.2) A s m args c own cc nL → zw_W p l e R s m args below meth c cells slots Q (E.1, ad, L, E.2.2.2) A nL pc lv rest h) : zk_W p l e R s m args below meth c cells slots Q E A nL pc lv rest ws := by
  intro H locs ls hs hP hD hS
  have hP1 := hP.sub is h0
  have hD1 := hD.sub is hnd h1
  have ok : zw_Ok (E.1, ad, L, E.2.2.2) := by
    refine ⟨hL, fun i hi j hj he => ?_⟩
    obtain ⟨a, ha⟩ := List.getElem?_of_mem hi
    obtain ⟨b, hb⟩ := List.getElem?_of_mem hj
    have hab := hD1.1 a b _ _ (zw_ws_at (E := (E.1, ad, L, E.2.2.2)) (h := h) ha) (zw_ws_at (E := (E.1, ad, L, E.2.2.2)) (h := h) hb) he
    subst hab
    exact Option.some.inj (ha.symm.trans hb)
  have hA : ∀ q, zw_A (E.1, ad, L, E.2.2.2) q → A q := by
    rintro q ⟨i, hi, rfl⟩
    obtain ⟨a, ha⟩ := List.getElem?_of_mem hi
    exact hD1.2 a _ (zw_ws_at (E := (E.1, ad, L, E.2.2.2)) (h := h) ha)
  exact k ok ⟨g.1, g.2.1, g.2.2.1, g.2.2.2.1, g.2.2.2.2.1, g.2.2.2.2.2.1, fun h => zw_ws_D ok hA h, hA⟩ H locs ls hs hP1 hS
theorem zk_vret {S : Type} {mc ms : Nat} {post : S → Prop} {w1 : S → va_W} (g : zk_G p E A s m args c own cc nL) (hr : meth.sig.returnType = none) (hlk : meth.locks = false) (u : S) (hu : post u) (is : List Nat) (h0 : is.filterMap (fun i => ws[i]?) = w1 u) (h1 : is.map (fun i => ws[i]?) = (w1 u).map some) (hnd : va_nd is = true) (hd : decode cc pc = .ok (.return_, 1)) : zk_W p l e R s m args below meth c mc ms (MQ below (va_Qv post (fun u t => va_P E.1 vwCl (w1 u) t.heap ∧ va_D A (w1 u)) A) args s mc ms A) E A nL pc lv [] ws :=
  fun H locs ls hs hP hD hS => W.vret g.1 g.2.1 hr (fun t ht hW => ⟨⟨u, rfl, hu, by rw [ht]; exact hP.sub is h0, hD.sub is hnd h1⟩, hS.F ht⟩) hS.2.2 hd hlk
theorem zk_vretZ {S : Type} {mc ms : Nat} {post : S → Prop} {w1 : S → va_W} {L : List Nat} {ad : Nat → Nat} {h : zw_Hp} (g : zw_G p (E.1, ad, L, E.2.2.2) A s m args c own cc nL) (hr : meth.sig.returnType = none) (hlk : meth.locks = false) (u : S) (hu : post u) (h0 : zw_ws (E.1, ad, L, E.2.2.2) h = w1 u) (hd : decode cc pc = .ok (.return_, 1)) : zw_W p l e R s m args below meth c mc ms (MQ below (va_Qv post (fun u t => va_P E.1 vwCl (w1 u) t.heap ∧ va_D A (w1 u)) A) args s mc ms A) (E.1, ad, L, E.2.2.2) A nL pc lv [] h :=
  fun H locs ls hs hP hS => W.vret g.1 g.2.1 hr (fun t ht hW => ⟨⟨u, rfl, hu, by rw [ht, ← h0]; exact hP, by rw [← h0]; exact g.2.2.2.2.2.2.1 h⟩, hS.F ht⟩) hS.2.2 hd hlk
end ZK
theorem zk_ct {l : Launch} {E : zw_En} {S : Type} {mt : zw_Mt} {mc ms : Nat} {As : List Value} {lv0 : List (Nat × Value)} {w0 : va_W} {post : S → Prop} {w1 : S → va_W} (hy : plainName mt.1.cls = true) (hnm : mt.1.name = "<init>") (hl0 : lv_args 0 As = lv0) (hlen : (lg_sl As).length ≤ mt.2.2.1)
    (body : ∀ p e s m args below meth c A, zk_G p E A s m args c mt.1.cls mt.2.1 mt.2.2.1 → meth.sig.returnType = mt.2.2.2.1 → meth.locks = false → meth.name = "<init>" → zk_W p l e { frames := mt.2.2.2.2.1, cells := mc, slots := ms, locals := mt.2.2.2.2.2 } s m args below meth c 0 0 (MQ below (va_Qv post (fun u t => va_P E.1 vwCl (w1 u) t.heap ∧ va_D A (w1 u)) A) args s mc ms A) E A mt.2.2.1 0 lv0 [] w0) : zk_Ct l E mt mc ms As w0 post w1 := by
  intro sz
  refine Met.ofW (cc := mt.2.1) (maxL := mt.2.2.1) (ret := mt.2.2.2.1) hy rfl ?_
  intro p e s m args below meth c s₁ B hml hv
  obtain ⟨ha, hsz, hP, hK, hD0⟩ := hv
  subst ha; subst hsz
  have hts := atoms_spec (ws := zw_ws0 mt) B.pre
  have hl := lv_entry As (n := mt.2.2.1) hlen
  rw [hl0] at hl
  rw [lg_entry_eq]
  have hin : meth.name = mt.1.name := (name_of_methodNamed B.named B.method).1
  exact body p e s m _ below meth c (va_A w0 s.heap.size) ⟨B.exec, B.bytes, hml, findClass_of_methodNamed B.named, fun w hw => hts w (List.mem_cons_of_mem _ hw), hK, fun q h => Or.inr h⟩ B.returns B.notSynchronized (hin.trans hnm) s.heap [] _ hl hP (hD0.self (sz := s.heap.size)) va_S.rf
