/-! the heap's picture: cells by number, whole numbers by (cell, place), longs by cell -/
abbrev zw_Hp : Type := (Nat → Nat → Int32) × (Nat → Int64)
def zw_upR (h : zw_Hp) (i : Nat) (row : Nat → Int32) : zw_Hp := (fun a => if a = i then row else h.1 a, h.2)
def zw_up (h : zw_Hp) (i k : Nat) (v : Int32) : zw_Hp := zw_upR h i (upd (h.1 i) k v)
def zw_upL (h : zw_Hp) (i : Nat) (v : Int64) : zw_Hp := (h.1, fun a => if a = i then v else h.2 a)
def zw_nm {α β : Type} (x : α) (f : α → β) : β := f x
def zw_ok (i : Int32) (n : Nat) : Bool := !(decide (i < 0) || decide (n ≤ i.toNatClampNeg))
theorem zw_ok_in {i : Int32} {n : Nat} (h : zw_ok i n = true) : vp_in i n := by
  intro q
  simp [zw_ok] at h
  rcases q with q | q
  · exact absurd q (Int32.not_lt.mpr h.1)
  · omega
theorem zw_nm_ex {α β : Type} {x : α} {f : α → β} {y : β} (h : zw_nm x f = y) : ∃ z, z = x ∧ f z = y := ⟨x, rfl, h⟩
theorem zw_bd {α β : Type} {x : Option α} {f : α → Option β} {y : β} (h : x.bind f = some y) : ∃ z, x = some z ∧ f z = some y := by
  cases x with
  | none => cases h
  | some z => exact ⟨z, rfl, h⟩
theorem zw_gd {α : Type} {b : Bool} {x : Option α} {y : α} (h : (if b = true then x else none) = some y) : b = true ∧ x = some y := by
  cases b with
  | true => exact ⟨rfl, h⟩
  | false => cases h
theorem zw_gp {α : Type} {c : Prop} [Decidable c] {x : Option α} {y : α} (h : (if c then x else none) = some y) : c ∧ x = some y := by
  by_cases q : c
  · rw [if_pos q] at h; exact ⟨q, h⟩
  · rw [if_neg q] at h; cases h
theorem zw_ift {α : Type} {c : Prop} [Decidable c] {a b x : α} (hc : c) (h : (if c then a else b) = x) : a = x := by rw [if_pos hc] at h; exact h
theorem zw_iff {α : Type} {c : Prop} [Decidable c] {a b x : α} (hc : ¬ c) (h : (if c then a else b) = x) : b = x := by rw [if_neg hc] at h; exact h
def zw_it {S R : Type} (f : (S → Option R) → S → Option R) : Nat → S → Option R
  | 0, _ => none
  | n + 1, w => f (zw_it f n) w
theorem zw_it_ind {S R : Type} {f : (S → Option R) → S → Option R} {P : S → R → Prop} (hs : ∀ k : S → Option R, (∀ w z, k w = some z → P w z) → ∀ w z, f k w = some z → P w z) : ∀ (n : Nat) (w : S) (z : R), zw_it f n w = some z → P w z
  | 0, _, _, h => by cases h
  | n + 1, w, z, h => hs (zw_it f n) (zw_it_ind hs n) w z h
/-! the shape of the two systems once they are made: an object's class and fields (none: an int, some none: a long, some (some j): the cell j), or an array (boolean or int) and its length -/
abbrev zw_Sh : Type := (Nat × List (Option (Option Nat))) ⊕ (Bool × Nat)
def zw_tab : List zw_Sh := [
  .inl (8, [some (some 1), some (some 3), some (some 6), some (some 9), some (some 19), some (some 22), none, some (some 24), some (some 28), some (some 30), some none]),
  .inl (7, [some (some 2), none]),
  .inr (false, 36),
  .inl (2, [some (some 4), some (some 5), none, none, none, none, none, none, none]),
  .inr (false, 5),
  .inr (false, 4),
  .inl (2, [some (some 7), some (some 8), none, none, none, none, none, none, none]),
  .inr (false, 5),
  .inr (false, 4),
  .inl (3, [some (some 6), some (some 10), some (some 11), some (some 12), some (some 13), none, none, none, none, none]),
  .inr (false, 5),
  .inr (false, 4),
  .inr (false, 4),
  .inr (false, 4),
  .inl (3, [some (some 6), some (some 15), some (some 16), some (some 17), some (some 18), none, none, none, none, none]),
  .inr (false, 5),
  .inr (false, 4),
  .inr (false, 4),
  .inr (false, 4),
  .inl (0, [some (some 20), none, none]),
  .inl (5, [some (some 21)]),
  .inr (false, 294),
  .inl (5, [some (some 23)]),
  .inr (false, 42),
  .inl (6, [some (some 25), some (some 26), some (some 27), none]),
  .inr (false, 6),
  .inr (false, 6),
  .inr (false, 6),
  .inl (4, [some (some 6), some (some 9), some (some 14), some (some 29), none, none]),
  .inr (false, 5),
  .inl (1, [some (some 6), some (some 9), some (some 14)]),
  .inl (9, [none, some (some 32), none, none, none, none, none, some (some 33), none, some (some 34), none, none, none, none, some (some 35), none, some (some 36), none, some (some 37), some (some 38), some (some 39), none, some (some 40), some (some 41), none, some (some 42), some (some 43), some (some 44), some none, none, none, none, none, none, none, some (some 45), some (some 46), some (some 47)]),
  .inr (false, 36),
  .inr (false, 5),
  .inr (false, 4),
  .inr (false, 5),
  .inr (false, 4),
  .inr (false, 21),
  .inr (false, 21),
  .inr (false, 294),
  .inr (false, 42),
  .inr (true, 2),
  .inr (false, 6),
  .inr (false, 6),
  .inr (false, 6),
  .inr (false, 8),
  .inr (false, 16),
  .inr (false, 5)]
def zw_sh (i : Nat) : zw_Sh := zw_tab.getD i (.inr (false, 0))
/-- class numbers and slots; addresses; cells that live; the classes of int[] and boolean[] -/
abbrev zw_En : Type := va_G × (Nat → Nat) × List Nat × ClassId × ClassId
def zw_fv (E : zw_En) (h : zw_Hp) (i k : Nat) : Option (Option Nat) → Value
  | none => .int (h.1 i k)
  | some none => .long (h.2 i)
  | some (some j) => .ref (E.2.1 j)
def zw_entS (E : zw_En) (h : zw_Hp) (i : Nat) (sh : zw_Sh) : va_E := match sh with
  | .inl o => .inr (o.1, o.2.mapIdx (fun k f => zw_fv E h i k f))
  | .inr a => .inl (if a.1 = true then E.2.2.2.2 else E.2.2.2.1, a.2, .inl (h.1 i))
def zw_ent (E : zw_En) (h : zw_Hp) (i : Nat) : va_E := zw_entS E h i (zw_sh i)
def zw_ws (E : zw_En) (h : zw_Hp) : va_W := E.2.2.1.map (fun i => (E.2.1 i, zw_ent E h i))
def zw_tys (E : zw_En) : List (ClassId × FieldType) := [(E.2.2.2.1, .int), (E.2.2.2.2, .boolean)]
def zw_A (E : zw_En) : Nat → Prop := fun q => ∃ i ∈ E.2.2.1, E.2.1 i = q
def zw_Ok (E : zw_En) : Prop := E.2.2.1.Nodup ∧ ∀ i ∈ E.2.2.1, ∀ j ∈ E.2.2.1, E.2.1 i = E.2.1 j → i = j
theorem zw_ws_at {E : zw_En} {h : zw_Hp} {q i : Nat} (hq : E.2.2.1[q]? = some i) : (zw_ws E h)[q]? = some (E.2.1 i, zw_ent E h i) := by
  simp [zw_ws, hq]
theorem zw_ws_D {E : zw_En} {A : Nat → Prop} (ok : zw_Ok E) (hA : ∀ q, zw_A E q → A q) (h : zw_Hp) : va_D A (zw_ws E h) := by
  refine ⟨fun i j p q hp hq e => ?_, fun k q hk => ?_⟩
  · simp only [zw_ws, List.getElem?_map, Option.map_eq_some_iff] at hp hq
    obtain ⟨a, ha, rfl⟩ := hp
    obtain ⟨b, hb, rfl⟩ := hq
    have hab := ok.2 a (List.mem_of_getElem? ha) b (List.mem_of_getElem? hb) e
    subst hab
    exact (List.getElem?_inj (List.getElem?_eq_some_iff.mp ha).1 ok.1).mp (ha.trans hb.symm)
  · simp only [zw_ws, List.getElem?_map, Option.map_eq_some_iff] at hk
    obtain ⟨a, ha, rfl⟩ := hk
    exact hA _ ⟨a, List.mem_of_getElem? ha, rfl⟩
/-- one cell changes, the others stay -/
theorem zw_ws_set {E : zw_En} {h h' : zw_Hp} {q i : Nat} {A : Nat → Prop} (hD : va_D A (zw_ws E h)) (hq : E.2.2.1[q]? = some i) (ho : ∀ j, j ≠ i → zw_ent E h' j = zw_ent E h j) : (zw_ws E h).set q (E.2.1 i, zw_ent E h' i) = zw_ws E h' := by
  apply List.ext_getElem?
  intro k
  by_cases hk : k = q
  · subst hk
    have hl : k < (zw_ws E h).length := by
      simp only [zw_ws, List.length_map]
      exact (List.getElem?_eq_some_iff.mp hq).1
    rw [List.getElem?_set_self hl, zw_ws_at hq]
  · rw [List.getElem?_set_ne (Ne.symm hk)]
    cases hj : E.2.2.1[k]? with
    | none => simp [zw_ws, hj]
    | some j =>
      have hne : j ≠ i := by
        intro e
        subst e
        exact hk (hD.1 k q _ _ (zw_ws_at hj) (zw_ws_at hq) rfl)
      rw [zw_ws_at hj, zw_ws_at hj, ho j hne]
theorem zw_ent_row {E : zw_En} {h : zw_Hp} {i : Nat} (row : Nat → Int32) (j : Nat) (hj : j ≠ i) : zw_ent E (zw_upR h i row) j = zw_ent E h j := by
  have e1 : (zw_upR h i row).1 j = h.1 j := if_neg hj
  have e2 : (zw_upR h i row).2 = h.2 := rfl
  have e3 : ∀ k f, zw_fv E (zw_upR h i row) j k f = zw_fv E h j k f := by
    intro k f
    cases f with
    | none => simp only [zw_fv, e1]
    | some f => cases f with
      | none => simp only [zw_fv, e2]
      | some f => simp only [zw_fv]
  unfold zw_ent zw_entS
  cases zw_sh j with
  | inl o => simp only [e3]
  | inr a => simp only [e1]
theorem zw_ent_long {E : zw_En} {h : zw_Hp} {i : Nat} (v : Int64) (j : Nat) (hj : j ≠ i) : zw_ent E (zw_upL h i v) j = zw_ent E h j := by
  have e1 : (zw_upL h i v).1 = h.1 := rfl
  have e2 : (zw_upL h i v).2 j = h.2 j := if_neg hj
  have e3 : ∀ k f, zw_fv E (zw_upL h i v) j k f = zw_fv E h j k f := by
    intro k f
    cases f with
    | none => simp only [zw_fv, e1]
    | some f => cases f with
      | none => simp only [zw_fv, e2]
      | some f => simp only [zw_fv]
  unfold zw_ent zw_entS
  cases zw_sh j with
  | inl o => simp only [e3]
  | inr a => simp only [e1]
theorem zw_ent_ob {E : zw_En} {h : zw_Hp} {i ci : Nat} {fs : List (Option (Option Nat))} (hs : zw_sh i = .inl (ci, fs)) : zw_ent E h i = .inr (ci, fs.mapIdx (fun k f => zw_fv E h i k f)) := by
  unfold zw_ent; rw [hs]; rfl
theorem zw_ent_ia {E : zw_En} {h : zw_Hp} {i n : Nat} (hs : zw_sh i = .inr (false, n)) : zw_ent E h i = .inl (E.2.2.2.1, n, .inl (h.1 i)) := by
  unfold zw_ent; rw [hs]; rfl
theorem zw_ent_za {E : zw_En} {h : zw_Hp} {i n : Nat} (hs : zw_sh i = .inr (true, n)) : zw_ent E h i = .inl (E.2.2.2.2, n, .inl (h.1 i)) := by
  unfold zw_ent; rw [hs]; rfl
theorem zw_row_same (h : zw_Hp) (i : Nat) (row : Nat → Int32) : (zw_upR h i row).1 i = row := if_pos rfl
theorem zw_fs_set {E : zw_En} {h : zw_Hp} {i k : Nat} {fs : List (Option (Option Nat))} (v : Int32) (hf : fs[k]? = some none) : (fs.mapIdx (fun k f => zw_fv E h i k f)).set k (.int v) = fs.mapIdx (fun k f => zw_fv E (zw_up h i k v) i k f) → True := fun _ => trivial
theorem zw_fs_up {E : zw_En} {h : zw_Hp} {i k : Nat} {fs : List (Option (Option Nat))} (v : Int32) (hf : fs[k]? = some none) : fs.mapIdx (fun k' f => zw_fv E (zw_up h i k v) i k' f) = (fs.mapIdx (fun k' f => zw_fv E h i k' f)).set k (.int v) := by
  apply List.ext_getElem?
  intro j
  have hl : k < (fs.mapIdx (fun k' f => zw_fv E h i k' f)).length := by rw [List.length_mapIdx]; exact (List.getElem?_eq_some_iff.mp hf).1
  by_cases hj : j = k
  · subst hj
    rw [List.getElem?_set_self hl, List.getElem?_mapIdx, hf]
    simp [zw_fv, zw_up, zw_row_same, upd]
  · rw [List.getElem?_set_ne (Ne.symm hj), List.getElem?_mapIdx, List.getElem?_mapIdx]
    cases fs[j]? with
    | none => rfl
    | some f => cases f with
      | none => simp [zw_fv, zw_up, zw_row_same, upd, hj]
      | some f => cases f <;> rfl
theorem zw_fs_upL {E : zw_En} {h : zw_Hp} {i k : Nat} {fs : List (Option (Option Nat))} (v : Int64) (hf : fs[k]? = some (some none)) (h1 : ∀ j, fs[j]? = some (some none) → j = k) : fs.mapIdx (fun k' f => zw_fv E (zw_upL h i v) i k' f) = (fs.mapIdx (fun k' f => zw_fv E h i k' f)).set k (.long v) := by
  apply List.ext_getElem?
  intro j
  have hl : k < (fs.mapIdx (fun k' f => zw_fv E h i k' f)).length := by rw [List.length_mapIdx]; exact (List.getElem?_eq_some_iff.mp hf).1
  by_cases hj : j = k
  · subst hj
    rw [List.getElem?_set_self hl, List.getElem?_mapIdx, hf]
    simp [zw_fv, zw_upL]
  · rw [List.getElem?_set_ne (Ne.symm hj), List.getElem?_mapIdx, List.getElem?_mapIdx]
    cases hfj : fs[j]? with
    | none => rfl
    | some f => cases f with
      | none => rfl
      | some f => cases f with
        | none => exact absurd (h1 j hfj) hj
        | some f => rfl
/-! the tables' words -/
def zw_tb : List Cond := lw_tbl.filter goodWord
theorem zw_tb_in {w : Cond} (h : w ∈ zw_tb) : w ∈ lw_tbl := (List.mem_filter.mp h).1
theorem zm {w : Cond} (i : Nat) (h : lw_tbl[i]? = some w) (hg : goodWord w = true) : w ∈ zw_tb := List.mem_filter.mpr ⟨List.mem_of_getElem? h, hg⟩
theorem zw_good {ws : List Cond} (h : ∀ w ∈ ws, w ∈ zw_tb) : GoodIn zw_tb ws := fun w hw => ⟨h w hw, good_of_word (List.mem_filter.mp (h w hw)).2⟩
/-- the links between nest mates, which no table keeps of itself -/
abbrev zw_Ns : Type := String × Nat × MethodName × String
def zw_nestw (q : zw_Ns) : Cond := .methodLinkNest q.1 q.2.1 q.2.2.1 q.2.2.2
def zw_nest : List zw_Ns := [("BucketChain", 9, ⟨"BucketChain$Text", "<init>", "()V"⟩, "BucketChain"), ("BucketChain", 18, ⟨"BucketChain$Plan", "<init>", "()V"⟩, "BucketChain"), ("BucketChain", 37, ⟨"BucketChain$Acts", "<init>", "()V"⟩, "BucketChain"), ("BucketChain", 57, ⟨"BucketChain$Sightings", "<init>", "()V"⟩, "BucketChain"), ("BucketChain$Search", 59, ⟨"BucketChain", "factorial", "(I)I"⟩, "BucketChain"), ("BucketChain$Forecast", 62, ⟨"BucketChain", "factorial", "(I)I"⟩, "BucketChain")]
def zw_K (E : zw_En) (U : State) : Prop := va_K E.1 vwCl (zw_tys E) U ∧ ∀ q ∈ zw_nest, va_Nw (zw_nestw q) U
theorem zw_K.warm {E : zw_En} {s U : State} (hW : s.WarmedH U.vm) (hK : zw_K E s) : zw_K E U := ⟨va_K.moved hW.alike hK.1, fun q hq => va_Nw.warmM hW (hK.2 q hq)⟩
/-- a class's rows: its number in vwCl -/
def zw_Cl (ci : Nat) (C : String) (T : u_T) (N : Nat) (ty : Nat → FieldType) : Prop := vwCl[ci]? = some (C, T, N) ∧ (∀ w ∈ u_ws C T N, w ∈ zw_tb) ∧ (∀ k, k < N → parseFieldDescriptor (T k).2.2.1 = some (ty k)) ∧ (∀ a, a < N → ∀ b, b < N → a ≠ b → (T a).2.1 ≠ (T b).2.1)
/-- the field k of the class ci, as the entry idx of own's pool names it -/
def zw_Fl (own : String) (idx ci k : Nat) : Prop := ∃ (C : String) (T : u_T) (N : Nat) (ty : Nat → FieldType), zw_Cl ci C T N ty ∧ k < N ∧ Cond.fieldLink own idx (T k).1 (T k).2.1 (T k).2.2.1 ∈ zw_tb
/-- .. and it may be written, its type -/
def zw_Fp (own : String) (idx ci k : Nat) (t : FieldType) : Prop := ∃ (C : String) (T : u_T) (N : Nat) (ty : Nat → FieldType), zw_Cl ci C T N ty ∧ k < N ∧ Cond.fieldLink own idx (T k).1 (T k).2.1 (T k).2.2.1 ∈ zw_tb ∧ (T k).2.2.2 = false ∧ ty k = t
abbrev zw_Mt : Type := MethodName × ByteArray × Nat × Option FieldType × Nat × Nat
def zw_ws0 (mt : zw_Mt) : List Cond := .code mt.1 mt.2.1 mt.2.2.1 mt.2.2.2.1 :: zw_tb
/-- a method's words are in the tables -/
def zw_Mw (mt : zw_Mt) (n : Nat) : Prop := Cond.code mt.1 mt.2.1 mt.2.2.1 mt.2.2.2.1 ∈ zw_tb ∧ Cond.initialized mt.1.cls ∈ zw_tb ∧ (mt.1.cls ≠ "java/lang/invoke/MethodHandle" ∧ mt.1.cls ≠ "java/lang/invoke/VarHandle" ∧ (parseMethodDescriptor mt.1.desc).map (fun d => d.parameters.length) = some n)
def zw_Mv (mt : zw_Mt) (n : Nat) : Prop := zw_Mw mt n ∧ Cond.instanceMethod mt.1 ∈ zw_tb ∧ Cond.selects mt.1.cls mt.1 mt.1 ∈ zw_tb
def zw_Ms (mt : zw_Mt) (n : Nat) : Prop := zw_Mw mt n ∧ Cond.static mt.1 ∈ zw_tb
theorem zw_ws0_in {mt : zw_Mt} {n : Nat} (h : zw_Mw mt n) : ∀ w ∈ zw_ws0 mt, w ∈ zw_tb := fun w hw => (List.mem_cons.mp hw).elim (fun e => e ▸ h.1) id
def zw_rm (mt : zw_Mt) : Room := { frames := mt.2.2.2.2.1, cells := 0, slots := 0, locals := mt.2.2.2.2.2 }
def zw_Pc (E : zw_En) (As : List Value) (h : zw_Hp) : Array Value → State → Prop := fun a U => a = As.toArray ∧ va_P E.1 vwCl (zw_ws E h) U.heap ∧ zw_K E U
def zw_Qc (E : zw_En) (r : Option Value) (h' : zw_Hp) : Array Value → State → Outcome → State → Prop := fun _ st oc t => oc = .returned r ∧ va_P E.1 vwCl (zw_ws E h') t.heap ∧ va_F (zw_A E) st t
/-- A METHOD'S CONTRACT: from the picture h with the arguments As it answers r, and the picture is h' -/
def zw_Ct (l : Launch) (E : zw_En) (mt : zw_Mt) (As : List Value) (h : zw_Hp) (r : Option Value) (h' : zw_Hp) : Prop :=
  Met l mt.1 (zw_ws0 mt) (zw_rm mt) (zw_Pc E As h) (zw_Qc E r h') 0 0 (zw_A E)
def zw_G (p : Program) (E : zw_En) (A : Nat → Prop) (s : State) (m : MethodId) (args : Array Value) (c : Code) (own : String) (cc : ByteArray) (nL : Nat) : Prop :=
  p.tables.exec = Jvm.exec ∧ c.code = cc ∧ c.maxLocals = nL ∧ s.vm.findClass own = some m.cls ∧ (∀ w ∈ zw_tb, w.before args s = true) ∧ zw_K E s ∧ (∀ h, va_D A (zw_ws E h)) ∧ ∀ q, zw_A E q → A q
/-- THE WALK over pictures -/
def zw_W (p : Program) (l : Launch) (e : Env) (R : Room) (s : State) (m : MethodId) (args : Array Value) (below : List Frame) (meth : Method) (c : Code) (cells slots : Nat) (Q : State → Prop) (E : zw_En) (A : Nat → Prop) (nL : Nat) (pc : Nat) (lv : List (Nat × Value)) (st : List Value) (h : zw_Hp) : Prop :=
  ∀ (H : Heap) (locs : List Loc) (ls : Array Slot), lv_has ls nL lv → va_P E.1 vwCl (zw_ws E h) H → va_S A s.heap H locs → W p l e R s m args below meth c H locs cells slots Q (F0 m pc ls st)
section ZW
variable {p : Program} {l : Launch} {e : Env} {R : Room} {s : State} {m : MethodId} {args : Array Value} {below : List Frame} {meth : Method} {c : Code} {cells slots : Nat} {Q : State → Prop} {E : zw_En} {A : Nat → Prop} {own : String} {cc : ByteArray} {nL pc q : Nat} {lv lv' : List (Nat × Value)} {rest : List Value} {h : zw_Hp}
theorem zr_lv (ks : List Nat) (hl : lv_pick lv ks = lv') (k : zw_W p l e R s m args below meth c cells slots Q E A nL pc lv' rest h) : zw_W p l e R s m args below meth c cells slots Q E A nL pc lv rest h :=
  fun H locs ls hs hP hS => k H locs ls (lv_sub hs ks hl) hP hS
theorem zr_nmi {x y : Int32} (e1 : y = x) (k : zw_W p l e R s m args below meth c cells slots Q E A nL pc lv (.int y :: rest) h) : zw_W p l e R s m args below meth c cells slots Q E A nL pc lv (.int x :: rest) h := e1 ▸ k
theorem zr_nml {x y : Int64} (e1 : y = x) (k : zw_W p l e R s m args below meth c cells slots Q E A nL pc lv (.long y :: rest) h) : zw_W p l e R s m args below meth c cells slots Q E A nL pc lv (.long x :: rest) h := e1 ▸ k
theorem zr_iconst (g : zw_G p E A s m args c own cc nL) {n : Int} {v : Int32} (hd : decode cc pc = .ok (.iconst n, 1)) (hp : pc + 1 = q) (hv : Int32.ofInt n = v) (k : zw_W p l e R s m args below meth c cells slots Q E A nL q lv (.int v :: rest) h) : zw_W p l e R s m args below meth c cells slots Q E A nL pc lv rest h := by
  subst hp
  exact fun H locs ls hs hP hS => lv_iconst g.1 g.2.1 hd hv (k H locs ls hs hP hS)
theorem zr_bipush (g : zw_G p E A s m args c own cc nL) {n : Int} {v : Int32} (hd : decode cc pc = .ok (.bipush n, 2)) (hp : pc + 2 = q) (hv : (Int8.ofInt n).toInt32 = v) (k : zw_W p l e R s m args below meth c cells slots Q E A nL q lv (.int v :: rest) h) : zw_W p l e R s m args below meth c cells slots Q E A nL pc lv rest h := by
  subst hp
  exact fun H locs ls hs hP hS => lv_bipush g.1 g.2.1 hd hv (k H locs ls hs hP hS)
theorem zr_sipush (g : zw_G p E A s m args c own cc nL) {n : Int} {v : Int32} (hd : decode cc pc = .ok (.sipush n, 3)) (hp : pc + 3 = q) (hv : (Int16.ofInt n).toInt32 = v) (k : zw_W p l e R s m args below meth c cells slots Q E A nL q lv (.int v :: rest) h) : zw_W p l e R s m args below meth c cells slots Q E A nL pc lv rest h := by
  subst hp
  exact fun H locs ls hs hP hS => lv_sipush g.1 g.2.1 hd hv (k H locs ls hs hP hS)
theorem zr_lconst (g : zw_G p E A s m args c own cc nL) {n : Fin 2} {v : Int64} (hd : decode cc pc = .ok (.lconst n, 1)) (hp : pc + 1 = q) (hv : Int64.ofNat (n : Nat) = v) (k : zw_W p l e R s m args below meth c cells slots Q E A nL q lv (.long v :: rest) h) : zw_W p l e R s m args below meth c cells slots Q E A nL pc lv rest h := by
  subst hp
  exact fun H locs ls hs hP hS => lv_lconst g.1 g.2.1 hd hv (k H locs ls hs hP hS)
theorem zr_ldcw (g : zw_G p E A s m args c own cc nL) {idx : Nat} {v : Int32} (hd : decode cc pc = .ok (.ldc_w idx, 3)) (hp : pc + 3 = q) (hc : Cond.constant own idx v ∈ zw_tb) (k : zw_W p l e R s m args below meth c cells slots Q E A nL q lv (.int v :: rest) h) : zw_W p l e R s m args below meth c cells slots Q E A nL pc lv rest h := by
  subst hp
  exact fun H locs ls hs hP hS => lv_ldcw g.1 g.2.1 g.2.2.2.1 (g.2.2.2.2.1 _ hc) hd (k H locs ls hs hP hS)
theorem zr_ldc2 (g : zw_G p E A s m args c own cc nL) {idx : Nat} {v : Int64} (hd : decode cc pc = .ok (.ldc2_w idx, 3)) (hp : pc + 3 = q) (hc : Cond.constantLong own idx v ∈ zw_tb) (k : zw_W p l e R s m args below meth c cells slots Q E A nL q lv (.long v :: rest) h) : zw_W p l e R s m args below meth c cells slots Q E A nL pc lv rest h := by
  subst hp
  exact fun H locs ls hs hP hS => lv_ldc2 g.1 g.2.1 g.2.2.2.1 (g.2.2.2.2.1 _ hc) hd (k H locs ls hs hP hS)
theorem zr_iload_n (g : zw_G p E A s m args c own cc nL) {kf : Fin 4} {i : Nat} {x : Int32} (pos : Nat) (hd : decode cc pc = .ok (.iload_n kf, 1)) (hp : pc + 1 = q) (hi : (kf : Nat) = i) (hk : lv[pos]? = some (i, .int x)) (k : zw_W p l e R s m args below meth c cells slots Q E A nL q lv (.int x :: rest) h) : zw_W p l e R s m args below meth c cells slots Q E A nL pc lv rest h := by
  subst hp
  exact fun H locs ls hs hP hS => lv_iload_n g.1 g.2.1 hd hi (lv_at hs pos hk) (k H locs ls hs hP hS)
theorem zr_iload (g : zw_G p E A s m args c own cc nL) {i : Nat} {x : Int32} (pos : Nat) (hd : decode cc pc = .ok (.iload i, 2)) (hp : pc + 2 = q) (hk : lv[pos]? = some (i, .int x)) (k : zw_W p l e R s m args below meth c cells slots Q E A nL q lv (.int x :: rest) h) : zw_W p l e R s m args below meth c cells slots Q E A nL pc lv rest h := by
  subst hp
  exact fun H locs ls hs hP hS => lv_iload g.1 g.2.1 hd (lv_at hs pos hk) (k H locs ls hs hP hS)
theorem zr_lload_n (g : zw_G p E A s m args c own cc nL) {kf : Fin 4} {i : Nat} {x : Int64} (pos : Nat) (hd : decode cc pc = .ok (.lload_n kf, 1)) (hp : pc + 1 = q) (hi : (kf : Nat) = i) (hk : lv[pos]? = some (i, .long x)) (k : zw_W p l e R s m args below meth c cells slots Q E A nL q lv (.long x :: rest) h) : zw_W p l e R s m args below meth c cells slots Q E A nL pc lv rest h := by
  subst hp
  exact fun H locs ls hs hP hS => lv_lload_n g.1 g.2.1 hd hi (lv_at hs pos hk) (k H locs ls hs hP hS)
theorem zr_lload (g : zw_G p E A s m args c own cc nL) {i : Nat} {x : Int64} (pos : Nat) (hd : decode cc pc = .ok (.lload i, 2)) (hp : pc + 2 = q) (hk : lv[pos]? = some (i, .long x)) (k : zw_W p l e R s m args below meth c cells slots Q E A nL q lv (.long x :: rest) h) : zw_W p l e R s m args below meth c cells slots Q E A nL pc lv rest h := by
  subst hp
  exact fun H locs ls hs hP hS => lv_lload g.1 g.2.1 hd (lv_at hs pos hk) (k H locs ls hs hP hS)
theorem zr_aload_n (g : zw_G p E A s m args c own cc nL) {kf : Fin 4} {i : Nat} {x : Nat} (pos : Nat) (hd : decode cc pc = .ok (.aload_n kf, 1)) (hp : pc + 1 = q) (hi : (kf : Nat) = i) (hk : lv[pos]? = some (i, .ref x)) (k : zw_W p l e R s m args below meth c cells slots Q E A nL q lv (.ref x :: rest) h) : zw_W p l e R s m args below meth c cells slots Q E A nL pc lv rest h := by
  subst hp
  exact fun H locs ls hs hP hS => lv_aload_n g.1 g.2.1 hd hi (lv_at hs pos hk) (k H locs ls hs hP hS)
theorem zr_aload (g : zw_G p E A s m args c own cc nL) {i : Nat} {x : Nat} (pos : Nat) (hd : decode cc pc = .ok (.aload i, 2)) (hp : pc + 2 = q) (hk : lv[pos]? = some (i, .ref x)) (k : zw_W p l e R s m args below meth c cells slots Q E A nL q lv (.ref x :: rest) h) : zw_W p l e R s m args below meth c cells slots Q E A nL pc lv rest h := by
  subst hp
  exact fun H locs ls hs hP hS => lv_aload g.1 g.2.1 hd (lv_at hs pos hk) (k H locs ls hs hP hS)
theorem zr_istore_n (g : zw_G p E A s m args c own cc nL) {kf : Fin 4} {i : Nat} {x : Int32} (hd : decode cc pc = .ok (.istore_n kf, 1)) (hp : pc + 1 = q) (hi : (kf : Nat) = i) (hn : i < nL) (hl : (i, Value.int x) :: lv.filter (fun q => !(q.1 == i) && !(q.1 + 1 == i && q.2.category == 2)) = lv') (k : zw_W p l e R s m args below meth c cells slots Q E A nL q lv' rest h) : zw_W p l e R s m args below meth c cells slots Q E A nL pc lv (.int x :: rest) h := by
  subst hp
  exact fun H locs ls hs hP hS => lv_istore_n g.1 g.2.1 hd hi hs hn hl (fun ls' hs' => k H locs ls' hs' hP hS)
theorem zr_istore (g : zw_G p E A s m args c own cc nL) {i : Nat} {x : Int32} (hd : decode cc pc = .ok (.istore i, 2)) (hp : pc + 2 = q) (hn : i < nL) (hl : (i, Value.int x) :: lv.filter (fun q => !(q.1 == i) && !(q.1 + 1 == i && q.2.category == 2)) = lv') (k : zw_W p l e R s m args below meth c cells slots Q E A nL q lv' rest h) : zw_W p l e R s m args below meth c cells slots Q E A nL pc lv (.int x :: rest) h := by
  subst hp
  exact fun H locs ls hs hP hS => lv_istore g.1 g.2.1 hd hs hn hl (fun ls' hs' => k H locs ls' hs' hP hS)
theorem zr_lstore_n (g : zw_G p E A s m args c own cc nL) {kf : Fin 4} {i : Nat} {x : Int64} (hd : decode cc pc = .ok (.lstore_n kf, 1)) (hp : pc + 1 = q) (hi : (kf : Nat) = i) (hn : i + 1 < nL) (hl : (i, Value.long x) :: lv.filter (fun q => !(q.1 == i) && (!(q.1 == i + 1) && !(q.1 + 1 == i && q.2.category == 2))) = lv') (k : zw_W p l e R s m args below meth c cells slots Q E A nL q lv' rest h) : zw_W p l e R s m args below meth c cells slots Q E A nL pc lv (.long x :: rest) h := by
  subst hp
  exact fun H locs ls hs hP hS => lv_lstore_n g.1 g.2.1 hd hi hs hn hl (fun ls' hs' => k H locs ls' hs' hP hS)
theorem zr_lstore (g : zw_G p E A s m args c own cc nL) {i : Nat} {x : Int64} (hd : decode cc pc = .ok (.lstore i, 2)) (hp : pc + 2 = q) (hn : i + 1 < nL) (hl : (i, Value.long x) :: lv.filter (fun q => !(q.1 == i) && (!(q.1 == i + 1) && !(q.1 + 1 == i && q.2.category == 2))) = lv') (k : zw_W p l e R s m args below meth c cells slots Q E A nL q lv' rest h) : zw_W p l e R s m args below meth c cells slots Q E A nL pc lv (.long x :: rest) h := by
  subst hp
  exact fun H locs ls hs hP hS => lv_lstore g.1 g.2.1 hd hs hn hl (fun ls' hs' => k H locs ls' hs' hP hS)
theorem zr_iinc (g : zw_G p E A s m args c own cc nL) {i : Nat} {n : Int} {x v : Int32} (pos : Nat) (hd : decode cc pc = .ok (.iinc i n, 3)) (hp : pc + 3 = q) (hk : lv[pos]? = some (i, .int x)) (hv : x + Int32.ofInt n = v) (hn : i < nL) (hl : (i, Value.int v) :: lv.filter (fun q => !(q.1 == i) && !(q.1 + 1 == i && q.2.category == 2)) = lv') (k : zw_W p l e R s m args below meth c cells slots Q E A nL q lv' rest h) : zw_W p l e R s m args below meth c cells slots Q E A nL pc lv rest h := by
  subst hp
  exact fun H locs ls hs hP hS => lv_iinc g.1 g.2.1 hd hs hk hv hn hl (fun ls' hs' => k H locs ls' hs' hP hS)
theorem zr_iadd (g : zw_G p E A s m args c own cc nL) {x y : Int32} (hd : decode cc pc = .ok (.iadd, 1)) (hp : pc + 1 = q) (k : zw_W p l e R s m args below meth c cells slots Q E A nL q lv (.int (x + y) :: rest) h) : zw_W p l e R s m args below meth c cells slots Q E A nL pc lv (.int y :: .int x :: rest) h := by
  subst hp
  exact fun H locs ls hs hP hS => lv_iadd g.1 g.2.1 hd (k H locs ls hs hP hS)
theorem zr_isub (g : zw_G p E A s m args c own cc nL) {x y : Int32} (hd : decode cc pc = .ok (.isub, 1)) (hp : pc + 1 = q) (k : zw_W p l e R s m args below meth c cells slots Q E A nL q lv (.int (x - y) :: rest) h) : zw_W p l e R s m args below meth c cells slots Q E A nL pc lv (.int y :: .int x :: rest) h := by
  subst hp
  exact fun H locs ls hs hP hS => lv_isub g.1 g.2.1 hd (k H locs ls hs hP hS)
theorem zr_imul (g : zw_G p E A s m args c own cc nL) {x y : Int32} (hd : decode cc pc = .ok (.imul, 1)) (hp : pc + 1 = q) (k : zw_W p l e R s m args below meth c cells slots Q E A nL q lv (.int (x * y) :: rest) h) : zw_W p l e R s m args below meth c cells slots Q E A nL pc lv (.int y :: .int x :: rest) h := by
  subst hp
  exact fun H locs ls hs hP hS => lv_imul g.1 g.2.1 hd (k H locs ls hs hP hS)
theorem zr_iand (g : zw_G p E A s m args c own cc nL) {x y : Int32} (hd : decode cc pc = .ok (.iand, 1)) (hp : pc + 1 = q) (k : zw_W p l e R s m args below meth c cells slots Q E A nL q lv (.int (x &&& y) :: rest) h) : zw_W p l e R s m args below meth c cells slots Q E A nL pc lv (.int y :: .int x :: rest) h := by
  subst hp
  exact fun H locs ls hs hP hS => lv_iand g.1 g.2.1 hd (k H locs ls hs hP hS)
theorem zr_ior (g : zw_G p E A s m args c own cc nL) {x y : Int32} (hd : decode cc pc = .ok (.ior, 1)) (hp : pc + 1 = q) (k : zw_W p l e R s m args below meth c cells slots Q E A nL q lv (.int (x ||| y) :: rest) h) : zw_W p l e R s m args below meth c cells slots Q E A nL pc lv (.int y :: .int x :: rest) h := by
  subst hp
  exact fun H locs ls hs hP hS => lv_ior g.1 g.2.1 hd (k H locs ls hs hP hS)
theorem zr_ixor (g : zw_G p E A s m args c own cc nL) {x y : Int32} (hd : decode cc pc = .ok (.ixor, 1)) (hp : pc + 1 = q) (k : zw_W p l e R s m args below meth c cells slots Q E A nL q lv (.int (x ^^^ y) :: rest) h) : zw_W p l e R s m args below meth c cells slots Q E A nL pc lv (.int y :: .int x :: rest) h := by
  subst hp
  exact fun H locs ls hs hP hS => lv_ixor g.1 g.2.1 hd (k H locs ls hs hP hS)
theorem zr_ishl (g : zw_G p E A s m args c own cc nL) {x y : Int32} (hd : decode cc pc = .ok (.ishl, 1)) (hp : pc + 1 = q) (k : zw_W p l e R s m args below meth c cells slots Q E A nL q lv (.int (x <<< (y &&& 31)) :: rest) h) : zw_W p l e R s m args below meth c cells slots Q E A nL pc lv (.int y :: .int x :: rest) h := by
  subst hp
  exact fun H locs ls hs hP hS => lv_ishl g.1 g.2.1 hd (k H locs ls hs hP hS)
theorem zr_ishr (g : zw_G p E A s m args c own cc nL) {x y : Int32} (hd : decode cc pc = .ok (.ishr, 1)) (hp : pc + 1 = q) (k : zw_W p l e R s m args below meth c cells slots Q E A nL q lv (.int (x >>> (y &&& 31)) :: rest) h) : zw_W p l e R s m args below meth c cells slots Q E A nL pc lv (.int y :: .int x :: rest) h := by
  subst hp
  exact fun H locs ls hs hP hS => lv_ishr g.1 g.2.1 hd (k H locs ls hs hP hS)
theorem zr_iushr (g : zw_G p E A s m args c own cc nL) {x y : Int32} (hd : decode cc pc = .ok (.iushr, 1)) (hp : pc + 1 = q) (k : zw_W p l e R s m args below meth c cells slots Q E A nL q lv (.int ((x.toUInt32 >>> (y.toUInt32 &&& Int32.toUInt32 31)).toInt32) :: rest) h) : zw_W p l e R s m args below meth c cells slots Q E A nL pc lv (.int y :: .int x :: rest) h := by
  subst hp
  exact fun H locs ls hs hP hS => lv_iushr g.1 g.2.1 hd rfl (k H locs ls hs hP hS)
theorem zr_ineg (g : zw_G p E A s m args c own cc nL) {x : Int32} (hd : decode cc pc = .ok (.ineg, 1)) (hp : pc + 1 = q) (k : zw_W p l e R s m args below meth c cells slots Q E A nL q lv (.int (-x) :: rest) h) : zw_W p l e R s m args below meth c cells slots Q E A nL pc lv (.int x :: rest) h := by
  subst hp
  exact fun H locs ls hs hP hS => lv_ineg g.1 g.2.1 hd (k H locs ls hs hP hS)
theorem zr_idiv (g : zw_G p E A s m args c own cc nL) {x y : Int32} (hd : decode cc pc = .ok (.idiv, 1)) (hp : pc + 1 = q) (hne : ¬ y = 0) (k : zw_W p l e R s m args below meth c cells slots Q E A nL q lv (.int (x / y) :: rest) h) : zw_W p l e R s m args below meth c cells slots Q E A nL pc lv (.int y :: .int x :: rest) h := by
  subst hp
  exact fun H locs ls hs hP hS => lv_idiv g.1 g.2.1 hd hne (k H locs ls hs hP hS)
theorem zr_irem (g : zw_G p E A s m args c own cc nL) {x y : Int32} (hd : decode cc pc = .ok (.irem, 1)) (hp : pc + 1 = q) (hne : ¬ y = 0) (k : zw_W p l e R s m args below meth c cells slots Q E A nL q lv (.int (x - x / y * y) :: rest) h) : zw_W p l e R s m args below meth c cells slots Q E A nL pc lv (.int y :: .int x :: rest) h := by
  subst hp
  exact fun H locs ls hs hP hS => lv_irem g.1 g.2.1 hd hne (k H locs ls hs hP hS)
theorem zr_ladd (g : zw_G p E A s m args c own cc nL) {x y : Int64} (hd : decode cc pc = .ok (.ladd, 1)) (hp : pc + 1 = q) (k : zw_W p l e R s m args below meth c cells slots Q E A nL q lv (.long (x + y) :: rest) h) : zw_W p l e R s m args below meth c cells slots Q E A nL pc lv (.long y :: .long x :: rest) h := by
  subst hp
  exact fun H locs ls hs hP hS => lv_ladd g.1 g.2.1 hd (k H locs ls hs hP hS)
theorem zr_lsub (g : zw_G p E A s m args c own cc nL) {x y : Int64} (hd : decode cc pc = .ok (.lsub, 1)) (hp : pc + 1 = q) (k : zw_W p l e R s m args below meth c cells slots Q E A nL q lv (.long (x - y) :: rest) h) : zw_W p l e R s m args below meth c cells slots Q E A nL pc lv (.long y :: .long x :: rest) h := by
  subst hp
  exact fun H locs ls hs hP hS => lv_lsub g.1 g.2.1 hd (k H locs ls hs hP hS)
theorem zr_lmul (g : zw_G p E A s m args c own cc nL) {x y : Int64} (hd : decode cc pc = .ok (.lmul, 1)) (hp : pc + 1 = q) (k : zw_W p l e R s m args below meth c cells slots Q E A nL q lv (.long (x * y) :: rest) h) : zw_W p l e R s m args below meth c cells slots Q E A nL pc lv (.long y :: .long x :: rest) h := by
  subst hp
  exact fun H locs ls hs hP hS => lv_lmul g.1 g.2.1 hd (k H locs ls hs hP hS)
theorem zr_land (g : zw_G p E A s m args c own cc nL) {x y : Int64} (hd : decode cc pc = .ok (.land, 1)) (hp : pc + 1 = q) (k : zw_W p l e R s m args below meth c cells slots Q E A nL q lv (.long (x &&& y) :: rest) h) : zw_W p l e R s m args below meth c cells slots Q E A nL pc lv (.long y :: .long x :: rest) h := by
  subst hp
  exact fun H locs ls hs hP hS => lv_land g.1 g.2.1 hd (k H locs ls hs hP hS)
theorem zr_lor (g : zw_G p E A s m args c own cc nL) {x y : Int64} (hd : decode cc pc = .ok (.lor, 1)) (hp : pc + 1 = q) (k : zw_W p l e R s m args below meth c cells slots Q E A nL q lv (.long (x ||| y) :: rest) h) : zw_W p l e R s m args below meth c cells slots Q E A nL pc lv (.long y :: .long x :: rest) h := by
  subst hp
  exact fun H locs ls hs hP hS => lv_lor g.1 g.2.1 hd (k H locs ls hs hP hS)
theorem zr_ldiv (g : zw_G p E A s m args c own cc nL) {x y : Int64} (hd : decode cc pc = .ok (.ldiv, 1)) (hp : pc + 1 = q) (hne : ¬ y = 0) (k : zw_W p l e R s m args below meth c cells slots Q E A nL q lv (.long (x / y) :: rest) h) : zw_W p l e R s m args below meth c cells slots Q E A nL pc lv (.long y :: .long x :: rest) h := by
  subst hp
  exact fun H locs ls hs hP hS => lv_ldiv g.1 g.2.1 hd hne (k H locs ls hs hP hS)
theorem zr_lrem (g : zw_G p E A s m args c own cc nL) {x y : Int64} (hd : decode cc pc = .ok (.lrem, 1)) (hp : pc + 1 = q) (hne : ¬ y = 0) (k : zw_W p l e R s m args below meth c cells slots Q E A nL q lv (.long (x - x / y * y) :: rest) h) : zw_W p l e R s m args below meth c cells slots Q E A nL pc lv (.long y :: .long x :: rest) h := by
  subst hp
  exact fun H locs ls hs hP hS => lv_lrem g.1 g.2.1 hd hne (k H locs ls hs hP hS)
theorem zr_lshl (g : zw_G p E A s m args c own cc nL) {x : Int64} {y : Int32} (hd : decode cc pc = .ok (.lshl, 1)) (hp : pc + 1 = q) (k : zw_W p l e R s m args below meth c cells slots Q E A nL q lv (.long (x <<< (y.toInt64 &&& 63)) :: rest) h) : zw_W p l e R s m args below meth c cells slots Q E A nL pc lv (.int y :: .long x :: rest) h := by
  subst hp
  exact fun H locs ls hs hP hS => lv_lshl g.1 g.2.1 hd rfl (k H locs ls hs hP hS)
theorem zr_lushr (g : zw_G p E A s m args c own cc nL) {x : Int64} {y : Int32} (hd : decode cc pc = .ok (.lushr, 1)) (hp : pc + 1 = q) (k : zw_W p l e R s m args below meth c cells slots Q E A nL q lv (.long ((x.toUInt64 >>> (y.toInt64.toUInt64 &&& Int64.toUInt64 63)).toInt64) :: rest) h) : zw_W p l e R s m args below meth c cells slots Q E A nL pc lv (.int y :: .long x :: rest) h := by
  subst hp
  exact fun H locs ls hs hP hS => lv_lushr g.1 g.2.1 hd rfl (k H locs ls hs hP hS)
theorem zr_i2l (g : zw_G p E A s m args c own cc nL) {x : Int32} (hd : decode cc pc = .ok (.i2l, 1)) (hp : pc + 1 = q) (k : zw_W p l e R s m args below meth c cells slots Q E A nL q lv (.long x.toInt64 :: rest) h) : zw_W p l e R s m args below meth c cells slots Q E A nL pc lv (.int x :: rest) h := by
  subst hp
  exact fun H locs ls hs hP hS => lv_i2l g.1 g.2.1 hd rfl (k H locs ls hs hP hS)
theorem zr_l2i (g : zw_G p E A s m args c own cc nL) {x : Int64} (hd : decode cc pc = .ok (.l2i, 1)) (hp : pc + 1 = q) (k : zw_W p l e R s m args below meth c cells slots Q E A nL q lv (.int x.toInt32 :: rest) h) : zw_W p l e R s m args below meth c cells slots Q E A nL pc lv (.long x :: rest) h := by
  subst hp
  exact fun H locs ls hs hP hS => lv_l2i g.1 g.2.1 hd rfl (k H locs ls hs hP hS)
theorem zr_lcmp (g : zw_G p E A s m args c own cc nL) {x y : Int64} (hd : decode cc pc = .ok (.lcmp, 1)) (hp : pc + 1 = q) (k : zw_W p l e R s m args below meth c cells slots Q E A nL q lv (.int (lg_cmp x y) :: rest) h) : zw_W p l e R s m args below meth c cells slots Q E A nL pc lv (.long y :: .long x :: rest) h := by
  subst hp
  exact fun H locs ls hs hP hS => W.lcmp g.1 g.2.1 hd (k H locs ls hs hP hS)
theorem zr_dup (g : zw_G p E A s m args c own cc nL) {va : Value} (hd : decode cc pc = .ok (.dup, 1)) (hp : pc + 1 = q) (hva : va.category = 1) (k : zw_W p l e R s m args below meth c cells slots Q E A nL q lv (va :: va :: rest) h) : zw_W p l e R s m args below meth c cells slots Q E A nL pc lv (va :: rest) h := by
  subst hp
  exact fun H locs ls hs hP hS => lv_dup g.1 g.2.1 hd hva (k H locs ls hs hP hS)
theorem zr_pop (g : zw_G p E A s m args c own cc nL) {va : Value} (hd : decode cc pc = .ok (.pop, 1)) (hp : pc + 1 = q) (hva : va.category = 1) (k : zw_W p l e R s m args below meth c cells slots Q E A nL q lv rest h) : zw_W p l e R s m args below meth c cells slots Q E A nL pc lv (va :: rest) h := by
  subst hp
  exact fun H locs ls hs hP hS => lv_pop g.1 g.2.1 hd hva (k H locs ls hs hP hS)
theorem zr_dup2 (g : zw_G p E A s m args c own cc nL) {va vb : Value} (hd : decode cc pc = .ok (.dup2, 1)) (hp : pc + 1 = q) (hva : va.category = 1) (hvb : vb.category = 1) (k : zw_W p l e R s m args below meth c cells slots Q E A nL q lv (va :: vb :: va :: vb :: rest) h) : zw_W p l e R s m args below meth c cells slots Q E A nL pc lv (va :: vb :: rest) h := by
  subst hp
  exact fun H locs ls hs hP hS => lv_dup2_11 g.1 g.2.1 hd hva hvb (k H locs ls hs hP hS)
theorem zr_if_eq (g : zw_G p E A s m args c own cc nL) {x : Int32} {off : Int} {tgt : Nat} (hd : decode cc pc = .ok (.ifCond .eq off, 3)) (ht : (pc : Int) + off = (tgt : Int)) (hp : pc + 3 = q) (kt : x = 0 → zw_W p l e R s m args below meth c cells slots Q E A nL tgt lv rest h) (kf : ¬ x = 0 → zw_W p l e R s m args below meth c cells slots Q E A nL q lv rest h) : zw_W p l e R s m args below meth c cells slots Q E A nL pc lv (.int x :: rest) h := by
  subst hp
  exact fun H locs ls hs hP hS => lv_if_eq g.1 g.2.1 hd ht (fun z => kt z H locs ls hs hP hS) (fun z => kf z H locs ls hs hP hS)
theorem zr_if_ne (g : zw_G p E A s m args c own cc nL) {x : Int32} {off : Int} {tgt : Nat} (hd : decode cc pc = .ok (.ifCond .ne off, 3)) (ht : (pc : Int) + off = (tgt : Int)) (hp : pc + 3 = q) (kt : ¬ x = 0 → zw_W p l e R s m args below meth c cells slots Q E A nL tgt lv rest h) (kf : x = 0 → zw_W p l e R s m args below meth c cells slots Q E A nL q lv rest h) : zw_W p l e R s m args below meth c cells slots Q E A nL pc lv (.int x :: rest) h := by
  subst hp
  exact fun H locs ls hs hP hS => lv_if_ne g.1 g.2.1 hd ht (fun z => kt z H locs ls hs hP hS) (fun z => kf z H locs ls hs hP hS)
theorem zr_if_lt (g : zw_G p E A s m args c own cc nL) {x : Int32} {off : Int} {tgt : Nat} (hd : decode cc pc = .ok (.ifCond .lt off, 3)) (ht : (pc : Int) + off = (tgt : Int)) (hp : pc + 3 = q) (kt : x < 0 → zw_W p l e R s m args below meth c cells slots Q E A nL tgt lv rest h) (kf : ¬ x < 0 → zw_W p l e R s m args below meth c cells slots Q E A nL q lv rest h) : zw_W p l e R s m args below meth c cells slots Q E A nL pc lv (.int x :: rest) h := by
  subst hp
  exact fun H locs ls hs hP hS => lv_if_lt g.1 g.2.1 hd ht (fun z => kt z H locs ls hs hP hS) (fun z => kf z H locs ls hs hP hS)
theorem zr_if_ge (g : zw_G p E A s m args c own cc nL) {x : Int32} {off : Int} {tgt : Nat} (hd : decode cc pc = .ok (.ifCond .ge off, 3)) (ht : (pc : Int) + off = (tgt : Int)) (hp : pc + 3 = q) (kt : 0 ≤ x → zw_W p l e R s m args below meth c cells slots Q E A nL tgt lv rest h) (kf : ¬ 0 ≤ x → zw_W p l e R s m args below meth c cells slots Q E A nL q lv rest h) : zw_W p l e R s m args below meth c cells slots Q E A nL pc lv (.int x :: rest) h := by
  subst hp
  exact fun H locs ls hs hP hS => lv_if_ge g.1 g.2.1 hd ht (fun z => kt z H locs ls hs hP hS) (fun z => kf z H locs ls hs hP hS)
theorem zr_if_gt (g : zw_G p E A s m args c own cc nL) {x : Int32} {off : Int} {tgt : Nat} (hd : decode cc pc = .ok (.ifCond .gt off, 3)) (ht : (pc : Int) + off = (tgt : Int)) (hp : pc + 3 = q) (kt : 0 < x → zw_W p l e R s m args below meth c cells slots Q E A nL tgt lv rest h) (kf : ¬ 0 < x → zw_W p l e R s m args below meth c cells slots Q E A nL q lv rest h) : zw_W p l e R s m args below meth c cells slots Q E A nL pc lv (.int x :: rest) h := by
  subst hp
  exact fun H locs ls hs hP hS => lv_if_gt g.1 g.2.1 hd ht (fun z => kt z H locs ls hs hP hS) (fun z => kf z H locs ls hs hP hS)
theorem zr_if_le (g : zw_G p E A s m args c own cc nL) {x : Int32} {off : Int} {tgt : Nat} (hd : decode cc pc = .ok (.ifCond .le off, 3)) (ht : (pc : Int) + off = (tgt : Int)) (hp : pc + 3 = q) (kt : x ≤ 0 → zw_W p l e R s m args below meth c cells slots Q E A nL tgt lv rest h) (kf : ¬ x ≤ 0 → zw_W p l e R s m args below meth c cells slots Q E A nL q lv rest h) : zw_W p l e R s m args below meth c cells slots Q E A nL pc lv (.int x :: rest) h := by
  subst hp
  exact fun H locs ls hs hP hS => lv_if_le g.1 g.2.1 hd ht (fun z => kt z H locs ls hs hP hS) (fun z => kf z H locs ls hs hP hS)
theorem zr_icmp_eq (g : zw_G p E A s m args c own cc nL) {x y : Int32} {off : Int} {tgt : Nat} (hd : decode cc pc = .ok (.if_icmp .eq off, 3)) (ht : (pc : Int) + off = (tgt : Int)) (hp : pc + 3 = q) (kt : x = y → zw_W p l e R s m args below meth c cells slots Q E A nL tgt lv rest h) (kf : ¬ x = y → zw_W p l e R s m args below meth c cells slots Q E A nL q lv rest h) : zw_W p l e R s m args below meth c cells slots Q E A nL pc lv (.int y :: .int x :: rest) h := by
  subst hp
  exact fun H locs ls hs hP hS => lv_icmp_eq g.1 g.2.1 hd ht (fun z => kt z H locs ls hs hP hS) (fun z => kf z H locs ls hs hP hS)
theorem zr_icmp_ne (g : zw_G p E A s m args c own cc nL) {x y : Int32} {off : Int} {tgt : Nat} (hd : decode cc pc = .ok (.if_icmp .ne off, 3)) (ht : (pc : Int) + off = (tgt : Int)) (hp : pc + 3 = q) (kt : ¬ x = y → zw_W p l e R s m args below meth c cells slots Q E A nL tgt lv rest h) (kf : x = y → zw_W p l e R s m args below meth c cells slots Q E A nL q lv rest h) : zw_W p l e R s m args below meth c cells slots Q E A nL pc lv (.int y :: .int x :: rest) h := by
  subst hp
  exact fun H locs ls hs hP hS => lv_icmp_ne g.1 g.2.1 hd ht (fun z => kt z H locs ls hs hP hS) (fun z => kf z H locs ls hs hP hS)
theorem zr_icmp_lt (g : zw_G p E A s m args c own cc nL) {x y : Int32} {off : Int} {tgt : Nat} (hd : decode cc pc = .ok (.if_icmp .lt off, 3)) (ht : (pc : Int) + off = (tgt : Int)) (hp : pc + 3 = q) (kt : x < y → zw_W p l e R s m args below meth c cells slots Q E A nL tgt lv rest h) (kf : ¬ x < y → zw_W p l e R s m args below meth c cells slots Q E A nL q lv rest h) : zw_W p l e R s m args below meth c cells slots Q E A nL pc lv (.int y :: .int x :: rest) h := by
  subst hp
  exact fun H locs ls hs hP hS => lv_icmp_lt g.1 g.2.1 hd ht (fun z => kt z H locs ls hs hP hS) (fun z => kf z H locs ls hs hP hS)
theorem zr_icmp_ge (g : zw_G p E A s m args c own cc nL) {x y : Int32} {off : Int} {tgt : Nat} (hd : decode cc pc = .ok (.if_icmp .ge off, 3)) (ht : (pc : Int) + off = (tgt : Int)) (hp : pc + 3 = q) (kt : y ≤ x → zw_W p l e R s m args below meth c cells slots Q E A nL tgt lv rest h) (kf : ¬ y ≤ x → zw_W p l e R s m args below meth c cells slots Q E A nL q lv rest h) : zw_W p l e R s m args below meth c cells slots Q E A nL pc lv (.int y :: .int x :: rest) h := by
  subst hp
  exact fun H locs ls hs hP hS => lv_icmp_ge g.1 g.2.1 hd ht (fun z => kt z H locs ls hs hP hS) (fun z => kf z H locs ls hs hP hS)
theorem zr_icmp_gt (g : zw_G p E A s m args c own cc nL) {x y : Int32} {off : Int} {tgt : Nat} (hd : decode cc pc = .ok (.if_icmp .gt off, 3)) (ht : (pc : Int) + off = (tgt : Int)) (hp : pc + 3 = q) (kt : y < x → zw_W p l e R s m args below meth c cells slots Q E A nL tgt lv rest h) (kf : ¬ y < x → zw_W p l e R s m args below meth c cells slots Q E A nL q lv rest h) : zw_W p l e R s m args below meth c cells slots Q E A nL pc lv (.int y :: .int x :: rest) h := by
  subst hp
  exact fun H locs ls hs hP hS => lv_icmp_gt g.1 g.2.1 hd ht (fun z => kt z H locs ls hs hP hS) (fun z => kf z H locs ls hs hP hS)
theorem zr_icmp_le (g : zw_G p E A s m args c own cc nL) {x y : Int32} {off : Int} {tgt : Nat} (hd : decode cc pc = .ok (.if_icmp .le off, 3)) (ht : (pc : Int) + off = (tgt : Int)) (hp : pc + 3 = q) (kt : x ≤ y → zw_W p l e R s m args below meth c cells slots Q E A nL tgt lv rest h) (kf : ¬ x ≤ y → zw_W p l e R s m args below meth c cells slots Q E A nL q lv rest h) : zw_W p l e R s m args below meth c cells slots Q E A nL pc lv (.int y :: .int x :: rest) h := by
  subst hp
  exact fun H locs ls hs hP hS => lv_icmp_le g.1 g.2.1 hd ht (fun z => kt z H locs ls hs hP hS) (fun z => kf z H locs ls hs hP hS)
theorem zr_goto (g : zw_G p E A s m args c own cc nL) {off : Int} {tgt : Nat} (hd : decode cc pc = .ok (.goto off, 3)) (ht : (pc : Int) + off = (tgt : Int)) (k : zw_W p l e R s m args below meth c cells slots Q E A nL tgt lv rest h) : zw_W p l e R s m args below meth c cells slots Q E A nL pc lv rest h :=
  fun H locs ls hs hP hS => lv_goto g.1 g.2.1 hd ht (k H locs ls hs hP hS)
theorem zr_tabIn (g : zw_G p E A s m args c own cc nL) {dflt lo hi : Int} {offs : Array Int} {len : Nat} {x y : Int32} {off : Int} {tgt : Nat} (hd : decode cc pc = .ok (.tableswitch dflt lo hi offs, len)) (hx : x = y) (hy : ¬ y.toInt < lo ∧ ¬ hi < y.toInt ∧ offs[(y.toInt - lo).toNat]? = some off) (ht : (pc : Int) + off = (tgt : Int)) (k : zw_W p l e R s m args below meth c cells slots Q E A nL tgt lv rest h) : zw_W p l e R s m args below meth c cells slots Q E A nL pc lv (.int x :: rest) h := by
  subst hx
  exact fun H locs ls hs hP hS => lv_tableIn g.1 g.2.1 hd hy.1 hy.2.1 hy.2.2 ht (k H locs ls hs hP hS)
theorem zr_tabOut (g : zw_G p E A s m args c own cc nL) {dflt lo hi : Int} {offs : Array Int} {len : Nat} {x : Int32} {tgt : Nat} (hd : decode cc pc = .ok (.tableswitch dflt lo hi offs, len)) (hx : x.toInt < lo ∨ hi < x.toInt) (ht : (pc : Int) + dflt = (tgt : Int)) (k : zw_W p l e R s m args below meth c cells slots Q E A nL tgt lv rest h) : zw_W p l e R s m args below meth c cells slots Q E A nL pc lv (.int x :: rest) h :=
  fun H locs ls hs hP hS => lv_tableOut g.1 g.2.1 hd hx ht (k H locs ls hs hP hS)
theorem zr_look (g : zw_G p E A s m args c own cc nL) {dflt : Int} {ps : Array (Int × Int)} {len : Nat} {x : Int32} {off : Int} {tgt : Nat} (hd : decode cc pc = .ok (.lookupswitch dflt ps, len)) (hps : (ps.toList.zip (ps.toList.drop 1)).all (fun (a, next) => a.1 < next.1) = true) (ho : Op.lookupswitch.offset ps.toList dflt x.toInt = off) (ht : (pc : Int) + off = (tgt : Int)) (k : zw_W p l e R s m args below meth c cells slots Q E A nL tgt lv rest h) : zw_W p l e R s m args below meth c cells slots Q E A nL pc lv (.int x :: rest) h :=
  fun H locs ls hs hP hS => lv_lookup g.1 g.2.1 hd hps ho ht (k H locs ls hs hP hS)
theorem zr_geti (g : zw_G p E A s m args c own cc nL) {idx i ci k0 : Nat} {fs : List (Option (Option Nat))} (hi : i ∈ E.2.2.1) (hsh : zw_sh i = .inl (ci, fs)) (hfk : fs[k0]? = some none) (hF : zw_Fl own idx ci k0) (hd : decode cc pc = .ok (.getfield idx, 3)) (hp : pc + 3 = q) (k : zw_W p l e R s m args below meth c cells slots Q E A nL q lv (.int (h.1 i k0) :: rest) h) : zw_W p l e R s m args below meth c cells slots Q E A nL pc lv (.ref (E.2.1 i) :: rest) h := by
  subst hp
  intro H locs ls hs hP hS
  obtain ⟨C, T, N, ty, ⟨hc, hw, hty, hnm⟩, hk, hl⟩ := hF
  obtain ⟨q0, hq0⟩ := List.getElem?_of_mem hi
  refine va_get (v := .int (h.1 i k0)) (fs := fs.mapIdx (fun k f => zw_fv E h i k f)) g.1 g.2.1 g.2.2.2.2.1 hw g.2.2.2.1 g.2.2.2.2.2.1.1 hP q0 (by rw [zw_ws_at hq0, zw_ent_ob hsh]) hc k0 hk (g.2.2.2.2.1 _ hl) (fun _ h9 => h9) (by rw [List.getElem?_mapIdx, hfk]; rfl) hd (k H locs ls hs hP hS)
theorem zr_getl (g : zw_G p E A s m args c own cc nL) {idx i ci k0 : Nat} {fs : List (Option (Option Nat))} (hi : i ∈ E.2.2.1) (hsh : zw_sh i = .inl (ci, fs)) (hfk : fs[k0]? = some (some none)) (hF : zw_Fl own idx ci k0) (hd : decode cc pc = .ok (.getfield idx, 3)) (hp : pc + 3 = q) (k : zw_W p l e R s m args below meth c cells slots Q E A nL q lv (.long (h.2 i) :: rest) h) : zw_W p l e R s m args below meth c cells slots Q E A nL pc lv (.ref (E.2.1 i) :: rest) h := by
  subst hp
  intro H locs ls hs hP hS
  obtain ⟨C, T, N, ty, ⟨hc, hw, hty, hnm⟩, hk, hl⟩ := hF
  obtain ⟨q0, hq0⟩ := List.getElem?_of_mem hi
  refine va_get (v := .long (h.2 i)) (fs := fs.mapIdx (fun k f => zw_fv E h i k f)) g.1 g.2.1 g.2.2.2.2.1 hw g.2.2.2.1 g.2.2.2.2.2.1.1 hP q0 (by rw [zw_ws_at hq0, zw_ent_ob hsh]) hc k0 hk (g.2.2.2.2.1 _ hl) (fun _ h9 => h9) (by rw [List.getElem?_mapIdx, hfk]; rfl) hd (k H locs ls hs hP hS)
theorem zr_getr (g : zw_G p E A s m args c own cc nL) {idx i ci k0 : Nat} {j : Nat} {fs : List (Option (Option Nat))} (hi : i ∈ E.2.2.1) (hsh : zw_sh i = .inl (ci, fs)) (hfk : fs[k0]? = some (some (some j))) (hF : zw_Fl own idx ci k0) (hd : decode cc pc = .ok (.getfield idx, 3)) (hp : pc + 3 = q) (k : zw_W p l e R s m args below meth c cells slots Q E A nL q lv (.ref (E.2.1 j) :: rest) h) : zw_W p l e R s m args below meth c cells slots Q E A nL pc lv (.ref (E.2.1 i) :: rest) h := by
  subst hp
  intro H locs ls hs hP hS
  obtain ⟨C, T, N, ty, ⟨hc, hw, hty, hnm⟩, hk, hl⟩ := hF
  obtain ⟨q0, hq0⟩ := List.getElem?_of_mem hi
  refine va_get (v := .ref (E.2.1 j)) (fs := fs.mapIdx (fun k f => zw_fv E h i k f)) g.1 g.2.1 g.2.2.2.2.1 hw g.2.2.2.1 g.2.2.2.2.2.1.1 hP q0 (by rw [zw_ws_at hq0, zw_ent_ob hsh]) hc k0 hk (g.2.2.2.2.1 _ hl) (fun _ h9 => h9) (by rw [List.getElem?_mapIdx, hfk]; rfl) hd (k H locs ls hs hP hS)
theorem zr_puti (g : zw_G p E A s m args c own cc nL) {idx i ci k0 : Nat} {fs : List (Option (Option Nat))} {v : Int32} {h' : zw_Hp} (hi : i ∈ E.2.2.1) (hsh : zw_sh i = .inl (ci, fs)) (hfk : fs[k0]? = some none) (hF : zw_Fp own idx ci k0 .int) (hd : decode cc pc = .ok (.putfield idx, 3)) (hp : pc + 3 = q) (hh : h' = zw_up h i k0 v) (k : zw_W p l e R s m args below meth c cells slots Q E A nL q lv rest h') : zw_W p l e R s m args below meth c cells slots Q E A nL pc lv (.int v :: .ref (E.2.1 i) :: rest) h := by
  subst hp
  subst hh
  intro H locs ls hs hP hS
  obtain ⟨C, T, N, ty, ⟨hc, hw, hty, hnm⟩, hk, hl, hfin, htk⟩ := hF
  obtain ⟨q0, hq0⟩ := List.getElem?_of_mem hi
  have hlen : k0 < (fs.mapIdx (fun k f => zw_fv E h i k f)).length := by rw [List.length_mapIdx]; exact (List.getElem?_eq_some_iff.mp hfk).1
  refine va_put (v := .int v) (ty := .int) (fs := fs.mapIdx (fun k f => zw_fv E h i k f)) g.1 g.2.1 g.2.2.2.2.1 hw ty hty hnm g.2.2.2.1 g.2.2.2.2.2.1.1 hP (g.2.2.2.2.2.2.1 h) hS q0 (by rw [zw_ws_at hq0, zw_ent_ob hsh]) hc k0 hk (g.2.2.2.2.1 _ hl) (fun _ h9 => h9) hfin (by rw [hty k0 hk, htk]) rfl rfl hlen hd (fun H1 locs1 hP1 hD1 hS1 => ?_)
  refine k H1 locs1 ls hs ?_ hS1
  unfold zw_up
  rw [← zw_ws_set (g.2.2.2.2.2.2.1 h) hq0 (zw_ent_row _), zw_ent_ob hsh]
  have e := zw_fs_up (E := E) (h := h) (i := i) v hfk
  unfold zw_up at e
  rw [e]
  exact hP1
theorem zr_putl (g : zw_G p E A s m args c own cc nL) {idx i ci k0 : Nat} {fs : List (Option (Option Nat))} {v : Int64} {h' : zw_Hp} (hi : i ∈ E.2.2.1) (hsh : zw_sh i = .inl (ci, fs)) (hfk : fs[k0]? = some (some none)) (h1 : ∀ j, fs[j]? = some (some none) → j = k0) (hF : zw_Fp own idx ci k0 .long) (hd : decode cc pc = .ok (.putfield idx, 3)) (hp : pc + 3 = q) (hh : h' = zw_upL h i v) (k : zw_W p l e R s m args below meth c cells slots Q E A nL q lv rest h') : zw_W p l e R s m args below meth c cells slots Q E A nL pc lv (.long v :: .ref (E.2.1 i) :: rest) h := by
  subst hp
  subst hh
  intro H locs ls hs hP hS
  obtain ⟨C, T, N, ty, ⟨hc, hw, hty, hnm⟩, hk, hl, hfin, htk⟩ := hF
  obtain ⟨q0, hq0⟩ := List.getElem?_of_mem hi
  have hlen : k0 < (fs.mapIdx (fun k f => zw_fv E h i k f)).length := by rw [List.length_mapIdx]; exact (List.getElem?_eq_some_iff.mp hfk).1
  refine va_put (v := .long v) (ty := .long) (fs := fs.mapIdx (fun k f => zw_fv E h i k f)) g.1 g.2.1 g.2.2.2.2.1 hw ty hty hnm g.2.2.2.1 g.2.2.2.2.2.1.1 hP (g.2.2.2.2.2.2.1 h) hS q0 (by rw [zw_ws_at hq0, zw_ent_ob hsh]) hc k0 hk (g.2.2.2.2.1 _ hl) (fun _ h9 => h9) hfin (by rw [hty k0 hk, htk]) rfl rfl hlen hd (fun H1 locs1 hP1 hD1 hS1 => ?_)
  refine k H1 locs1 ls hs ?_ hS1
  rw [← zw_ws_set (g.2.2.2.2.2.2.1 h) hq0 (zw_ent_long _), zw_ent_ob hsh, zw_fs_upL v hfk h1]
  exact hP1
theorem zr_iald (g : zw_G p E A s m args c own cc nL) {i n : Nat} {j : Int32} (hi : i ∈ E.2.2.1) (hsh : zw_sh i = .inr (false, n)) (hin : zw_ok j n = true) (hd : decode cc pc = .ok (.iaload, 1)) (hp : pc + 1 = q) (k : zw_W p l e R s m args below meth c cells slots Q E A nL q lv (.int (h.1 i j.toNatClampNeg) :: rest) h) : zw_W p l e R s m args below meth c cells slots Q E A nL pc lv (.int j :: .ref (E.2.1 i) :: rest) h := by
  subst hp
  intro H locs ls hs hP hS
  obtain ⟨q0, hq0⟩ := List.getElem?_of_mem hi
  exact va_iald (f := h.1 i) g.1 g.2.1 g.2.2.2.2.2.1.1 hP q0 0 (by rw [zw_ws_at hq0, zw_ent_ia hsh]) rfl (zw_ok_in hin) hd (k H locs ls hs hP hS)
theorem zr_zald (g : zw_G p E A s m args c own cc nL) {i n : Nat} {j : Int32} (hi : i ∈ E.2.2.1) (hsh : zw_sh i = .inr (true, n)) (hin : zw_ok j n = true) (hd : decode cc pc = .ok (.baload, 1)) (hp : pc + 1 = q) (k : zw_W p l e R s m args below meth c cells slots Q E A nL q lv (.int (h.1 i j.toNatClampNeg) :: rest) h) : zw_W p l e R s m args below meth c cells slots Q E A nL pc lv (.int j :: .ref (E.2.1 i) :: rest) h := by
  subst hp
  intro H locs ls hs hP hS
  obtain ⟨q0, hq0⟩ := List.getElem?_of_mem hi
  exact va_zald (f := h.1 i) g.1 g.2.1 g.2.2.2.2.2.1.1 hP q0 1 (by rw [zw_ws_at hq0, zw_ent_za hsh]) rfl (zw_ok_in hin) hd (k H locs ls hs hP hS)
theorem zr_iast (g : zw_G p E A s m args c own cc nL) {i n : Nat} {j x : Int32} {h' : zw_Hp} (hi : i ∈ E.2.2.1) (hsh : zw_sh i = .inr (false, n)) (hin : zw_ok j n = true) (hd : decode cc pc = .ok (.iastore, 1)) (hp : pc + 1 = q) (hh : h' = zw_up h i j.toNatClampNeg x) (k : zw_W p l e R s m args below meth c cells slots Q E A nL q lv rest h') : zw_W p l e R s m args below meth c cells slots Q E A nL pc lv (.int x :: .int j :: .ref (E.2.1 i) :: rest) h := by
  subst hp
  subst hh
  intro H locs ls hs hP hS
  obtain ⟨q0, hq0⟩ := List.getElem?_of_mem hi
  refine va_iast (f := h.1 i) g.1 g.2.1 g.2.2.2.2.2.1.1 hP (g.2.2.2.2.2.2.1 h) hS q0 0 (by rw [zw_ws_at hq0, zw_ent_ia hsh]) rfl (zw_ok_in hin) hd (fun H1 locs1 hP1 hD1 hS1 => ?_)
  refine k H1 locs1 ls hs ?_ hS1
  unfold zw_up
  rw [← zw_ws_set (g.2.2.2.2.2.2.1 h) hq0 (zw_ent_row _), zw_ent_ia hsh, zw_row_same]
  exact hP1
theorem zr_zast (g : zw_G p E A s m args c own cc nL) {i n : Nat} {j x : Int32} {h' : zw_Hp} (hi : i ∈ E.2.2.1) (hsh : zw_sh i = .inr (true, n)) (hin : zw_ok j n = true) (hv : vp_nar .boolean x = x) (hd : decode cc pc = .ok (.bastore, 1)) (hp : pc + 1 = q) (hh : h' = zw_up h i j.toNatClampNeg x) (k : zw_W p l e R s m args below meth c cells slots Q E A nL q lv rest h') : zw_W p l e R s m args below meth c cells slots Q E A nL pc lv (.int x :: .int j :: .ref (E.2.1 i) :: rest) h := by
  subst hp
  subst hh
  intro H locs ls hs hP hS
  obtain ⟨q0, hq0⟩ := List.getElem?_of_mem hi
  refine va_zast (f := h.1 i) g.1 g.2.1 g.2.2.2.2.2.1.1 hP (g.2.2.2.2.2.2.1 h) hS q0 1 (by rw [zw_ws_at hq0, zw_ent_za hsh]) rfl (zw_ok_in hin) hd (fun H1 locs1 hP1 hD1 hS1 => ?_)
  refine k H1 locs1 ls hs ?_ hS1
  unfold zw_up
  rw [← zw_ws_set (g.2.2.2.2.2.2.1 h) hq0 (zw_ent_row _), zw_ent_za hsh, zw_row_same]
  rw [hv] at hP1
  exact hP1
theorem zr_alen (g : zw_G p E A s m args c own cc nL) {i n : Nat} {v : Int32} (hi : i ∈ E.2.2.1) (hsh : zw_sh i = .inr (false, n)) (hv : Int32.ofNat n = v) (hd : decode cc pc = .ok (.arraylength, 1)) (hp : pc + 1 = q) (k : zw_W p l e R s m args below meth c cells slots Q E A nL q lv (.int v :: rest) h) : zw_W p l e R s m args below meth c cells slots Q E A nL pc lv (.ref (E.2.1 i) :: rest) h := by
  subst hp
  intro H locs ls hs hP hS
  obtain ⟨q0, hq0⟩ := List.getElem?_of_mem hi
  exact va_alen (x := (n, .inl (h.1 i))) g.1 g.2.1 g.2.2.2.2.2.1.1 hP q0 0 (by rw [zw_ws_at hq0, zw_ent_ia hsh]) rfl hv hd (k H locs ls hs hP hS)
/-- System.arraycopy of whole numbers -/
theorem zr_copy (g : zw_G p E A s m args c own cc nL) {i i2 n n2 idx : Nat} {sp dp cn : Int32} {h' : zw_Hp} (hi : i ∈ E.2.2.1) (hsh : zw_sh i = .inr (false, n)) (hi2 : i2 ∈ E.2.2.1) (hsh2 : zw_sh i2 = .inr (false, n2)) (hl : Cond.methodLink own idx arraycopyName ∈ zw_tb) (hw : Cond.native arraycopyName ∈ zw_tb ∧ Cond.static arraycopyName ∈ zw_tb ∧ Cond.initialized "java/lang/System" ∈ zw_tb)
    (hg : ¬ sp < 0 ∧ ¬ dp < 0 ∧ ¬ cn < 0 ∧ sp.toNatClampNeg + cn.toNatClampNeg ≤ n ∧ dp.toNatClampNeg + cn.toNatClampNeg ≤ n2) (hR : 1 ≤ R.frames ∧ 26 ≤ R.locals) (hcat : (rest.map fun v => v.category).sum ≤ 8) (hd : decode cc pc = .ok (.invokestatic idx, 3)) (hp : pc + 3 = q) (hh : h' = zw_upR h i2 (va_cpy (h.1 i) (h.1 i2) sp.toNatClampNeg dp.toNatClampNeg cn.toNatClampNeg)) (k : zw_W p l e R s m args below meth c cells slots Q E A nL q lv rest h') : zw_W p l e R s m args below meth c cells slots Q E A nL pc lv (.int cn :: .int dp :: .ref (E.2.1 i2) :: .int sp :: .ref (E.2.1 i) :: rest) h := by
  subst hp
  subst hh
  intro H locs ls hs hP hS
  obtain ⟨q0, hq0⟩ := List.getElem?_of_mem hi
  obtain ⟨q1, hq1⟩ := List.getElem?_of_mem hi2
  have hnw : nativeFrameWords "java/lang/System" "arraycopy" 5 = 7 := by decide
  refine va_copyi (f := h.1 i) (g := h.1 i2) (ty := .int) g.1 g.2.1 (by rw [g.2.2.1]; exact hs.1.symm) g.2.2.2.1 (g.2.2.2.2.1 _ hl) (g.2.2.2.2.1 _ hw.1) (g.2.2.2.2.1 _ hw.2.1) (g.2.2.2.2.1 _ hw.2.2) g.2.2.2.2.2.1.1 hP (g.2.2.2.2.2.2.1 h) hS q0 q1 0 0 (by rw [zw_ws_at hq0, zw_ent_ia hsh]) (by rw [zw_ws_at hq1, zw_ent_ia hsh2]) rfl rfl rfl hg.1 hg.2.1 hg.2.2.1 hg.2.2.2.1 hg.2.2.2.2 (fun i hi => rfl) hR.1 (by rw [hnw]; omega) hd (fun H1 locs1 hP1 hD1 hS1 => ?_)
  refine k H1 locs1 ls hs ?_ hS1
  rw [← zw_ws_set (g.2.2.2.2.2.2.1 h) hq1 (zw_ent_row _), zw_ent_ia hsh2, zw_row_same]
  exact hP1
theorem zw_blind (E : zw_En) (As : List Value) (h : zw_Hp) : FrameBlind (zw_Pc E As h) := fun a U gg mk ⟨h1, h2, h3⟩ => ⟨h1, h2, va_K.moved (u := U) (U := U.calling gg mk a) (Vm.Alike.refl U.vm) h3.1, fun q hq => va_Nw.same rfl (rfl : U.vm = (U.calling gg mk a).vm) (h3.2 q hq)⟩
/-- behind a call -/
theorem zw_back (g : zw_G p E A s m args c own cc nL) {r : Option Value} {h' : zw_Hp} {H : Heap} {locs : List Loc} {ls : Array Slot} {st0 st' : List Value} {a : Array Value} (hs : lv_has ls nL lv) (hS : va_S A s.heap H locs) (hr : va_Run p l e R s m args below meth c H locs cells slots 0 0 (F0 m pc ls st0) rest (zw_Qc E r h' a) (zw_A E)) (hst : r.toList ++ rest = st')
    (k : zw_W p l e R s m args below meth c cells slots Q E A nL (pc + 3) lv st' h') : W p l e R s m args below meth c H locs cells slots Q (F0 m pc ls st0) := by
  intro T hT X
  obtain ⟨v, s0, t, T', L, h0, X', hL, e1, e2, ⟨hv, hP', hF⟩, stp⟩ := hr T hT X
  obtain rfl : v = r := by injection hv
  subst hst
  obtain ⟨t2, a1, b1⟩ := k T'.heap (locs ++ L) ls hs (by rw [e1]; exact hP')
    ⟨Nat.le_trans hS.1 (by rw [← h0, e1]; exact hF.1), fun z h1 h2 => by rw [e1, hF.2 z (by rw [h0]; exact Nat.lt_of_lt_of_le h1 hS.1) (fun w => h2 (g.2.2.2.2.2.2.2 z w)), h0]; exact hS.2.1 z h1 h2, fun z hz => by
      rcases List.mem_append.mp hz with w | w
      · exact hS.2.2 z w
      · exact g.2.2.2.2.2.2.2 _ (hL z w)⟩ T' rfl X'
  exact ⟨t2, stp t2 a1, b1⟩
theorem zr_callV (g : zw_G p E A s m args c own cc nL) {mt : zw_Mt} {As st st' : List Value} {idx i ci n : Nat} {fs : List (Option (Option Nat))} {T : u_T} {N : Nat} {r : Option Value} {h' : zw_Hp} (hC : zw_Ct l E mt (.ref (E.2.1 i) :: As) h r h') (hm : zw_Mv mt n) (hl : Cond.methodLink own idx mt.1 ∈ zw_tb) (hi : i ∈ E.2.2.1) (hsh : zw_sh i = .inl (ci, fs)) (hc : vwCl[ci]? = some (mt.1.cls, T, N)) (hd : decode cc pc = .ok (.invokevirtual idx, 3)) (hn : As.length = n) (hst : st = As.reverse ++ .ref (E.2.1 i) :: rest) (hR : mt.2.2.2.2.1 + 1 ≤ R.frames ∧ 8 + (mt.2.2.1 + 11) + mt.2.2.2.2.2 ≤ R.locals) (hz : cells ≤ R.cells ∧ slots ≤ R.slots) (hcat : (rest.map fun v => v.category).sum ≤ 8) (hp : pc + 3 = q) (hst' : r.toList ++ rest = st') (k : zw_W p l e R s m args below meth c cells slots Q E A nL q lv st' h') : zw_W p l e R s m args below meth c cells slots Q E A nL pc lv st h := by
  subst hp
  subst hst
  intro H locs ls hs hP hS
  obtain ⟨q0, hq0⟩ := List.getElem?_of_mem hi
  refine zw_back g hs hS (va_runV (Ts := zw_tb) (nL := nL) (As := As) (rest := rest) (b := E.2.1 i) (C := mt.1.cls) (n := n) ⟨g.1, g.2.1, g.2.2.1, g.2.2.2.1, g.2.2.2.2.1⟩ hC
    (cwV n g.2.2.2.2.1 (zw_good (fun w hw => ?_)) rfl rfl rfl ⟨rfl, hm.1.2.2⟩ hR) ⟨zw_blind E _ h, va_recv g.2.2.2.2.2.1.1 hP hc (by rw [zw_ws_at hq0, zw_ent_ob hsh]), fun U hU hW => ⟨rfl, by rw [hU]; exact hP, g.2.2.2.2.2.1.warm hW⟩⟩ rfl hn hs.1 rfl (lv_room hcat) hd ⟨hz.1, hz.2⟩) hst' k
  simp only [wsV, List.mem_append, List.mem_cons, List.not_mem_nil, or_false] at hw
  rcases hw with (rfl | rfl | rfl | rfl) | hw
  · exact hl
  · exact hm.2.1
  · exact hm.2.2
  · exact hm.1.2.1
  · exact zw_ws0_in hm.1 w hw
theorem zw_cb {mt : zw_Mt} {idx n : Nat} (g : zw_G p E A s m args c own cc nL) (hm : zw_Mw mt n) (hl : Cond.methodLink own idx mt.1 ∈ zw_tb) (hR : mt.2.2.2.2.1 + 1 ≤ R.frames ∧ 8 + (mt.2.2.1 + 11) + mt.2.2.2.2.2 ≤ R.locals) : CallB R s args own idx mt.1 mt.2.1 mt.2.2.1 mt.2.2.2.1 (zw_ws0 mt) (zw_rm mt) 0 0 n :=
  callB_of n g.2.2.2.2.1 (zw_good (zw_ws0_in hm)) rfl rfl rfl (g.2.2.2.2.1 _ hm.2.1) (g.2.2.2.2.1 _ hl) hm.2.2 hR
theorem zr_callS (g : zw_G p E A s m args c own cc nL) {mt : zw_Mt} {As st st' : List Value} {idx n : Nat} {r : Option Value} {h' : zw_Hp} (hC : zw_Ct l E mt As h r h') (hm : zw_Ms mt n) (hl : Cond.methodLink own idx mt.1 ∈ zw_tb) (hd : decode cc pc = .ok (.invokestatic idx, 3)) (hn : As.length = n) (hst : st = As.reverse ++ rest) (hR : mt.2.2.2.2.1 + 1 ≤ R.frames ∧ 8 + (mt.2.2.1 + 11) + mt.2.2.2.2.2 ≤ R.locals) (hz : cells ≤ R.cells ∧ slots ≤ R.slots) (hcat : (rest.map fun v => v.category).sum ≤ 8) (hp : pc + 3 = q) (hst' : r.toList ++ rest = st') (k : zw_W p l e R s m args below meth c cells slots Q E A nL q lv st' h') : zw_W p l e R s m args below meth c cells slots Q E A nL pc lv st h := by
  subst hp
  subst hst
  intro H locs ls hs hP hS
  exact zw_back g hs hS (va_runS (Ts := zw_tb) (nL := nL) (As := As) (rest := rest) (n := n) ⟨g.1, g.2.1, g.2.2.1, g.2.2.2.1, g.2.2.2.2.1⟩ hC
    ⟨zw_cb g hm.1 hl hR, g.2.2.2.2.1 _ hm.2⟩ ⟨zw_blind E _ h, fun U hU hW => ⟨rfl, by rw [hU]; exact hP, g.2.2.2.2.2.1.warm hW⟩⟩ rfl hn hs.1 rfl (lv_room hcat) hd ⟨hz.1, hz.2⟩) hst' k
theorem zr_callN (g : zw_G p E A s m args c own cc nL) {mt : zw_Mt} {As st st' : List Value} {idx n : Nat} {host : String} {r : Option Value} {h' : zw_Hp} (hC : zw_Ct l E mt As h r h') (hm : zw_Ms mt n) (hl : (own, idx, mt.1, host) ∈ zw_nest) (hd : decode cc pc = .ok (.invokestatic idx, 3)) (hn : As.length = n) (hst : st = As.reverse ++ rest) (hR : mt.2.2.2.2.1 + 1 ≤ R.frames ∧ 8 + (mt.2.2.1 + 11) + mt.2.2.2.2.2 ≤ R.locals) (hz : cells ≤ R.cells ∧ slots ≤ R.slots) (hcat : (rest.map fun v => v.category).sum ≤ 8) (hp : pc + 3 = q) (hst' : r.toList ++ rest = st') (k : zw_W p l e R s m args below meth c cells slots Q E A nL q lv st' h') : zw_W p l e R s m args below meth c cells slots Q E A nL pc lv st h := by
  subst hp
  subst hst
  intro H locs ls hs hP hS
  have hws := zw_good (zw_ws0_in hm.1)
  exact zw_back g hs hS (va_runSN (Ts := zw_tb) (nL := nL) (As := As) (rest := rest) (n := n) (host := host) ⟨g.1, g.2.1, g.2.2.1, g.2.2.2.1, g.2.2.2.2.1⟩ hC
    ⟨⟨⟨rfl, rfl, hR.1, hR.2, pay_in g.2.2.2.2.1 hws, List.mem_cons_self⟩, g.2.2.2.2.1 _ hm.1.1, g.2.2.2.2.1 _ hm.1.2.1, ⟨hm.1.2.2.1, hm.1.2.2.2.1⟩, fun sig hsig => by have h2 := hm.1.2.2.2.2; rw [hsig] at h2; exact (Option.some.inj h2).symm, va_Nw.use rfl (g.2.2.2.2.2.1.2 _ hl)⟩, g.2.2.2.2.1 _ hm.2, trivial⟩ ⟨zw_blind E _ h, fun U hU hW => ⟨rfl, by rw [hU]; exact hP, g.2.2.2.2.2.1.warm hW⟩⟩ rfl hn hs.1 rfl (lv_room hcat) hd ⟨hz.1, hz.2⟩) hst' k
end ZW
section ZR
variable {p : Program} {l : Launch} {e : Env} {R : Room} {s : State} {m : MethodId} {args : Array Value} {below : List Frame} {meth : Method} {c : Code} {E : zw_En} {own : String} {cc : ByteArray} {nL pc : Nat} {lv : List (Nat × Value)} {h h' : zw_Hp} {r : Option Value}
/-- a method's own walk: its room, its end -/
abbrev zw_V (p : Program) (l : Launch) (e : Env) (s : State) (m : MethodId) (args : Array Value) (below : List Frame) (meth : Method) (c : Code) (E : zw_En) (mt : zw_Mt) (nL : Nat) (r : Option Value) (h' : zw_Hp) (pc : Nat) (lv : List (Nat × Value)) (st : List Value) (h : zw_Hp) : Prop :=
  zw_W p l e (zw_rm mt) s m args below meth c 0 0 (MQ below (zw_Qc E r h') args s 0 0 (zw_A E)) E (zw_A E) nL pc lv st h
theorem zr_iret (g : zw_G p E (zw_A E) s m args c own cc nL) {v : Int32} (hr : meth.sig.returnType = some .int) (hlk : meth.locks = false) (hd : decode cc pc = .ok (.ireturn, 1)) (er : r = some (.int v)) (eh : h' = h) : zw_W p l e R s m args below meth c 0 0 (MQ below (zw_Qc E r h') args s 0 0 (zw_A E)) E (zw_A E) nL pc lv [.int v] h := by
  subst er; subst eh
  exact fun H locs ls hs hP hS => W.iret g.1 g.2.1 hr (fun t ht hW => ⟨rfl, by rw [ht]; exact hP, hS.F ht⟩) hS.2.2 hd hlk
theorem zr_zret (g : zw_G p E (zw_A E) s m args c own cc nL) {v : Int32} (hr : meth.sig.returnType = some .boolean) (hlk : meth.locks = false) (hv : v = 0 ∨ v = 1) (hd : decode cc pc = .ok (.ireturn, 1)) (er : r = some (.int v)) (eh : h' = h) : zw_W p l e R s m args below meth c 0 0 (MQ below (zw_Qc E r h') args s 0 0 (zw_A E)) E (zw_A E) nL pc lv [.int v] h := by
  subst er; subst eh
  have hn : narrow .boolean (.int v) = .int v := by rcases hv with rfl | rfl <;> decide
  exact fun H locs ls hs hP hS => W.zret g.1 g.2.1 hr hn (fun t ht hW => ⟨rfl, by rw [ht]; exact hP, hS.F ht⟩) hS.2.2 hd hlk
theorem zr_lret (g : zw_G p E (zw_A E) s m args c own cc nL) {v : Int64} (hr : meth.sig.returnType = some .long) (hlk : meth.locks = false) (hd : decode cc pc = .ok (.lreturn, 1)) (er : r = some (.long v)) (eh : h' = h) : zw_W p l e R s m args below meth c 0 0 (MQ below (zw_Qc E r h') args s 0 0 (zw_A E)) E (zw_A E) nL pc lv [.long v] h := by
  subst er; subst eh
  exact fun H locs ls hs hP hS => W.lret g.1 g.2.1 hr (fun t ht hW => ⟨rfl, by rw [ht]; exact hP, hS.F ht⟩) hS.2.2 hd hlk
theorem zr_vret (g : zw_G p E (zw_A E) s m args c own cc nL) (hr : meth.sig.returnType = none) (hlk : meth.locks = false) (hd : decode cc pc = .ok (.return_, 1)) (er : r = none) (eh : h' = h) : zw_W p l e R s m args below meth c 0 0 (MQ below (zw_Qc E r h') args s 0 0 (zw_A E)) E (zw_A E) nL pc lv [] h := by
  subst er; subst eh
  exact fun H locs ls hs hP hS => W.vret g.1 g.2.1 hr (fun t ht hW => ⟨rfl, by rw [ht]; exact hP, hS.F ht⟩) hS.2.2 hd hlk
/-- the contract out of the walk from its entry -/
theorem zw_ct {mt : zw_Mt} {As : List Value} {lv0 : List (Nat × Value)} (ok : zw_Ok E) (hy : plainName mt.1.cls = true) (hl0 : lv_args 0 As = lv0) (hlen : (lg_sl As).length ≤ mt.2.2.1)
    (body : ∀ p e s m args below meth c, zw_G p E (zw_A E) s m args c mt.1.cls mt.2.1 mt.2.2.1 → meth.sig.returnType = mt.2.2.2.1 → meth.locks = false → zw_V p l e s m args below meth c E mt mt.2.2.1 r h' 0 lv0 [] h) : zw_Ct l E mt As h r h' := by
  refine Met.ofW (cc := mt.2.1) (maxL := mt.2.2.1) (ret := mt.2.2.2.1) hy rfl ?_
  intro p e s m args below meth c s₁ B hml hv
  obtain ⟨ha, hP, hK⟩ := hv
  subst ha
  have hts := atoms_spec (ws := zw_ws0 mt) B.pre
  have hl := lv_entry As (n := mt.2.2.1) hlen
  rw [hl0] at hl
  rw [lg_entry_eq]
  exact body p e s m _ below meth c ⟨B.exec, B.bytes, hml, findClass_of_methodNamed B.named, fun w hw => hts w (List.mem_cons_of_mem _ hw), hK, fun h => zw_ws_D ok (fun _ z => z) h, fun _ z => z⟩ B.returns B.notSynchronized s.heap [] _ hl hP va_S.rf
end ZR
