/-! MAKING OBJECTS. N: as G, over a list of cells that grows; c and n: the cells and slots made so far. -/
abbrev NV : Type := va_G × Cy
def tyC (Y : NV) : List (ClassId × FieldType) := tyL (Y.1, [], (fun _ => 0), Y.2)
/-- the class of arrays of arrays of ints -/
def AOI (U : State) : Prop := (Cond.arrayOver (.array .int)).before #[] U = true
theorem AOI.spec {U : State} (h : AOI U) : ∃ (comp c : ClassId) (k : Class), U.vm.findClass (FieldType.array .int).toString = some comp ∧ (U.vm.classes.findIdx? fun (x : Class) => match x.kind with | .array component _ => component == comp | _ => false) = some c ∧ U.vm.classes[c]? = some k ∧ k.kind = .array comp (.array .int) ∧ U.vm.findClass ("[" ++ (FieldType.array .int).toString) = some c := by
  unfold AOI Cond.before at h
  simp only [Cond.holds, Cond.value, beq_iff_eq] at h
  cases hc : U.vm.findClass (FieldType.array .int).toString with
  | none => simp [hc] at h
  | some comp =>
    simp only [hc, Option.bind_some, Option.bind_eq_some_iff, Option.map_eq_some_iff] at h
    obtain ⟨c, hi, k, hk, hb⟩ := h
    obtain ⟨hlt, hp, -⟩ := Array.findIdx?_eq_some_iff_getElem.mp hi
    have hkk : U.vm.classes[c] = k := (Array.getElem?_eq_some_iff.mp hk).2
    rw [hkk] at hp
    cases hkind : k.kind with
    | array component ty =>
      rw [hkind] at hb hp
      simp at hb hp
      exact ⟨comp, c, k, rfl, hi, hk, by rw [hkind, hp, hb.1], hb.2⟩
    | _ => rw [hkind] at hb; simp at hb
theorem AOI.moved {u U : State} (hvm : u.vm.Alike U.vm) (h : AOI u) : AOI U := by
  obtain ⟨comp, c, k, h1, h2, h3, h4, h5⟩ := h.spec
  obtain ⟨k', hk', he⟩ := hvm.2.2 _ _ h3
  have hi : (U.vm.classes.findIdx? fun (x : Class) => match x.kind with | .array component _ => component == comp | _ => false) = some c := by
    have e : U.vm.bare = u.vm.bare := by first | exact hvm.bare_eq | exact hvm.bare_eq.symm
    have e1 := va_idx_bare U.vm comp
    rw [e] at e1
    exact (e1.symm.trans (va_idx_bare u.vm comp)).trans h2
  have hkind : k'.kind = .array comp (.array .int) := by rw [he]; exact h4
  have f1 : U.vm.findClass (FieldType.array .int).toString = some comp := by rw [hvm.findClass]; exact h1
  have f2 : U.vm.findClass ("[" ++ (FieldType.array .int).toString) = some c := by rw [hvm.findClass]; exact h5
  unfold AOI Cond.before Cond.holds
  simp only [Cond.value]
  rw [f1, Option.bind_some]
  refine (congrArg (fun o : Option Nat => (o.bind (fun c => (U.vm.classes[c]?).map fun (k : Class) => match k.kind with | .array _ ty => decide (ty = FieldType.array .int) && decide (U.vm.findClass ("[" ++ (FieldType.array .int).toString) = some c) | _ => false) == some true)) hi).trans ?_
  simp [hk', hkind, f2]
/-- words that are not carried by the tables of a method -/
def Nst (U : State) : Prop := (∀ (own : String) (idx : Nat) (y : MethodName), Cond.methodLinkNest own idx y "AskedMaps" ∈ lw_tbl → va_Nw (.methodLinkNest own idx y "AskedMaps") U) ∧ va_AO RX2 U ∧ AOI U
def N (l : Launch) (Y : NV) (X : Mx) (nL pc : Nat) (lv : List (Nat × Value)) (st : List Value) (ws : va_W) (c n : Nat) : Prop :=
  ∀ (H : Heap) (locs : List Loc) (ls : Array Slot), va_P Y.1 vwCl ws H → va_D X.2.2.2.2.2.2.2.2.2.2.2 ws → va_S X.2.2.2.2.2.2.2.2.2.2.2 X.2.2.2.1.heap H locs → lv_has ls nL lv →
    W X.1 l X.2.1 X.2.2.1 X.2.2.2.1 X.2.2.2.2.1 X.2.2.2.2.2.1 X.2.2.2.2.2.2.1 X.2.2.2.2.2.2.2.1 X.2.2.2.2.2.2.2.2.1 H locs c n X.2.2.2.2.2.2.2.2.2.2.1 (F0 X.2.2.2.2.1 pc ls st)
def FxN (Y : NV) (X : Mx) (cc : ByteArray) (own : String) (nL lev mc ms : Nat) : Prop :=
  X.1.tables.exec = Jvm.exec ∧ X.2.2.2.2.2.2.2.2.1.code = cc ∧ X.2.2.2.2.2.2.2.2.1.maxLocals = nL ∧ X.2.2.2.1.vm.findClass own = some X.2.2.2.2.1.cls ∧ (∀ w ∈ lw_u, w.before X.2.2.2.2.2.1 X.2.2.2.1 = true) ∧
  va_K Y.1 vwCl (tyC Y) X.2.2.2.1 ∧ (∀ q, X.2.2.2.1.heap.size ≤ q → X.2.2.2.2.2.2.2.2.2.2.2 q) ∧ X.2.2.2.2.2.2.2.1.locks = false ∧
  (lev ≤ X.2.2.1.frames ∧ 40 * lev ≤ X.2.2.1.locals) ∧ mc ≤ X.2.2.1.cells ∧ ms ≤ X.2.2.1.slots ∧ Nst X.2.2.2.1
theorem u_objC : Cond.code objectInit ⟨#[0xb1]⟩ 1 none ∈ lw_u := uw (i := 96) (by decide +kernel) rfl
theorem u_objI : Cond.instanceMethod objectInit ∈ lw_u := uw (i := 95) (by decide +kernel) rfl
theorem u_arrI : Cond.arrayClass .int ∈ lw_u := uw (i := 123) (by decide +kernel) rfl
theorem u_arrZ : Cond.arrayClass .boolean ∈ lw_u := uw (i := 1009) (by decide +kernel) rfl
section NR
variable {l : Launch} {Y : NV} {X : Mx} {cc : ByteArray} {own : String} {nL lev pc mc ms c n : Nat} {lv lv' : List (Nat × Value)} {st : List Value} {ws r : va_W} {c0 : Nat × va_E}
theorem n_pc {pc' : Nat} (h : pc = pc') (k : N l Y X nL pc' lv st ws c n) : N l Y X nL pc lv st ws c n := h ▸ k
theorem n_ws {ws' : va_W} (h : ws = ws') (k : N l Y X nL pc lv st ws' c n) : N l Y X nL pc lv st ws c n := h ▸ k
theorem n_widen {c' n' : Nat} (h1 : c ≤ c') (h2 : n ≤ n') (k : N l Y X nL pc lv st ws c' n') : N l Y X nL pc lv st ws c n := fun H locs ls hP hD hS hl => W.widen h1 h2 (k H locs ls hP hD hS hl)
theorem n_iconst (F : FxN Y X cc own nL lev mc ms) {i : Int} {v : Int32} (d : decode cc pc = .ok (.iconst i, 1)) (hv : Int32.ofInt i = v) (k : N l Y X nL (pc + 1) lv (.int v :: st) ws c n) : N l Y X nL pc lv st ws c n := fun H locs ls hP hD hS hl => lv_iconst F.1 F.2.1 d hv (k H locs ls hP hD hS hl)
theorem n_lconst (F : FxN Y X cc own nL lev mc ms) {i : Fin 2} {v : Int64} (d : decode cc pc = .ok (.lconst i, 1)) (hv : Int64.ofNat (i : Nat) = v) (k : N l Y X nL (pc + 1) lv (.long v :: st) ws c n) : N l Y X nL pc lv st ws c n := fun H locs ls hP hD hS hl => lv_lconst F.1 F.2.1 d hv (k H locs ls hP hD hS hl)
theorem n_bipush (F : FxN Y X cc own nL lev mc ms) {i : Int} {v : Int32} (d : decode cc pc = .ok (.bipush i, 2)) (hv : (Int8.ofInt i).toInt32 = v) (k : N l Y X nL (pc + 2) lv (.int v :: st) ws c n) : N l Y X nL pc lv st ws c n := fun H locs ls hP hD hS hl => lv_bipush F.1 F.2.1 d hv (k H locs ls hP hD hS hl)
theorem n_sipush (F : FxN Y X cc own nL lev mc ms) {i : Int} {v : Int32} (d : decode cc pc = .ok (.sipush i, 3)) (hv : (Int16.ofInt i).toInt32 = v) (k : N l Y X nL (pc + 3) lv (.int v :: st) ws c n) : N l Y X nL pc lv st ws c n := fun H locs ls hP hD hS hl => lv_sipush F.1 F.2.1 d hv (k H locs ls hP hD hS hl)
theorem n_iload_n (F : FxN Y X cc own nL lev mc ms) {f : Fin 4} {i : Nat} {x : Int32} (d : decode cc pc = .ok (.iload_n f, 1)) (hi : (f : Nat) = i) (j : Nat) (h : lv[j]? = some (i, .int x)) (k : N l Y X nL (pc + 1) lv (.int x :: st) ws c n) : N l Y X nL pc lv st ws c n := fun H locs ls hP hD hS hl => lv_iload_n F.1 F.2.1 d hi (lv_at hl j h) (k H locs ls hP hD hS hl)
theorem n_aload_n (F : FxN Y X cc own nL lev mc ms) {f : Fin 4} {i : Nat} {a : Nat} (d : decode cc pc = .ok (.aload_n f, 1)) (hi : (f : Nat) = i) (j : Nat) (h : lv[j]? = some (i, .ref a)) (k : N l Y X nL (pc + 1) lv (.ref a :: st) ws c n) : N l Y X nL pc lv st ws c n := fun H locs ls hP hD hS hl => lv_aload_n F.1 F.2.1 d hi (lv_at hl j h) (k H locs ls hP hD hS hl)
theorem n_istore_n (F : FxN Y X cc own nL lev mc ms) {f : Fin 4} {i : Nat} {x : Int32} (d : decode cc pc = .ok (.istore_n f, 1)) (hi : (f : Nat) = i) (hn : i < nL) (h : (i, Value.int x) :: lv.filter (fun q => !(q.1 == i) && !(q.1 + 1 == i && q.2.category == 2)) = lv') (k : N l Y X nL (pc + 1) lv' st ws c n) : N l Y X nL pc lv (.int x :: st) ws c n := fun H locs ls hP hD hS hl => lv_istore_n F.1 F.2.1 d hi hl hn h (fun ls' hl' => k H locs ls' hP hD hS hl')
theorem n_astore_n (F : FxN Y X cc own nL lev mc ms) {f : Fin 4} {i a : Nat} (d : decode cc pc = .ok (.astore_n f, 1)) (hi : (f : Nat) = i) (hn : i < nL) (h : (i, Value.ref a) :: lv.filter (fun q => !(q.1 == i) && !(q.1 + 1 == i && q.2.category == 2)) = lv') (k : N l Y X nL (pc + 1) lv' st ws c n) : N l Y X nL pc lv (.ref a :: st) ws c n := fun H locs ls hP hD hS hl => lv_astore_n F.1 F.2.1 d hi hl hn h (fun ls' hl' => k H locs ls' hP hD hS hl')
theorem n_iinc (F : FxN Y X cc own nL lev mc ms) {i : Nat} {m : Int} {x v : Int32} (d : decode cc pc = .ok (.iinc i m, 3)) (j : Nat) (h0 : lv[j]? = some (i, .int x)) (hv : x + Int32.ofInt m = v) (hn : i < nL) (h : (i, Value.int v) :: lv.filter (fun q => !(q.1 == i) && !(q.1 + 1 == i && q.2.category == 2)) = lv') (k : N l Y X nL (pc + 3) lv' st ws c n) : N l Y X nL pc lv st ws c n := fun H locs ls hP hD hS hl => lv_iinc F.1 F.2.1 d hl h0 hv hn h (fun ls' hl' => k H locs ls' hP hD hS hl')
theorem n_goto (F : FxN Y X cc own nL lev mc ms) {o : Int} (t : Nat) (d : decode cc pc = .ok (.goto o, 3)) (ht : (pc : Int) + o = (t : Int)) (k : N l Y X nL t lv st ws c n) : N l Y X nL pc lv st ws c n := fun H locs ls hP hD hS hl => lv_goto F.1 F.2.1 d ht (k H locs ls hP hD hS hl)
theorem n_icmp_ge (F : FxN Y X cc own nL lev mc ms) {x y : Int32} {o : Int} (t : Nat) (d : decode cc pc = .ok (.if_icmp .ge o, 3)) (ht : (pc : Int) + o = (t : Int)) (k : y ≤ x → N l Y X nL t lv st ws c n) (k' : ¬ y ≤ x → N l Y X nL (pc + 3) lv st ws c n) : N l Y X nL pc lv (.int y :: .int x :: st) ws c n := fun H locs ls hP hD hS hl => lv_icmp_ge F.1 F.2.1 d ht (fun h => k h H locs ls hP hD hS hl) (fun h => k' h H locs ls hP hD hS hl)
theorem n_dup (F : FxN Y X cc own nL lev mc ms) {v : Value} (d : decode cc pc = .ok (.dup, 1)) (hc : v.category = 1) (k : N l Y X nL (pc + 1) lv (v :: v :: st) ws c n) : N l Y X nL pc lv (v :: st) ws c n := fun H locs ls hP hD hS hl => lv_dup F.1 F.2.1 d hc (k H locs ls hP hD hS hl)
theorem n_obj (F : FxN Y X cc own nL lev mc ms) {a idx : Nat} (hl1 : 1 ≤ lev) (hst : (st.map fun v => v.category).sum ≤ 8) (hu : Cond.methodLink own idx objectInit ∈ lw_u) (d : decode cc pc = .ok (.invokespecial idx, 3)) (k : N l Y X nL (pc + 3) lv st ws c n) : N l Y X nL pc lv (.ref a :: st) ws c n := fun H locs ls hP hD hS hl => by
  have h9 := F.2.2.2.2.2.2.2.2.1
  exact W.objInit F.1 F.2.1 F.2.2.2.1 (F.2.2.2.2.1 _ hu) (F.2.2.2.2.1 _ u_objI) (F.2.2.2.2.1 _ u_objC) rfl (by rw [F.2.2.1]; exact hl.1) rfl d (by omega) (by have h8 : 2 * (F0 X.2.2.2.2.1 pc ls (.ref a :: st)).monitorRoom + (st.map fun v => v.category).sum ≤ 8 := lv_room hst; omega) (W.eq (g2 := F0 X.2.2.2.2.1 (pc + 3) ls st) rfl (k H locs ls hP hD hS hl))
theorem n_newI (F : FxN Y X cc own nL lev mc ms) {v : Int32} {k : Nat} (hv : ¬ v < 0) (hk : v.toNatClampNeg = k) (hb : k * 4 ≤ 536870912) (hc : c + 1 ≤ mc) (hn : n + k ≤ ms) (d : decode cc pc = .ok (.newarray .int, 2)) (kk : ∀ q : Nat, N l Y X nL (pc + 2) lv (.ref q :: st) (c0 :: (r ++ [(q, .inl (Y.2.1, k, .inl (fun _ => 0)))])) (c + 1) (n + k)) : N l Y X nL pc lv (.int v :: st) (c0 :: r) c n := fun H locs ls hP hD hS hl => by
  have h10 := F.2.2.2.2.2.2.2.2.2
  refine va_newa (atype := .int) (ty := .int) (a0 := (k, .inl (fun _ => 0))) F.1 F.2.1 (F.2.2.2.2.1 _ u_arrI) rfl F.2.2.2.2.2.1 hP hD hS F.2.2.2.2.2.2.1 (fun _ => rfl) hv hk hb (Nat.le_trans hc h10.1) (Nat.le_trans hn h10.2.1) d (fun q cA H1 hK1 hP1 hD1 hS1 => ?_)
  have e1 : X.2.2.2.1.vm.findClass ("[" ++ FieldType.int.toString) = some cA := (hK1.2 4 (cA, .int) rfl).2
  have e2 : X.2.2.2.1.vm.findClass ("[" ++ FieldType.int.toString) = some Y.2.1 := (F.2.2.2.2.2.1.2 0 (Y.2.1, .int) rfl).2
  have e3 : cA = Y.2.1 := Option.some.inj (e1.symm.trans e2)
  subst e3
  exact kk q H1 locs ls hP1 hD1 hS1 hl
theorem n_newZ (F : FxN Y X cc own nL lev mc ms) {v : Int32} {k : Nat} (hv : ¬ v < 0) (hk : v.toNatClampNeg = k) (hb : k * 1 ≤ 536870912) (hc : c + 1 ≤ mc) (hn : n + k ≤ ms) (d : decode cc pc = .ok (.newarray .boolean, 2)) (kk : ∀ q : Nat, N l Y X nL (pc + 2) lv (.ref q :: st) (c0 :: (r ++ [(q, .inl (Y.2.2.1, k, .inl (fun _ => 0)))])) (c + 1) (n + k)) : N l Y X nL pc lv (.int v :: st) (c0 :: r) c n := fun H locs ls hP hD hS hl => by
  have h10 := F.2.2.2.2.2.2.2.2.2
  refine va_newa (atype := .boolean) (ty := .boolean) (a0 := (k, .inl (fun _ => 0))) F.1 F.2.1 (F.2.2.2.2.1 _ u_arrZ) rfl F.2.2.2.2.2.1 hP hD hS F.2.2.2.2.2.2.1 (fun _ => rfl) hv hk hb (Nat.le_trans hc h10.1) (Nat.le_trans hn h10.2.1) d (fun q cA H1 hK1 hP1 hD1 hS1 => ?_)
  have e1 : X.2.2.2.1.vm.findClass ("[" ++ FieldType.boolean.toString) = some cA := (hK1.2 4 (cA, .boolean) rfl).2
  have e2 : X.2.2.2.1.vm.findClass ("[" ++ FieldType.boolean.toString) = some Y.2.2.1 := (F.2.2.2.2.2.1.2 1 (Y.2.2.1, .boolean) rfl).2
  have e3 : cA = Y.2.2.1 := Option.some.inj (e1.symm.trans e2)
  subst e3
  exact kk q H1 locs ls hP1 hD1 hS1 hl
theorem n_newQ (F : FxN Y X cc own nL lev mc ms) {v : Int32} {k idx : Nat} (hu : Cond.classLink own idx RX2 ∈ lw_u) (hv : ¬ v < 0) (hk : v.toNatClampNeg = k) (hb : k * 4 ≤ 536870912) (hc : c + 1 ≤ mc) (hn : n + k ≤ ms) (d : decode cc pc = .ok (.anewarray idx, 3)) (kk : ∀ q : Nat, N l Y X nL (pc + 3) lv (.ref q :: st) (c0 :: (r ++ [(q, .inl (Y.2.2.2.1, k, .inr (.inr (.inr (.inr (fun _ => none))))))])) (c + 1) (n + k)) : N l Y X nL pc lv (.int v :: st) (c0 :: r) c n := fun H locs ls hP hD hS hl => by
  have h10 := F.2.2.2.2.2.2.2.2.2
  refine va_newq (C := RX2) F.1 F.2.1 F.2.2.2.1 (F.2.2.2.2.1 _ hu) h10.2.2.2.1 F.2.2.2.2.2.1 hP hD hS F.2.2.2.2.2.2.1 hv hk hb (Nat.le_trans hc h10.1) (Nat.le_trans hn h10.2.1) d (fun q cA H1 hK1 hP1 hD1 hS1 => ?_)
  obtain ⟨_, _, _, _, _, e1⟩ : va_RA X.2.2.2.1 cA (.object RX2) := (hK1.2 4 (cA, .object RX2) rfl).2
  obtain ⟨_, _, _, _, _, e2⟩ : va_RA X.2.2.2.1 Y.2.2.2.1 (.object RX2) := (F.2.2.2.2.2.1.2 2 (Y.2.2.2.1, .object RX2) rfl).2
  have e3 : cA = Y.2.2.2.1 := Option.some.inj (e1.symm.trans e2)
  subst e3
  exact kk q H1 locs ls hP1 hD1 hS1 hl
/-- a new object: its fields hold the defaults -/
theorem n_new (F : FxN Y X cc own nL lev mc ms) {ci k idx : Nat} {C : String} {T : u_T} {ty : Nat → FieldType} {fs : List Value} (hC : CL ci C T k) (hty : ∀ j, j < k → parseFieldDescriptor (T j).2.2.1 = some (ty j)) (hfs : ∀ j, j < k → defaultValue (ty j) = vp_V fs j) (hu : Cond.classLink own idx C ∈ lw_u) (hi : Cond.instantiable C k ∈ lw_u) (hini : Cond.initialized C ∈ lw_u) (hc : c + 1 ≤ mc) (hn : n + k ≤ ms) (d : decode cc pc = .ok (.new idx, 3)) (kk : ∀ q : Nat, N l Y X nL (pc + 3) lv (.ref q :: st) (ws ++ [(q, .inr (ci, fs))]) (c + 1) (n + k)) : N l Y X nL pc lv st ws c n := fun H locs ls hP hD hS hl => by
  have h10 := F.2.2.2.2.2.2.2.2.2
  exact va_new (ci := ci) (fs := fs) (C := C) (T := T) (N := k) F.1 F.2.1 F.2.2.2.2.1 hC.2.2.1 ty hty F.2.2.2.1 (F.2.2.2.2.1 _ hu) (F.2.2.2.2.1 _ hi) (F.2.2.2.2.1 _ hini) F.2.2.2.2.2.1 hP hD hS F.2.2.2.2.2.2.1 hC.2.1 hfs (Nat.le_trans hc h10.1) (Nat.le_trans hn h10.2.1) d (fun q H1 hP1 hD1 hS1 => kk q H1 locs ls hP1 hD1 hS1 hl)
theorem n_putF (F : FxN Y X cc own nL lev mc ms) {h0 ci k idx : Nat} {C : String} {T : u_T} {fs : List Value} {v : Value} {ty : FieldType} (hC : CL ci C T k) (hin : X.2.2.2.2.2.2.2.1.name = "<init>") (j : Nat) (hj : j < k) (hu : Cond.fieldLink own idx (T j).1 (T j).2.1 (T j).2.2.1 ∈ lw_u) (hfin : (T j).2.2.2 = true) (hdecl : (T j).1 = own) (hd : parseFieldDescriptor (T j).2.2.1 = some ty) (hn : narrow ty v = v) (hfit : fits ty v = true) (hlen : j < fs.length) (d : decode cc pc = .ok (.putfield idx, 3)) (kk : N l Y X nL (pc + 3) lv st ((h0, .inr (ci, fs.set j v)) :: r) c n) : N l Y X nL pc lv (v :: .ref h0 :: st) ((h0, .inr (ci, fs)) :: r) c n := fun H locs ls hP hD hS hl => by
  obtain ⟨ty0, hty⟩ := hC.2.2.2.1
  exact va_putF (D := Y.1) (ci := ci) (v := v) (ty := ty) (C := C) (T := T) (N := k) F.1 F.2.1 F.2.2.2.2.1 hC.2.2.1 ty0 hty hC.2.2.2.2 F.2.2.2.1 F.2.2.2.2.2.1 hP hD hS 0 rfl hC.2.1 j hj (F.2.2.2.2.1 _ hu) (fun _ h => h) hfin hin hdecl hd hn hfit hlen d (fun H1 locs1 hP1 hD1 hS1 => kk H1 locs1 ls hP1 hD1 hS1 hl)
theorem n_put (F : FxN Y X cc own nL lev mc ms) {h0 ci k idx : Nat} {C : String} {T : u_T} {fs : List Value} {v : Value} {ty : FieldType} (hC : CL ci C T k) (j : Nat) (hj : j < k) (hu : Cond.fieldLink own idx (T j).1 (T j).2.1 (T j).2.2.1 ∈ lw_u) (hfin : (T j).2.2.2 = false) (hd : parseFieldDescriptor (T j).2.2.1 = some ty) (hn : narrow ty v = v) (hfit : fits ty v = true) (hlen : j < fs.length) (d : decode cc pc = .ok (.putfield idx, 3)) (kk : N l Y X nL (pc + 3) lv st ((h0, .inr (ci, fs.set j v)) :: r) c n) : N l Y X nL pc lv (v :: .ref h0 :: st) ((h0, .inr (ci, fs)) :: r) c n := fun H locs ls hP hD hS hl => by
  obtain ⟨ty0, hty⟩ := hC.2.2.2.1
  exact va_put (D := Y.1) (ci := ci) (v := v) (ty := ty) (C := C) (T := T) (N := k) F.1 F.2.1 F.2.2.2.2.1 hC.2.2.1 ty0 hty hC.2.2.2.2 F.2.2.2.1 F.2.2.2.2.2.1 hP hD hS 0 rfl hC.2.1 j hj (F.2.2.2.2.1 _ hu) (fun _ h => h) hfin hd hn hfit hlen d (fun H1 locs1 hP1 hD1 hS1 => kk H1 locs1 ls hP1 hD1 hS1 hl)
theorem n_get (F : FxN Y X cc own nL lev mc ms) {h0 ci k idx : Nat} {C : String} {T : u_T} {fs : List Value} {v : Value} (hC : CL ci C T k) (j : Nat) (hj : j < k) (hu : Cond.fieldLink own idx (T j).1 (T j).2.1 (T j).2.2.1 ∈ lw_u) (hv : fs[j]? = some v) (d : decode cc pc = .ok (.getfield idx, 3)) (kk : N l Y X nL (pc + 3) lv (v :: st) ((h0, .inr (ci, fs)) :: r) c n) : N l Y X nL pc lv (.ref h0 :: st) ((h0, .inr (ci, fs)) :: r) c n := fun H locs ls hP hD hS hl => 
  va_get (D := Y.1) (ci := ci) (v := v) (C := C) (T := T) (N := k) F.1 F.2.1 F.2.2.2.2.1 hC.2.2.1 F.2.2.2.1 F.2.2.2.2.2.1 hP 0 rfl hC.2.1 j hj (F.2.2.2.2.1 _ hu) (fun _ h => h) hv d (kk H locs ls hP hD hS hl)
/-- an object of Now goes into the array of Nows at place q0 -/
theorem n_astq (F : FxN Y X cc own nL lev mc ms) {a b k : Nat} {f : Nat → Option Nat} {vs : List Value} {i : Int32} (q0 qk : Nat) (ha : ws[q0]? = some (a, .inl (Y.2.2.2.1, k, .inr (.inr (.inr (.inr f)))))) (hv : ws[qk]? = some (b, .inr (2, vs))) (hin : vp_in i k) (d : decode cc pc = .ok (.aastore, 1)) (kk : N l Y X nL (pc + 1) lv st (ws.set q0 (a, .inl (Y.2.2.2.1, k, .inr (.inr (.inr (.inr (va_up f i.toNatClampNeg (some b)))))))) c n) : N l Y X nL pc lv (.ref b :: .int i :: .ref a :: st) ws c n := fun H locs ls hP hD hS hl =>
  va_astq (r := (RX2, TX2, 5)) F.1 F.2.1 F.2.2.2.2.2.1 hP hD hS q0 2 qk 2 ha rfl hv rfl hin d (fun H1 locs1 hP1 hD1 hS1 => kk H1 locs1 ls hP1 hD1 hS1 hl)
end NR
/-! contracts of constructors -/
def rmN (lev mc ms : Nat) : Room := { frames := lev, cells := mc, slots := ms, locals := 40 * lev }
def PcN (Y : NV) (h0 ci : Nat) (fs : List Value) (sz : Nat) : Array Value → State → Prop := va_Pc [.ref h0] (fun U => U.heap.size = sz ∧ va_P Y.1 vwCl [(h0, .inr (ci, fs))] U.heap ∧ va_K Y.1 vwCl (tyC Y) U ∧ va_D (fun _ => True) [(h0, .inr (ci, fs))] ∧ Nst U)
def BN (Y : NV) (A : Nat → Prop) : va_W → State → Prop := fun w t => va_P Y.1 vwCl w t.heap ∧ va_D A w
def Cn (y : MethodName) (cc : ByteArray) (maxL lev mc ms : Nat) (l : Launch) (Y : NV) (ci : Nat) (fs : List Value) (post : Nat → va_W → Prop) : Prop :=
  ∀ h0 sz, Met l y (wsM y cc maxL none) (rmN lev mc ms) (PcN Y h0 ci fs sz) (va_Qv (post h0) (BN Y (va_A [(h0, .inr (ci, fs))] sz)) (va_A [(h0, .inr (ci, fs))] sz)) mc ms (va_A [(h0, .inr (ci, fs))] sz)
theorem Nst.same {u U : State} (h : u.vm = U.vm) (q : Nst u) : Nst U := ⟨fun own idx y hm => va_Nw.same rfl h (q.1 own idx y hm), va_AO.moved (h ▸ Vm.Alike.refl _) q.2.1, AOI.moved (h ▸ Vm.Alike.refl _) q.2.2⟩
theorem PcN_blind {Y : NV} {h0 ci sz : Nat} {fs : List Value} : FrameBlind (PcN Y h0 ci fs sz) := fun a U g mk q => by
  obtain ⟨q0, q1, qP, qK, qD, qN⟩ := q
  exact ⟨q0, q1, qP, va_K.moved (u := U) (U := U.calling g mk a) (Vm.Alike.refl U.vm) qK, qD, Nst.same (u := U) (U := U.calling g mk a) rfl qN⟩
/-- behind a constructor: the other cells, and what it made -/
theorem n_join {Y : NV} {A0 : Nat → Prop} {wr w1 : va_W} {x : Nat × va_E} {H H1 : Heap} (hP : va_P Y.1 vwCl (wr ++ [x]) H) (hD : va_D A0 (wr ++ [x])) (hk : ∀ q : Nat, q < H.size → ¬ va_A [x] H.size q → H1[q]? = H[q]?) (hF : ∀ q, va_A [x] H.size q → A0 q) (hP1 : va_P Y.1 vwCl w1 H1) (hD1 : va_D (va_A [x] H.size) w1) : va_P Y.1 vwCl (wr ++ w1) H1 ∧ va_D A0 (wr ++ w1) := by
  have hwr : ∀ (k : Nat) (q : Nat × va_E), wr[k]? = some q → (wr ++ [x])[k]? = some q := fun k q h => by
    rw [List.getElem?_append_left (List.getElem?_eq_some_iff.mp h).1]; exact h
  have hx : (wr ++ [x])[wr.length]? = some x := by simp
  have ap : ∀ (k : Nat) (q : Nat × va_E), wr[k]? = some q → q.1 < H.size ∧ ¬ va_A [x] H.size q.1 := fun k q h => by
    have h1 := (hP k q (hwr k q h)).lt
    refine ⟨h1, fun z => ?_⟩
    rcases z with ⟨i, e, z⟩ | z
    · have hi : i < 1 := (List.getElem?_eq_some_iff.mp z).1
      have h0 : i = 0 := by omega
      subst h0
      have z1 : x = (q.1, e) := Option.some.inj z
      have h2 := hD.1 k wr.length q x (hwr k q h) hx (by rw [z1])
      have h3 := (List.getElem?_eq_some_iff.mp h).1
      omega
    · omega
  refine ⟨va_P.app (va_P.kept (fun k q h => hP k q (hwr k q h)) (fun k q h => hk q.1 (ap k q h).1 (ap k q h).2)) hP1, va_D.app ⟨fun i j p q h1 h2 h3 => hD.1 i j p q (hwr i p h1) (hwr j q h2) h3, fun k q h => hD.2 k q (hwr k q h)⟩ (hD1.weaken (fun _ _ _ h => hF _ h)) (fun i j p q h1 h2 h3 => ?_)⟩
  have h4 := hD1.2 j q h2
  rw [← h3] at h4
  exact (ap i p h1).2 h4
section NC
variable {l : Launch} {Y : NV} {X : Mx} {cc : ByteArray} {own : String} {nL lev pc mc ms c n : Nat} {lv lv' : List (Nat × Value)} {st : List Value} {ws r : va_W} {c0 : Nat × va_E}
theorem n_free (F : FxN Y X cc own nL lev mc ms) {H : Heap} {locs : List Loc} {x : Nat × va_E} (hD : va_D X.2.2.2.2.2.2.2.2.2.2.2 (ws ++ [x])) (hS : va_S X.2.2.2.2.2.2.2.2.2.2.2 X.2.2.2.1.heap H locs) : ∀ q, va_A [x] H.size q → X.2.2.2.2.2.2.2.2.2.2.2 q := by
  intro q h
  rcases h with ⟨i, e, h⟩ | h
  · have hi : i < 1 := (List.getElem?_eq_some_iff.mp h).1
    have h0 : i = 0 := by omega
    subst h0
    have z1 : x = (q, e) := Option.some.inj h
    exact hD.2 ws.length (q, e) (by rw [z1]; simp)
  · exact F.2.2.2.2.2.2.1 q (Nat.le_trans hS.1 h)
theorem n_pre (F : FxN Y X cc own nL lev mc ms) {H : Heap} {b ci : Nat} {fs : List Value} (hP : va_P Y.1 vwCl (ws ++ [(b, .inr (ci, fs))]) H) : ∀ U : State, U.heap = H → X.2.2.2.1.WarmedH U.vm → PcN Y b ci fs H.size [Value.ref b].toArray U := fun U hU hW => by
  refine ⟨rfl, by rw [hU], ?_, va_K.moved hW.alike F.2.2.2.2.2.1, ⟨fun i j p q h1 h2 _ => ?_, fun _ _ _ => trivial⟩, ?_⟩
  · rw [hU]
    intro k q hk
    have hi : k < 1 := (List.getElem?_eq_some_iff.mp hk).1
    have h0 : k = 0 := by omega
    subst h0
    exact hP ws.length q (by rw [← hk]; simp)
  · have hi : i < 1 := (List.getElem?_eq_some_iff.mp h1).1
    have hj : j < 1 := (List.getElem?_eq_some_iff.mp h2).1
    omega
  · have hN := F.2.2.2.2.2.2.2.2.2.2.2
    exact ⟨fun own idx y hm => va_Nw.warmM hW (hN.1 own idx y hm), va_AO.moved hW.alike hN.2.1, AOI.moved hW.alike hN.2.2⟩
theorem n_call (F : FxN Y X cc own nL lev mc ms) {y : MethodName} {bytes : ByteArray} {maxL lev2 idx b ci mc2 ms2 : Nat} {fs : List Value} {post : Nat → va_W → Prop} (hM : Cn y bytes maxL lev2 mc2 ms2 l Y ci fs post) (hm : MVb y bytes maxL none 0 ∧ Cond.instanceMethod y ∈ lw_u ∧ y.name = "<init>") (hu : Cond.methodLink own idx y ∈ lw_u) (hl : lev2 < lev) (hc : c + mc2 ≤ mc) (hn : n + ms2 ≤ ms) (hst : (st.map fun v => v.category).sum ≤ 8) (d : decode cc pc = .ok (.invokespecial idx, 3)) (kk : ∀ w, post b w → N l Y X nL (pc + 3) lv st (ws ++ w) (c + mc2) (n + ms2)) : N l Y X nL pc lv (.ref b :: st) (ws ++ [(b, .inr (ci, fs))]) c n := fun H locs ls hP hD hS hl' => by
  have h9 := F.2.2.2.2.2.2.2.2.1
  have h10 := F.2.2.2.2.2.2.2.2.2
  have h5 := hm.1.2.2.1
  have hf := n_free F hD hS
  refine va_callv (va_runI (As := []) (rest := st) ⟨F.1, F.2.1, F.2.2.1, F.2.2.2.1, F.2.2.2.2.1⟩ (hM b H.size) (cwI 0 F.2.2.2.2.1 (goodM hm.1.1) rfl rfl rfl (F.2.2.2.2.1 _ hm.1.2.1) (F.2.2.2.2.1 _ hu) (F.2.2.2.2.1 _ hm.2.1) hm.2.2 ⟨hm.1.2.2.2.2.1, hm.1.2.2.2.2.2.1, hm.1.2.2.2.2.2.2⟩ ⟨by show lev2 + 1 ≤ _; omega, by show 8 + (maxL + 11) + 40 * lev2 ≤ _; omega⟩) ⟨PcN_blind, n_pre F hP⟩ rfl rfl hl'.1 rfl (lv_room hst) d ⟨Nat.le_trans hc h10.1, Nat.le_trans hn h10.2.1⟩) hS (fun q _ h => hf q h) hf (fun w t H1 locs1 ht hvm hw hB hz hk hS1 => ?_)
  obtain ⟨hP1, hD1⟩ := hB
  rw [ht] at hP1
  obtain ⟨hP2, hD2⟩ := n_join hP hD hk hf hP1 hD1
  exact kk w hw H1 locs1 ls hP2 hD2 hS1 hl'
theorem n_callN (F : FxN Y X cc own nL lev mc ms) {y : MethodName} {bytes : ByteArray} {maxL lev2 idx b ci mc2 ms2 : Nat} {fs : List Value} {post : Nat → va_W → Prop} (hM : Cn y bytes maxL lev2 mc2 ms2 l Y ci fs post) (hm : MVb y bytes maxL none 0 ∧ Cond.instanceMethod y ∈ lw_u ∧ y.name = "<init>") (hu : Cond.methodLinkNest own idx y "AskedMaps" ∈ lw_tbl) (hl : lev2 < lev) (hc : c + mc2 ≤ mc) (hn : n + ms2 ≤ ms) (hst : (st.map fun v => v.category).sum ≤ 8) (d : decode cc pc = .ok (.invokespecial idx, 3)) (kk : ∀ w, post b w → N l Y X nL (pc + 3) lv st (ws ++ w) (c + mc2) (n + ms2)) : N l Y X nL pc lv (.ref b :: st) (ws ++ [(b, .inr (ci, fs))]) c n := fun H locs ls hP hD hS hl' => by
  have h9 := F.2.2.2.2.2.2.2.2.1
  have h10 := F.2.2.2.2.2.2.2.2.2
  have h5 := hm.1.2.2.1
  have hf := n_free F hD hS
  refine va_callv (va_runIN (As := []) (rest := st) ⟨F.1, F.2.1, F.2.2.1, F.2.2.2.1, F.2.2.2.2.1⟩ (hM b H.size) ⟨va_cnB 0 F.2.2.2.2.1 (goodM hm.1.1) rfl rfl rfl (h10.2.2.1 own idx y hu) (F.2.2.2.2.1 _ hm.1.2.1) ⟨hm.1.2.2.2.2.1, hm.1.2.2.2.2.2.1, hm.1.2.2.2.2.2.2⟩ ⟨by show lev2 + 1 ≤ _; omega, by show 8 + (maxL + 11) + 40 * lev2 ≤ _; omega⟩, hm.2.2, F.2.2.2.2.1 _ hm.2.1⟩ ⟨PcN_blind, n_pre F hP⟩ rfl rfl hl'.1 rfl (lv_room hst) d ⟨Nat.le_trans hc h10.1, Nat.le_trans hn h10.2.1⟩) hS (fun q _ h => hf q h) hf (fun w t H1 locs1 ht hvm hw hB hz hk hS1 => ?_)
  obtain ⟨hP1, hD1⟩ := hB
  rw [ht] at hP1
  obtain ⟨hP2, hD2⟩ := n_join hP hD hk hf hP1 hD1
  exact kk w hw H1 locs1 ls hP2 hD2 hS1 hl'
/-- over a finished world the rows G serve -/
theorem n_of_g {Ds : List Sh} {a : Nat → Nat} {σ : St} (F : FxN Y X cc own nL lev mc ms) (hw : ws = wld (Y.1, Ds, a, Y.2) σ) (hc : c ≤ mc) (hn : n ≤ ms) (k : Fx (Y.1, Ds, a, Y.2) (X.1, X.2.1, X.2.2.1, X.2.2.2.1, X.2.2.2.2.1, X.2.2.2.2.2.1, X.2.2.2.2.2.2.1, X.2.2.2.2.2.2.2.1, X.2.2.2.2.2.2.2.2.1, (c, n), X.2.2.2.2.2.2.2.2.2.2.1, X.2.2.2.2.2.2.2.2.2.2.2) cc own nL lev → G l (Y.1, Ds, a, Y.2) (X.1, X.2.1, X.2.2.1, X.2.2.2.1, X.2.2.2.2.1, X.2.2.2.2.2.1, X.2.2.2.2.2.2.1, X.2.2.2.2.2.2.2.1, X.2.2.2.2.2.2.2.2.1, (c, n), X.2.2.2.2.2.2.2.2.2.2.1, X.2.2.2.2.2.2.2.2.2.2.2) nL pc lv st σ) : N l Y X nL pc lv st ws c n := fun H locs ls hP hD hS hl => by
  subst hw
  have h10 := F.2.2.2.2.2.2.2.2.2
  exact k ⟨F.1, F.2.1, F.2.2.1, F.2.2.2.1, F.2.2.2.2.1, F.2.2.2.2.2.1, fun _ => wld_D hD, F.2.2.2.2.2.2.1, F.2.2.2.2.2.2.2.1, F.2.2.2.2.2.2.2.2.1, Nat.le_trans hc h10.1, Nat.le_trans hn h10.2.1⟩ H locs ls hP hS hl
def RtN (l : Launch) (Y : NV) (X : Mx) (nL : Nat) (cc : ByteArray) (mc ms : Nat) (post : va_W → Prop) : Prop := ∀ (pc : Nat) (lv : List (Nat × Value)) (ws : va_W) (c n : Nat), decode cc pc = .ok (.return_, 1) → c ≤ mc → n ≤ ms → post ws → N l Y X nL pc lv [] ws c n
theorem Cn.of {y : MethodName} {maxL ci : Nat} {fs : List Value} {post : Nat → va_W → Prop} (hm : MVb y cc maxL none 0 ∧ Cond.instanceMethod y ∈ lw_u ∧ y.name = "<init>") (h1 : 1 ≤ maxL) (body : ∀ (X : Mx) (h0 : Nat), FxN Y X cc y.cls maxL lev mc ms → X.2.2.2.2.2.2.2.1.name = "<init>" → RtN l Y X maxL cc mc ms (post h0) → N l Y X maxL 0 [(0, .ref h0)] [] [(h0, .inr (ci, fs))] 0 0) : Cn y cc maxL lev mc ms l Y ci fs post := by
  intro h0 sz
  refine Met.ofW (cc := cc) (maxL := maxL) (ret := none) hm.1.2.2.2.1 rfl ?_
  intro p e s m args below meth c s₁ B hml hv
  obtain ⟨rfl, hsz, hP, hK, hD, hN⟩ := hv
  subst hsz
  rw [lg_entry_eq]
  refine body (p, e, (headSpec (wsM y cc maxL none) (rmN lev mc ms)).room, s, m, [Value.ref h0].toArray, below, meth, c, (0, 0), MQ below (va_Qv (post h0) (BN Y (va_A [(h0, .inr (ci, fs))] s.heap.size)) (va_A [(h0, .inr (ci, fs))] s.heap.size)) [Value.ref h0].toArray s mc ms (va_A [(h0, .inr (ci, fs))] s.heap.size), va_A [(h0, .inr (ci, fs))] s.heap.size) h0
    ⟨B.exec, B.bytes, hml, findClass_of_methodNamed B.named, fun w hw => atoms_spec (ws := wsM y cc maxL none) B.pre w (List.mem_cons_of_mem _ hw), hK, fun q h => Or.inr h, B.notSynchronized, ⟨Nat.le_refl _, Nat.le_refl _⟩, Nat.le_refl _, Nat.le_refl _, hN⟩
    ((name_of_methodNamed B.named B.method).1.trans hm.2.2) ?_ s.heap [] _ hP hD.self va_S.rf (lv_entry [.ref h0] h1)
  intro pc lv ws c1 n1 d hc hn hq H locs ls hP1 hD1 hS1 hl1
  exact W.widen hc hn (W.vret B.exec B.bytes B.returns (fun t ht _ => ⟨⟨ws, rfl, hq, by show va_P _ _ _ t.heap; rw [ht]; exact hP1, hD1⟩, hS1.F ht⟩) hS1.2.2 d B.notSynchronized)
end NC
