/-! THE WALK OVER THE STATE. G: from every heap that holds the state the machine comes to Q. Rows: an instruction each. -/
abbrev Mx : Type := Program × Env × Room × State × MethodId × Array Value × List Frame × Method × Code × (Nat × Nat) × (State → Prop) × (Nat → Prop)
def G (l : Launch) (V : Wv) (X : Mx) (nL pc : Nat) (lv : List (Nat × Value)) (st : List Value) (σ : St) : Prop :=
  ∀ (H : Heap) (locs : List Loc) (ls : Array Slot), va_P V.1 vwCl (wld V σ) H → va_S X.2.2.2.2.2.2.2.2.2.2.2 X.2.2.2.1.heap H locs → lv_has ls nL lv →
    W X.1 l X.2.1 X.2.2.1 X.2.2.2.1 X.2.2.2.2.1 X.2.2.2.2.2.1 X.2.2.2.2.2.2.1 X.2.2.2.2.2.2.2.1 X.2.2.2.2.2.2.2.2.1 H locs X.2.2.2.2.2.2.2.2.2.1.1 X.2.2.2.2.2.2.2.2.2.1.2 X.2.2.2.2.2.2.2.2.2.2.1 (F0 X.2.2.2.2.1 pc ls st)
/-- what is fixed while a method runs: machine, code, tables, room -/
def Fx (V : Wv) (X : Mx) (cc : ByteArray) (own : String) (nL lev : Nat) : Prop :=
  X.1.tables.exec = Jvm.exec ∧ X.2.2.2.2.2.2.2.2.1.code = cc ∧ X.2.2.2.2.2.2.2.2.1.maxLocals = nL ∧ X.2.2.2.1.vm.findClass own = some X.2.2.2.2.1.cls ∧ (∀ w ∈ lw_u, w.before X.2.2.2.2.2.1 X.2.2.2.1 = true) ∧
  va_K V.1 vwCl (tyL V) X.2.2.2.1 ∧ (∀ σ, va_D X.2.2.2.2.2.2.2.2.2.2.2 (wld V σ)) ∧ (∀ q, X.2.2.2.1.heap.size ≤ q → X.2.2.2.2.2.2.2.2.2.2.2 q) ∧ X.2.2.2.2.2.2.2.1.locks = false ∧
  (lev ≤ X.2.2.1.frames ∧ 40 * lev ≤ X.2.2.1.locals) ∧ X.2.2.2.2.2.2.2.2.2.1.1 ≤ X.2.2.1.cells ∧ X.2.2.2.2.2.2.2.2.2.1.2 ≤ X.2.2.1.slots
section GR
variable {l : Launch} {V : Wv} {X : Mx} {cc : ByteArray} {own : String} {nL lev pc : Nat} {lv lv' : List (Nat × Value)} {st : List Value} {σ τ : St}
theorem g_pc {pc' : Nat} (h : pc = pc') (k : G l V X nL pc' lv st σ) : G l V X nL pc lv st σ := h ▸ k
theorem g_lv (h : lv = lv') (k : G l V X nL pc lv' st σ) : G l V X nL pc lv st σ := h ▸ k
theorem g_weak (ks : List Nat) (h : lv_pick lv ks = lv') (k : G l V X nL pc lv' st σ) : G l V X nL pc lv st σ := fun H locs ls hP hS hl => k H locs ls hP hS (lv_sub hl ks h)
theorem g_iconst (F : Fx V X cc own nL lev) {n : Int} {v : Int32} (d : decode cc pc = .ok (.iconst n, 1)) (hv : Int32.ofInt n = v) (k : G l V X nL (pc + 1) lv (.int v :: st) σ) : G l V X nL pc lv st σ := fun H locs ls hP hS hl => lv_iconst F.1 F.2.1 d hv (k H locs ls hP hS hl)
theorem g_bipush (F : Fx V X cc own nL lev) {n : Int} {v : Int32} (d : decode cc pc = .ok (.bipush n, 2)) (hv : (Int8.ofInt n).toInt32 = v) (k : G l V X nL (pc + 2) lv (.int v :: st) σ) : G l V X nL pc lv st σ := fun H locs ls hP hS hl => lv_bipush F.1 F.2.1 d hv (k H locs ls hP hS hl)
theorem g_sipush (F : Fx V X cc own nL lev) {n : Int} {v : Int32} (d : decode cc pc = .ok (.sipush n, 3)) (hv : (Int16.ofInt n).toInt32 = v) (k : G l V X nL (pc + 3) lv (.int v :: st) σ) : G l V X nL pc lv st σ := fun H locs ls hP hS hl => lv_sipush F.1 F.2.1 d hv (k H locs ls hP hS hl)
theorem g_ldc (F : Fx V X cc own nL lev) {i : Nat} {v : Int32} (d : decode cc pc = .ok (.ldc i, 2)) (hu : Cond.constant own i v ∈ lw_u) (k : G l V X nL (pc + 2) lv (.int v :: st) σ) : G l V X nL pc lv st σ := fun H locs ls hP hS hl => lv_ldc F.1 F.2.1 F.2.2.2.1 (F.2.2.2.2.1 _ hu) d (k H locs ls hP hS hl)
theorem g_ldcw (F : Fx V X cc own nL lev) {i : Nat} {v : Int32} (d : decode cc pc = .ok (.ldc_w i, 3)) (hu : Cond.constant own i v ∈ lw_u) (k : G l V X nL (pc + 3) lv (.int v :: st) σ) : G l V X nL pc lv st σ := fun H locs ls hP hS hl => lv_ldcw F.1 F.2.1 F.2.2.2.1 (F.2.2.2.2.1 _ hu) d (k H locs ls hP hS hl)
theorem g_ldc2 (F : Fx V X cc own nL lev) {i : Nat} {v : Int64} (d : decode cc pc = .ok (.ldc2_w i, 3)) (hu : Cond.constantLong own i v ∈ lw_u) (k : G l V X nL (pc + 3) lv (.long v :: st) σ) : G l V X nL pc lv st σ := fun H locs ls hP hS hl => lv_ldc2 F.1 F.2.1 F.2.2.2.1 (F.2.2.2.2.1 _ hu) d (k H locs ls hP hS hl)
theorem g_iload_n (F : Fx V X cc own nL lev) {f : Fin 4} {i : Nat} {x : Int32} (d : decode cc pc = .ok (.iload_n f, 1)) (hi : (f : Nat) = i) (n : Nat) (h : lv[n]? = some (i, .int x)) (k : G l V X nL (pc + 1) lv (.int x :: st) σ) : G l V X nL pc lv st σ := fun H locs ls hP hS hl => lv_iload_n F.1 F.2.1 d hi (lv_at hl n h) (k H locs ls hP hS hl)
theorem g_iload (F : Fx V X cc own nL lev) {i : Nat} {x : Int32} (d : decode cc pc = .ok (.iload i, 2)) (n : Nat) (h : lv[n]? = some (i, .int x)) (k : G l V X nL (pc + 2) lv (.int x :: st) σ) : G l V X nL pc lv st σ := fun H locs ls hP hS hl => lv_iload F.1 F.2.1 d (lv_at hl n h) (k H locs ls hP hS hl)
theorem g_lload_n (F : Fx V X cc own nL lev) {f : Fin 4} {i : Nat} {x : Int64} (d : decode cc pc = .ok (.lload_n f, 1)) (hi : (f : Nat) = i) (n : Nat) (h : lv[n]? = some (i, .long x)) (k : G l V X nL (pc + 1) lv (.long x :: st) σ) : G l V X nL pc lv st σ := fun H locs ls hP hS hl => lv_lload_n F.1 F.2.1 d hi (lv_at hl n h) (k H locs ls hP hS hl)
theorem g_lload (F : Fx V X cc own nL lev) {i : Nat} {x : Int64} (d : decode cc pc = .ok (.lload i, 2)) (n : Nat) (h : lv[n]? = some (i, .long x)) (k : G l V X nL (pc + 2) lv (.long x :: st) σ) : G l V X nL pc lv st σ := fun H locs ls hP hS hl => lv_lload F.1 F.2.1 d (lv_at hl n h) (k H locs ls hP hS hl)
theorem g_aload_n (F : Fx V X cc own nL lev) {f : Fin 4} {i : Nat} {a : Nat} (d : decode cc pc = .ok (.aload_n f, 1)) (hi : (f : Nat) = i) (n : Nat) (h : lv[n]? = some (i, rf V a)) (k : G l V X nL (pc + 1) lv (rf V a :: st) σ) : G l V X nL pc lv st σ := fun H locs ls hP hS hl => lv_aload_n F.1 F.2.1 d hi (lv_at hl n h) (k H locs ls hP hS hl)
theorem g_aload (F : Fx V X cc own nL lev) {i : Nat} {a : Nat} (d : decode cc pc = .ok (.aload i, 2)) (n : Nat) (h : lv[n]? = some (i, rf V a)) (k : G l V X nL (pc + 2) lv (rf V a :: st) σ) : G l V X nL pc lv st σ := fun H locs ls hP hS hl => lv_aload F.1 F.2.1 d (lv_at hl n h) (k H locs ls hP hS hl)
theorem g_istore_n (F : Fx V X cc own nL lev) {f : Fin 4} {i : Nat} {x : Int32} (d : decode cc pc = .ok (.istore_n f, 1)) (hi : (f : Nat) = i) (hn : i < nL) (h : (i, Value.int x) :: lv.filter (fun q => !(q.1 == i) && !(q.1 + 1 == i && q.2.category == 2)) = lv') (k : G l V X nL (pc + 1) lv' st σ) : G l V X nL pc lv (.int x :: st) σ := fun H locs ls hP hS hl => lv_istore_n F.1 F.2.1 d hi hl hn h (fun ls' hl' => k H locs ls' hP hS hl')
theorem g_istore (F : Fx V X cc own nL lev) {i : Nat} {x : Int32} (d : decode cc pc = .ok (.istore i, 2)) (hn : i < nL) (h : (i, Value.int x) :: lv.filter (fun q => !(q.1 == i) && !(q.1 + 1 == i && q.2.category == 2)) = lv') (k : G l V X nL (pc + 2) lv' st σ) : G l V X nL pc lv (.int x :: st) σ := fun H locs ls hP hS hl => lv_istore F.1 F.2.1 d hl hn h (fun ls' hl' => k H locs ls' hP hS hl')
theorem g_astore_n (F : Fx V X cc own nL lev) {f : Fin 4} {i a : Nat} (d : decode cc pc = .ok (.astore_n f, 1)) (hi : (f : Nat) = i) (hn : i < nL) (h : (i, rf V a) :: lv.filter (fun q => !(q.1 == i) && !(q.1 + 1 == i && q.2.category == 2)) = lv') (k : G l V X nL (pc + 1) lv' st σ) : G l V X nL pc lv (rf V a :: st) σ := fun H locs ls hP hS hl => lv_astore_n F.1 F.2.1 d hi hl hn h (fun ls' hl' => k H locs ls' hP hS hl')
theorem g_lstore_n (F : Fx V X cc own nL lev) {f : Fin 4} {i : Nat} {x : Int64} (d : decode cc pc = .ok (.lstore_n f, 1)) (hi : (f : Nat) = i) (hn : i + 1 < nL) (h : (i, Value.long x) :: lv.filter (fun q => !(q.1 == i) && (!(q.1 == i + 1) && !(q.1 + 1 == i && q.2.category == 2))) = lv') (k : G l V X nL (pc + 1) lv' st σ) : G l V X nL pc lv (.long x :: st) σ := fun H locs ls hP hS hl => lv_lstore_n F.1 F.2.1 d hi hl hn h (fun ls' hl' => k H locs ls' hP hS hl')
theorem g_iinc (F : Fx V X cc own nL lev) {i : Nat} {m : Int} {x v : Int32} (d : decode cc pc = .ok (.iinc i m, 3)) (n : Nat) (h0 : lv[n]? = some (i, .int x)) (hv : x + Int32.ofInt m = v) (hn : i < nL) (h : (i, Value.int v) :: lv.filter (fun q => !(q.1 == i) && !(q.1 + 1 == i && q.2.category == 2)) = lv') (k : G l V X nL (pc + 3) lv' st σ) : G l V X nL pc lv st σ := fun H locs ls hP hS hl => lv_iinc F.1 F.2.1 d hl h0 hv hn h (fun ls' hl' => k H locs ls' hP hS hl')
theorem g_iadd (F : Fx V X cc own nL lev) {x y : Int32} (d : decode cc pc = .ok (.iadd, 1)) (k : G l V X nL (pc + 1) lv (.int (x + y) :: st) σ) : G l V X nL pc lv (.int y :: .int x :: st) σ := fun H locs ls hP hS hl => lv_iadd F.1 F.2.1 d (k H locs ls hP hS hl)
theorem g_isub (F : Fx V X cc own nL lev) {x y : Int32} (d : decode cc pc = .ok (.isub, 1)) (k : G l V X nL (pc + 1) lv (.int (x - y) :: st) σ) : G l V X nL pc lv (.int y :: .int x :: st) σ := fun H locs ls hP hS hl => lv_isub F.1 F.2.1 d (k H locs ls hP hS hl)
theorem g_imul (F : Fx V X cc own nL lev) {x y : Int32} (d : decode cc pc = .ok (.imul, 1)) (k : G l V X nL (pc + 1) lv (.int (x * y) :: st) σ) : G l V X nL pc lv (.int y :: .int x :: st) σ := fun H locs ls hP hS hl => lv_imul F.1 F.2.1 d (k H locs ls hP hS hl)
theorem g_idiv (F : Fx V X cc own nL lev) {x y : Int32} (d : decode cc pc = .ok (.idiv, 1)) (hy : ¬ y = 0) (k : G l V X nL (pc + 1) lv (.int (x / y) :: st) σ) : G l V X nL pc lv (.int y :: .int x :: st) σ := fun H locs ls hP hS hl => lv_idiv F.1 F.2.1 d hy (k H locs ls hP hS hl)
theorem g_irem (F : Fx V X cc own nL lev) {x y : Int32} (d : decode cc pc = .ok (.irem, 1)) (hy : ¬ y = 0) (k : G l V X nL (pc + 1) lv (.int (x - x / y * y) :: st) σ) : G l V X nL pc lv (.int y :: .int x :: st) σ := fun H locs ls hP hS hl => lv_irem F.1 F.2.1 d hy (k H locs ls hP hS hl)
theorem g_iand (F : Fx V X cc own nL lev) {x y : Int32} (d : decode cc pc = .ok (.iand, 1)) (k : G l V X nL (pc + 1) lv (.int (x &&& y) :: st) σ) : G l V X nL pc lv (.int y :: .int x :: st) σ := fun H locs ls hP hS hl => lv_iand F.1 F.2.1 d (k H locs ls hP hS hl)
theorem g_ior (F : Fx V X cc own nL lev) {x y : Int32} (d : decode cc pc = .ok (.ior, 1)) (k : G l V X nL (pc + 1) lv (.int (x ||| y) :: st) σ) : G l V X nL pc lv (.int y :: .int x :: st) σ := fun H locs ls hP hS hl => lv_ior F.1 F.2.1 d (k H locs ls hP hS hl)
theorem g_ixor (F : Fx V X cc own nL lev) {x y : Int32} (d : decode cc pc = .ok (.ixor, 1)) (k : G l V X nL (pc + 1) lv (.int (x ^^^ y) :: st) σ) : G l V X nL pc lv (.int y :: .int x :: st) σ := fun H locs ls hP hS hl => lv_ixor F.1 F.2.1 d (k H locs ls hP hS hl)
theorem g_ishl (F : Fx V X cc own nL lev) {x y : Int32} (d : decode cc pc = .ok (.ishl, 1)) (k : G l V X nL (pc + 1) lv (.int (x <<< (y &&& 31)) :: st) σ) : G l V X nL pc lv (.int y :: .int x :: st) σ := fun H locs ls hP hS hl => lv_ishl F.1 F.2.1 d (k H locs ls hP hS hl)
theorem g_ishr (F : Fx V X cc own nL lev) {x y : Int32} (d : decode cc pc = .ok (.ishr, 1)) (k : G l V X nL (pc + 1) lv (.int (x >>> (y &&& 31)) :: st) σ) : G l V X nL pc lv (.int y :: .int x :: st) σ := fun H locs ls hP hS hl => lv_ishr F.1 F.2.1 d (k H locs ls hP hS hl)
theorem g_iushr (F : Fx V X cc own nL lev) {x y : Int32} (d : decode cc pc = .ok (.iushr, 1)) (k : G l V X nL (pc + 1) lv (.int ((x.toUInt32 >>> (y.toUInt32 &&& Int32.toUInt32 31)).toInt32) :: st) σ) : G l V X nL pc lv (.int y :: .int x :: st) σ := fun H locs ls hP hS hl => lv_iushr F.1 F.2.1 d rfl (k H locs ls hP hS hl)
theorem g_ladd (F : Fx V X cc own nL lev) {x y : Int64} (d : decode cc pc = .ok (.ladd, 1)) (k : G l V X nL (pc + 1) lv (.long (x + y) :: st) σ) : G l V X nL pc lv (.long y :: .long x :: st) σ := fun H locs ls hP hS hl => lv_ladd F.1 F.2.1 d (k H locs ls hP hS hl)
theorem g_land (F : Fx V X cc own nL lev) {x y : Int64} (d : decode cc pc = .ok (.land, 1)) (k : G l V X nL (pc + 1) lv (.long (x &&& y) :: st) σ) : G l V X nL pc lv (.long y :: .long x :: st) σ := fun H locs ls hP hS hl => lv_land F.1 F.2.1 d (k H locs ls hP hS hl)
theorem g_lor (F : Fx V X cc own nL lev) {x y : Int64} (d : decode cc pc = .ok (.lor, 1)) (k : G l V X nL (pc + 1) lv (.long (x ||| y) :: st) σ) : G l V X nL pc lv (.long y :: .long x :: st) σ := fun H locs ls hP hS hl => lv_lor F.1 F.2.1 d (k H locs ls hP hS hl)
theorem g_lshl (F : Fx V X cc own nL lev) {x : Int64} {y : Int32} (d : decode cc pc = .ok (.lshl, 1)) (k : G l V X nL (pc + 1) lv (.long (x <<< (y.toInt64 &&& 63)) :: st) σ) : G l V X nL pc lv (.int y :: .long x :: st) σ := fun H locs ls hP hS hl => lv_lshl F.1 F.2.1 d rfl (k H locs ls hP hS hl)
theorem g_lshr (F : Fx V X cc own nL lev) {x : Int64} {y : Int32} (d : decode cc pc = .ok (.lshr, 1)) (k : G l V X nL (pc + 1) lv (.long (x >>> (y.toInt64 &&& 63)) :: st) σ) : G l V X nL pc lv (.int y :: .long x :: st) σ := fun H locs ls hP hS hl => lv_lshr F.1 F.2.1 d rfl (k H locs ls hP hS hl)
theorem g_lcmp (F : Fx V X cc own nL lev) {x y : Int64} (d : decode cc pc = .ok (.lcmp, 1)) (k : G l V X nL (pc + 1) lv (.int (lg_cmp x y) :: st) σ) : G l V X nL pc lv (.long y :: .long x :: st) σ := fun H locs ls hP hS hl => W.lcmp F.1 F.2.1 d (k H locs ls hP hS hl)
theorem g_lconst (F : Fx V X cc own nL lev) {n : Fin 2} {v : Int64} (d : decode cc pc = .ok (.lconst n, 1)) (hv : Int64.ofNat (n : Nat) = v) (k : G l V X nL (pc + 1) lv (.long v :: st) σ) : G l V X nL pc lv st σ := fun H locs ls hP hS hl => lv_lconst F.1 F.2.1 d hv (k H locs ls hP hS hl)
theorem g_dup (F : Fx V X cc own nL lev) {v : Value} (d : decode cc pc = .ok (.dup, 1)) (hc : v.category = 1) (k : G l V X nL (pc + 1) lv (v :: v :: st) σ) : G l V X nL pc lv (v :: st) σ := fun H locs ls hP hS hl => lv_dup F.1 F.2.1 d hc (k H locs ls hP hS hl)
theorem g_dup2 (F : Fx V X cc own nL lev) {v w : Value} (d : decode cc pc = .ok (.dup2, 1)) (hc : v.category = 1) (hd : w.category = 1) (k : G l V X nL (pc + 1) lv (v :: w :: v :: w :: st) σ) : G l V X nL pc lv (v :: w :: st) σ := fun H locs ls hP hS hl => lv_dup2_11 F.1 F.2.1 d hc hd (k H locs ls hP hS hl)
theorem g_pop (F : Fx V X cc own nL lev) {v : Value} (d : decode cc pc = .ok (.pop, 1)) (hc : v.category = 1) (k : G l V X nL (pc + 1) lv st σ) : G l V X nL pc lv (v :: st) σ := fun H locs ls hP hS hl => lv_pop F.1 F.2.1 d hc (k H locs ls hP hS hl)
theorem g_goto (F : Fx V X cc own nL lev) {o : Int} (t : Nat) (d : decode cc pc = .ok (.goto o, 3)) (ht : (pc : Int) + o = (t : Int)) (k : G l V X nL t lv st σ) : G l V X nL pc lv st σ := fun H locs ls hP hS hl => lv_goto F.1 F.2.1 d ht (k H locs ls hP hS hl)
theorem g_if_eq (F : Fx V X cc own nL lev) {x : Int32} {o : Int} (t : Nat) (d : decode cc pc = .ok (.ifCond .eq o, 3)) (ht : (pc : Int) + o = (t : Int)) (k : x = 0 → G l V X nL t lv st σ) (k' : ¬ x = 0 → G l V X nL (pc + 3) lv st σ) : G l V X nL pc lv (.int x :: st) σ := fun H locs ls hP hS hl => lv_if_eq F.1 F.2.1 d ht (fun c => k c H locs ls hP hS hl) (fun c => k' c H locs ls hP hS hl)
theorem g_if_ne (F : Fx V X cc own nL lev) {x : Int32} {o : Int} (t : Nat) (d : decode cc pc = .ok (.ifCond .ne o, 3)) (ht : (pc : Int) + o = (t : Int)) (k : ¬ x = 0 → G l V X nL t lv st σ) (k' : x = 0 → G l V X nL (pc + 3) lv st σ) : G l V X nL pc lv (.int x :: st) σ := fun H locs ls hP hS hl => lv_if_ne F.1 F.2.1 d ht (fun c => k c H locs ls hP hS hl) (fun c => k' c H locs ls hP hS hl)
theorem g_if_lt (F : Fx V X cc own nL lev) {x : Int32} {o : Int} (t : Nat) (d : decode cc pc = .ok (.ifCond .lt o, 3)) (ht : (pc : Int) + o = (t : Int)) (k : x < 0 → G l V X nL t lv st σ) (k' : ¬ x < 0 → G l V X nL (pc + 3) lv st σ) : G l V X nL pc lv (.int x :: st) σ := fun H locs ls hP hS hl => lv_if_lt F.1 F.2.1 d ht (fun c => k c H locs ls hP hS hl) (fun c => k' c H locs ls hP hS hl)
theorem g_if_ge (F : Fx V X cc own nL lev) {x : Int32} {o : Int} (t : Nat) (d : decode cc pc = .ok (.ifCond .ge o, 3)) (ht : (pc : Int) + o = (t : Int)) (k : 0 ≤ x → G l V X nL t lv st σ) (k' : ¬ 0 ≤ x → G l V X nL (pc + 3) lv st σ) : G l V X nL pc lv (.int x :: st) σ := fun H locs ls hP hS hl => lv_if_ge F.1 F.2.1 d ht (fun c => k c H locs ls hP hS hl) (fun c => k' c H locs ls hP hS hl)
theorem g_if_gt (F : Fx V X cc own nL lev) {x : Int32} {o : Int} (t : Nat) (d : decode cc pc = .ok (.ifCond .gt o, 3)) (ht : (pc : Int) + o = (t : Int)) (k : 0 < x → G l V X nL t lv st σ) (k' : ¬ 0 < x → G l V X nL (pc + 3) lv st σ) : G l V X nL pc lv (.int x :: st) σ := fun H locs ls hP hS hl => lv_if_gt F.1 F.2.1 d ht (fun c => k c H locs ls hP hS hl) (fun c => k' c H locs ls hP hS hl)
theorem g_if_le (F : Fx V X cc own nL lev) {x : Int32} {o : Int} (t : Nat) (d : decode cc pc = .ok (.ifCond .le o, 3)) (ht : (pc : Int) + o = (t : Int)) (k : x ≤ 0 → G l V X nL t lv st σ) (k' : ¬ x ≤ 0 → G l V X nL (pc + 3) lv st σ) : G l V X nL pc lv (.int x :: st) σ := fun H locs ls hP hS hl => lv_if_le F.1 F.2.1 d ht (fun c => k c H locs ls hP hS hl) (fun c => k' c H locs ls hP hS hl)
theorem g_icmp_eq (F : Fx V X cc own nL lev) {x y : Int32} {o : Int} (t : Nat) (d : decode cc pc = .ok (.if_icmp .eq o, 3)) (ht : (pc : Int) + o = (t : Int)) (k : x = y → G l V X nL t lv st σ) (k' : ¬ x = y → G l V X nL (pc + 3) lv st σ) : G l V X nL pc lv (.int y :: .int x :: st) σ := fun H locs ls hP hS hl => lv_icmp_eq F.1 F.2.1 d ht (fun c => k c H locs ls hP hS hl) (fun c => k' c H locs ls hP hS hl)
theorem g_icmp_ne (F : Fx V X cc own nL lev) {x y : Int32} {o : Int} (t : Nat) (d : decode cc pc = .ok (.if_icmp .ne o, 3)) (ht : (pc : Int) + o = (t : Int)) (k : ¬ x = y → G l V X nL t lv st σ) (k' : x = y → G l V X nL (pc + 3) lv st σ) : G l V X nL pc lv (.int y :: .int x :: st) σ := fun H locs ls hP hS hl => lv_icmp_ne F.1 F.2.1 d ht (fun c => k c H locs ls hP hS hl) (fun c => k' c H locs ls hP hS hl)
theorem g_icmp_lt (F : Fx V X cc own nL lev) {x y : Int32} {o : Int} (t : Nat) (d : decode cc pc = .ok (.if_icmp .lt o, 3)) (ht : (pc : Int) + o = (t : Int)) (k : x < y → G l V X nL t lv st σ) (k' : ¬ x < y → G l V X nL (pc + 3) lv st σ) : G l V X nL pc lv (.int y :: .int x :: st) σ := fun H locs ls hP hS hl => lv_icmp_lt F.1 F.2.1 d ht (fun c => k c H locs ls hP hS hl) (fun c => k' c H locs ls hP hS hl)
theorem g_icmp_ge (F : Fx V X cc own nL lev) {x y : Int32} {o : Int} (t : Nat) (d : decode cc pc = .ok (.if_icmp .ge o, 3)) (ht : (pc : Int) + o = (t : Int)) (k : y ≤ x → G l V X nL t lv st σ) (k' : ¬ y ≤ x → G l V X nL (pc + 3) lv st σ) : G l V X nL pc lv (.int y :: .int x :: st) σ := fun H locs ls hP hS hl => lv_icmp_ge F.1 F.2.1 d ht (fun c => k c H locs ls hP hS hl) (fun c => k' c H locs ls hP hS hl)
theorem g_icmp_gt (F : Fx V X cc own nL lev) {x y : Int32} {o : Int} (t : Nat) (d : decode cc pc = .ok (.if_icmp .gt o, 3)) (ht : (pc : Int) + o = (t : Int)) (k : y < x → G l V X nL t lv st σ) (k' : ¬ y < x → G l V X nL (pc + 3) lv st σ) : G l V X nL pc lv (.int y :: .int x :: st) σ := fun H locs ls hP hS hl => lv_icmp_gt F.1 F.2.1 d ht (fun c => k c H locs ls hP hS hl) (fun c => k' c H locs ls hP hS hl)
theorem g_icmp_le (F : Fx V X cc own nL lev) {x y : Int32} {o : Int} (t : Nat) (d : decode cc pc = .ok (.if_icmp .le o, 3)) (ht : (pc : Int) + o = (t : Int)) (k : x ≤ y → G l V X nL t lv st σ) (k' : ¬ x ≤ y → G l V X nL (pc + 3) lv st σ) : G l V X nL pc lv (.int y :: .int x :: st) σ := fun H locs ls hP hS hl => lv_icmp_le F.1 F.2.1 d ht (fun c => k c H locs ls hP hS hl) (fun c => k' c H locs ls hP hS hl)
end GR
/-! memory -/
def CL (ci : Nat) (C : String) (T : u_T) (N : Nat) : Prop := ci < 11 ∧ vwCl[ci]? = some (C, T, N) ∧ (∀ w ∈ u_ws C T N, w ∈ lw_u) ∧ (∃ ty0 : Nat → FieldType, ∀ k, k < N → parseFieldDescriptor (T k).2.2.1 = some (ty0 k)) ∧ (∀ a, a < N → ∀ b, b < N → a ≠ b → (T a).2.1 ≠ (T b).2.1)
theorem clX0 : CL 0 RX0 TX0 3 := ⟨by decide, rfl, cwX0, ⟨tyX0, tyX0_ok⟩, nmX0⟩
theorem clX1 : CL 1 RX1 TX1 6 := ⟨by decide, rfl, cwX1, ⟨tyX1, tyX1_ok⟩, nmX1⟩
theorem clX2 : CL 2 RX2 TX2 5 := ⟨by decide, rfl, cwX2, ⟨tyX2, tyX2_ok⟩, nmX2⟩
theorem clX3 : CL 3 RX3 TX3 3 := ⟨by decide, rfl, cwX3, ⟨tyX3, tyX3_ok⟩, nmX3⟩
theorem clX4 : CL 4 RX4 TX4 9 := ⟨by decide, rfl, cwX4, ⟨tyX4, tyX4_ok⟩, nmX4⟩
theorem clX5 : CL 5 RX5 TX5 4 := ⟨by decide, rfl, cwX5, ⟨tyX5, tyX5_ok⟩, nmX5⟩
theorem clX6 : CL 6 RX6 TX6 7 := ⟨by decide, rfl, cwX6, ⟨tyX6, tyX6_ok⟩, nmX6⟩
theorem clX7 : CL 7 RX7 TX7 6 := ⟨by decide, rfl, cwX7, ⟨tyX7, tyX7_ok⟩, nmX7⟩
theorem clX8 : CL 8 RX8 TX8 8 := ⟨by decide, rfl, cwX8, ⟨tyX8, tyX8_ok⟩, nmX8⟩
theorem clX9 : CL 9 RX9 TX9 14 := ⟨by decide, rfl, cwX9, ⟨tyX9, tyX9_ok⟩, nmX9⟩
theorem clX10 : CL 10 RX10 TX10 35 := ⟨by decide, rfl, cwX10, ⟨tyX10, tyX10_ok⟩, nmX10⟩
section GM
variable {l : Launch} {V : Wv} {X : Mx} {cc : ByteArray} {own : String} {nL lev pc : Nat} {lv lv' : List (Nat × Value)} {st : List Value} {σ τ : St}
theorem wld_obj {k ci : Nat} {fc : List Nat} (h : V.2.1[k]? = some (ci, fc)) (hci : ci < 11) : (wld V σ)[k]? = some (V.2.2.1 k, .inr (ci, flds V σ k 0 fc)) := by
  rw [wld_get h, celE, if_pos hci]
theorem wld_int {k n : Nat} (h : V.2.1[k]? = some (11, [n])) : (wld V σ)[k]? = some (V.2.2.1 k, .inl (V.2.2.2.1, n, .inl (σ.1 k))) := by
  rw [wld_get h]; rfl
theorem wld_bool {k n : Nat} (h : V.2.1[k]? = some (12, [n])) : (wld V σ)[k]? = some (V.2.2.1 k, .inl (V.2.2.2.2.1, n, .inl (σ.1 k))) := by
  rw [wld_get h]; rfl
theorem g_get (F : Fx V X cc own nL lev) {k j ci idx N : Nat} {fc : List Nat} {C : String} {T : u_T} {v : Value} (hC : CL ci C T N) (hsh : V.2.1[k]? = some (ci, fc)) (hv : (flds V σ k 0 fc)[j]? = some v) (hjN : j < N) (hu : Cond.fieldLink own idx (T j).1 (T j).2.1 (T j).2.2.1 ∈ lw_u) (d : decode cc pc = .ok (.getfield idx, 3)) (kk : G l V X nL (pc + 3) lv (v :: st) σ) : G l V X nL pc lv (rf V k :: st) σ := fun H locs ls hP hS hl =>
  va_get F.1 F.2.1 F.2.2.2.2.1 hC.2.2.1 F.2.2.2.1 F.2.2.2.2.2.1 hP k (wld_obj hsh hC.1) hC.2.1 j hjN (F.2.2.2.2.1 _ hu) (fun _ h => h) hv d (kk H locs ls hP hS hl)
theorem g_getI (F : Fx V X cc own nL lev) {k ci idx N : Nat} {fc : List Nat} {C : String} {T : u_T} (hC : CL ci C T N) (hsh : V.2.1[k]? = some (ci, fc)) (j : Nat) (hj : fc[j]? = some 0) (hjN : j < N) (hu : Cond.fieldLink own idx (T j).1 (T j).2.1 (T j).2.2.1 ∈ lw_u) (d : decode cc pc = .ok (.getfield idx, 3)) (kk : G l V X nL (pc + 3) lv (.int (σ.1 k j) :: st) σ) : G l V X nL pc lv (rf V k :: st) σ :=
  g_get F hC hsh (by rw [flds_get fc 0 j 0 hj, Nat.zero_add]; rfl) hjN hu d kk
theorem g_getL (F : Fx V X cc own nL lev) {k ci idx N : Nat} {fc : List Nat} {C : String} {T : u_T} (hC : CL ci C T N) (hsh : V.2.1[k]? = some (ci, fc)) (j : Nat) (hj : fc[j]? = some 1) (hjN : j < N) (hu : Cond.fieldLink own idx (T j).1 (T j).2.1 (T j).2.2.1 ∈ lw_u) (d : decode cc pc = .ok (.getfield idx, 3)) (kk : G l V X nL (pc + 3) lv (.long (σ.2.1 k) :: st) σ) : G l V X nL pc lv (rf V k :: st) σ :=
  g_get F hC hsh (by rw [flds_get fc 0 j 1 hj]; rfl) hjN hu d kk
theorem g_getG (F : Fx V X cc own nL lev) {k ci idx N : Nat} {fc : List Nat} {C : String} {T : u_T} (hC : CL ci C T N) (hsh : V.2.1[k]? = some (ci, fc)) (j : Nat) (hj : fc[j]? = some 2) (hjN : j < N) (hu : Cond.fieldLink own idx (T j).1 (T j).2.1 (T j).2.2.1 ∈ lw_u) (d : decode cc pc = .ok (.getfield idx, 3)) (kk : G l V X nL (pc + 3) lv (rf V σ.2.2.1 :: st) σ) : G l V X nL pc lv (rf V k :: st) σ :=
  g_get F hC hsh (by rw [flds_get fc 0 j 2 hj]; rfl) hjN hu d kk
theorem g_getH (F : Fx V X cc own nL lev) {k ci idx N : Nat} {fc : List Nat} {C : String} {T : u_T} (hC : CL ci C T N) (hsh : V.2.1[k]? = some (ci, fc)) (j : Nat) (hj : fc[j]? = some 3) (hjN : j < N) (hu : Cond.fieldLink own idx (T j).1 (T j).2.1 (T j).2.2.1 ∈ lw_u) (d : decode cc pc = .ok (.getfield idx, 3)) (kk : G l V X nL (pc + 3) lv (rf V σ.2.2.2 :: st) σ) : G l V X nL pc lv (rf V k :: st) σ :=
  g_get F hC hsh (by rw [flds_get fc 0 j 3 hj]; rfl) hjN hu d kk
theorem g_getR (F : Fx V X cc own nL lev) {k ci idx N : Nat} {fc : List Nat} {C : String} {T : u_T} (hC : CL ci C T N) (hsh : V.2.1[k]? = some (ci, fc)) (j n : Nat) (hj : fc[j]? = some (n + 4)) (hjN : j < N) (hu : Cond.fieldLink own idx (T j).1 (T j).2.1 (T j).2.2.1 ∈ lw_u) (d : decode cc pc = .ok (.getfield idx, 3)) (kk : G l V X nL (pc + 3) lv (rf V n :: st) σ) : G l V X nL pc lv (rf V k :: st) σ :=
  g_get F hC hsh (by rw [flds_get fc 0 j (n + 4) hj]; rfl) hjN hu d kk
theorem g_put (F : Fx V X cc own nL lev) {k j ci idx N : Nat} {fc : List Nat} {C : String} {T : u_T} {v : Value} {ty : FieldType} (hC : CL ci C T N) (hsh : V.2.1[k]? = some (ci, fc)) (hw : wld V τ = (wld V σ).set k (V.2.2.1 k, .inr (ci, (flds V σ k 0 fc).set j v))) (hjl : j < fc.length) (hjN : j < N) (hfin : (T j).2.2.2 = false) (hty : parseFieldDescriptor (T j).2.2.1 = some ty) (hn : narrow ty v = v) (hfit : fits ty v = true) (hu : Cond.fieldLink own idx (T j).1 (T j).2.1 (T j).2.2.1 ∈ lw_u) (d : decode cc pc = .ok (.putfield idx, 3)) (kk : G l V X nL (pc + 3) lv st τ) : G l V X nL pc lv (v :: rf V k :: st) σ := fun H locs ls hP hS hl => by
  obtain ⟨ty0, hty0⟩ := hC.2.2.2.1
  refine va_put F.1 F.2.1 F.2.2.2.2.1 hC.2.2.1 ty0 hty0 hC.2.2.2.2 F.2.2.2.1 F.2.2.2.2.2.1 hP (F.2.2.2.2.2.2.1 σ) hS k (wld_obj hsh hC.1) hC.2.1 j hjN (F.2.2.2.2.1 _ hu) (fun _ h => h) hfin hty hn hfit (by rw [flds_length]; exact hjl) d (fun H1 locs1 h1 _ h3 => ?_)
  rw [← hw] at h1
  exact kk H1 locs1 ls h1 h3 hl
theorem wld_putI {k j ci : Nat} {fc : List Nat} {x : Int32} (hsh : V.2.1[k]? = some (ci, fc)) (hci : ci < 11) (hj : fc[j]? = some 0) : wld V (stI σ k j x) = (wld V σ).set k (V.2.2.1 k, .inr (ci, (flds V σ k 0 fc).set j (.int x))) := by
  rw [wld_set (σ := σ) (τ := stI σ k j x) hsh (fun a h => up_ne h) (fun a _ => rfl) rfl, celE, if_pos hci]
  congr 3
  have hl : j < fc.length := (List.getElem?_eq_some_iff.mp hj).1
  refine congrArg _ (flds_put fc hl (fun cd hcd => ?_) (fun i cd hi hcd => ?_))
  · rw [hj] at hcd; cases hcd
    show Value.int ((stI σ k j x).1 k j) = _
    simp [stI, up_eq, upd]
  · match cd with
    | 0 => simp [fldV, stI, up_eq, upd, hi]
    | 1 => rfl
    | 2 => rfl
    | 3 => rfl
    | n + 4 => rfl
theorem g_putI (F : Fx V X cc own nL lev) {k ci idx N : Nat} {fc : List Nat} {C : String} {T : u_T} {x : Int32} (hC : CL ci C T N) (hsh : V.2.1[k]? = some (ci, fc)) (j : Nat) (hj : fc[j]? = some 0) (hjN : j < N) (hfin : (T j).2.2.2 = false) (hty : parseFieldDescriptor (T j).2.2.1 = some .int) (hu : Cond.fieldLink own idx (T j).1 (T j).2.1 (T j).2.2.1 ∈ lw_u) (d : decode cc pc = .ok (.putfield idx, 3)) (kk : G l V X nL (pc + 3) lv st (stI σ k j x)) : G l V X nL pc lv (.int x :: rf V k :: st) σ :=
  g_put F hC hsh (wld_putI hsh hC.1 hj) (List.getElem?_eq_some_iff.mp hj).1 hjN hfin hty (vp_nar_int x) rfl hu d kk
theorem g_putZ (F : Fx V X cc own nL lev) {k ci idx N : Nat} {fc : List Nat} {C : String} {T : u_T} {x : Int32} (hC : CL ci C T N) (hsh : V.2.1[k]? = some (ci, fc)) (j : Nat) (hj : fc[j]? = some 0) (hjN : j < N) (hfin : (T j).2.2.2 = false) (hty : parseFieldDescriptor (T j).2.2.1 = some .boolean) (hn : narrow .boolean (.int x) = .int x) (hfit : fits .boolean (.int x) = true) (hu : Cond.fieldLink own idx (T j).1 (T j).2.1 (T j).2.2.1 ∈ lw_u) (d : decode cc pc = .ok (.putfield idx, 3)) (kk : G l V X nL (pc + 3) lv st (stI σ k j x)) : G l V X nL pc lv (.int x :: rf V k :: st) σ :=
  g_put F hC hsh (wld_putI hsh hC.1 hj) (List.getElem?_eq_some_iff.mp hj).1 hjN hfin hty hn hfit hu d kk
/-- one long field an object -/
theorem g_putL (F : Fx V X cc own nL lev) {k ci idx N : Nat} {fc : List Nat} {C : String} {T : u_T} {x : Int64} (hC : CL ci C T N) (hsh : V.2.1[k]? = some (ci, fc)) (j : Nat) (hj : fc[j]? = some 1) (hone : ∀ i : Nat, fc[i]? = some 1 → i = j) (hjN : j < N) (hfin : (T j).2.2.2 = false) (hty : parseFieldDescriptor (T j).2.2.1 = some .long) (hu : Cond.fieldLink own idx (T j).1 (T j).2.1 (T j).2.2.1 ∈ lw_u) (d : decode cc pc = .ok (.putfield idx, 3)) (kk : G l V X nL (pc + 3) lv st (stL σ k x)) : G l V X nL pc lv (.long x :: rf V k :: st) σ := by
  have hl : j < fc.length := (List.getElem?_eq_some_iff.mp hj).1
  refine g_put F hC hsh ?_ hl hjN hfin hty rfl rfl hu d kk
  rw [wld_set (σ := σ) (τ := stL σ k x) hsh (fun a _ => rfl) (fun a h => up_ne h) rfl, celE, if_pos hC.1]
  refine congrArg _ (congrArg _ (congrArg _ (congrArg _ (flds_put fc hl (fun cd hcd => ?_) (fun i cd hi hcd => ?_)))))
  · rw [hj] at hcd; cases hcd
    show Value.long ((stL σ k x).2.1 k) = _
    simp [stL, up_eq]
  · match cd, hcd with
    | 0, _ => rfl
    | 1, hc => exact absurd (hone i hc) hi
    | 2, _ => rfl
    | 3, _ => rfl
    | n + 4, _ => rfl
theorem g_putG (F : Fx V X cc own nL lev) {k ci idx N g : Nat} {fc : List Nat} {C : String} {T : u_T} {cn : String} (hC : CL ci C T N) (hsh : V.2.1[k]? = some (ci, fc)) (j : Nat) (hj : fc[j]? = some 2) (hone : ∀ i : Nat, fc[i]? = some 2 → i = j) (hno : ∀ i q, i ≠ k → V.2.1[i]? = some q → q.1 < 11 → ∀ cd ∈ q.2, cd ≠ 2 ∧ cd ≠ 3) (hjN : j < N) (hfin : (T j).2.2.2 = false) (hty : parseFieldDescriptor (T j).2.2.1 = some (.object cn)) (hu : Cond.fieldLink own idx (T j).1 (T j).2.1 (T j).2.2.1 ∈ lw_u) (d : decode cc pc = .ok (.putfield idx, 3)) (kk : G l V X nL (pc + 3) lv st (stG σ g)) : G l V X nL pc lv (rf V g :: rf V k :: st) σ := by
  have hl : j < fc.length := (List.getElem?_eq_some_iff.mp hj).1
  refine g_put F hC hsh ?_ hl hjN hfin hty rfl rfl hu d kk
  rw [wld_setG (σ := σ) (τ := stG σ g) hsh rfl rfl hno, celE, if_pos hC.1]
  refine congrArg _ (congrArg _ (congrArg _ (congrArg _ (flds_put fc hl (fun cd hcd => ?_) (fun i cd hi hcd => ?_)))))
  · rw [hj] at hcd; cases hcd; rfl
  · match cd, hcd with
    | 0, _ => rfl
    | 1, _ => rfl
    | 2, hc => exact absurd (hone i hc) hi
    | 3, _ => rfl
    | n + 4, _ => rfl
theorem g_putH (F : Fx V X cc own nL lev) {k ci idx N g : Nat} {fc : List Nat} {C : String} {T : u_T} {cn : String} (hC : CL ci C T N) (hsh : V.2.1[k]? = some (ci, fc)) (j : Nat) (hj : fc[j]? = some 3) (hone : ∀ i : Nat, fc[i]? = some 3 → i = j) (hno : ∀ i q, i ≠ k → V.2.1[i]? = some q → q.1 < 11 → ∀ cd ∈ q.2, cd ≠ 2 ∧ cd ≠ 3) (hjN : j < N) (hfin : (T j).2.2.2 = false) (hty : parseFieldDescriptor (T j).2.2.1 = some (.object cn)) (hu : Cond.fieldLink own idx (T j).1 (T j).2.1 (T j).2.2.1 ∈ lw_u) (d : decode cc pc = .ok (.putfield idx, 3)) (kk : G l V X nL (pc + 3) lv st (stH σ g)) : G l V X nL pc lv (rf V g :: rf V k :: st) σ := by
  have hl : j < fc.length := (List.getElem?_eq_some_iff.mp hj).1
  refine g_put F hC hsh ?_ hl hjN hfin hty rfl rfl hu d kk
  rw [wld_setG (σ := σ) (τ := stH σ g) hsh rfl rfl hno, celE, if_pos hC.1]
  refine congrArg _ (congrArg _ (congrArg _ (congrArg _ (flds_put fc hl (fun cd hcd => ?_) (fun i cd hi hcd => ?_)))))
  · rw [hj] at hcd; cases hcd; rfl
  · match cd, hcd with
    | 0, _ => rfl
    | 1, _ => rfl
    | 2, _ => rfl
    | 3, hc => exact absurd (hone i hc) hi
    | n + 4, _ => rfl
theorem g_iald (F : Fx V X cc own nL lev) {k n : Nat} {i : Int32} (hsh : V.2.1[k]? = some (11, [n])) (hin : vp_in i n) (d : decode cc pc = .ok (.iaload, 1)) (kk : G l V X nL (pc + 1) lv (.int (σ.1 k i.toNatClampNeg) :: st) σ) : G l V X nL pc lv (.int i :: rf V k :: st) σ := fun H locs ls hP hS hl =>
  va_iald F.1 F.2.1 F.2.2.2.2.2.1 hP k 0 (wld_int hsh) rfl hin d (kk H locs ls hP hS hl)
theorem g_zald (F : Fx V X cc own nL lev) {k n : Nat} {i : Int32} (hsh : V.2.1[k]? = some (12, [n])) (hin : vp_in i n) (d : decode cc pc = .ok (.baload, 1)) (kk : G l V X nL (pc + 1) lv (.int (σ.1 k i.toNatClampNeg) :: st) σ) : G l V X nL pc lv (.int i :: rf V k :: st) σ := fun H locs ls hP hS hl =>
  va_zald F.1 F.2.1 F.2.2.2.2.2.1 hP k 1 (wld_bool hsh) rfl hin d (kk H locs ls hP hS hl)
theorem wld_stA {k j : Nat} {sh : Sh} {x : Int32} (hsh : V.2.1[k]? = some sh) : wld V (stI σ k j x) = (wld V σ).set k (V.2.2.1 k, celE V (stI σ k j x) k sh) := wld_set hsh (fun a h => up_ne h) (fun a _ => rfl) rfl
theorem g_iast (F : Fx V X cc own nL lev) {k n : Nat} {i x : Int32} (hsh : V.2.1[k]? = some (11, [n])) (hin : vp_in i n) (d : decode cc pc = .ok (.iastore, 1)) (kk : G l V X nL (pc + 1) lv st (stI σ k i.toNatClampNeg x)) : G l V X nL pc lv (.int x :: .int i :: rf V k :: st) σ := fun H locs ls hP hS hl => by
  refine va_iast F.1 F.2.1 F.2.2.2.2.2.1 hP (F.2.2.2.2.2.2.1 σ) hS k 0 (wld_int hsh) rfl hin d (fun H1 locs1 h1 _ h3 => ?_)
  have e := wld_stA (σ := σ) (j := i.toNatClampNeg) (x := x) hsh
  have e2 : celE V (stI σ k i.toNatClampNeg x) k (11, [n]) = .inl (V.2.2.2.1, n, .inl (upd (σ.1 k) i.toNatClampNeg x)) := by
    show (Sum.inl (V.2.2.2.1, n, Sum.inl ((stI σ k i.toNatClampNeg x).1 k)) : va_E) = _
    simp only [stI, up_eq]
  rw [e2] at e
  rw [← e] at h1
  exact kk H1 locs1 ls h1 h3 hl
theorem g_zast (F : Fx V X cc own nL lev) {k n : Nat} {i x : Int32} (hsh : V.2.1[k]? = some (12, [n])) (hin : vp_in i n) (hx : vp_nar .boolean x = x) (d : decode cc pc = .ok (.bastore, 1)) (kk : G l V X nL (pc + 1) lv st (stI σ k i.toNatClampNeg x)) : G l V X nL pc lv (.int x :: .int i :: rf V k :: st) σ := fun H locs ls hP hS hl => by
  refine va_zast F.1 F.2.1 F.2.2.2.2.2.1 hP (F.2.2.2.2.2.2.1 σ) hS k 1 (wld_bool hsh) rfl hin d (fun H1 locs1 h1 _ h3 => ?_)
  rw [hx] at h1
  have e := wld_stA (σ := σ) (j := i.toNatClampNeg) (x := x) hsh
  have e2 : celE V (stI σ k i.toNatClampNeg x) k (12, [n]) = .inl (V.2.2.2.2.1, n, .inl (upd (σ.1 k) i.toNatClampNeg x)) := by
    show (Sum.inl (V.2.2.2.2.1, n, Sum.inl ((stI σ k i.toNatClampNeg x).1 k)) : va_E) = _
    simp only [stI, up_eq]
  rw [e2] at e
  rw [← e] at h1
  exact kk H1 locs1 ls h1 h3 hl
theorem refs_in {n b s : Nat} {i : Int32} (hin : vp_in i n) : va_rf (refs V [n, b, s] i.toNatClampNeg) = rf V (b + s * i.toNatClampNeg) := by
  have hlt : i.toNatClampNeg < n := Nat.not_le.mp fun q => hin (Or.inr q)
  show va_rf (if i.toNatClampNeg < n then some (V.2.2.1 (b + s * i.toNatClampNeg)) else none) = _
  rw [if_pos hlt]; rfl
theorem g_aaldN (F : Fx V X cc own nL lev) {k n b s : Nat} {i : Int32} (hsh : V.2.1[k]? = some (13, [n, b, s])) (hin : vp_in i n) (d : decode cc pc = .ok (.aaload, 1)) (kk : G l V X nL (pc + 1) lv (rf V (b + s * i.toNatClampNeg) :: st) σ) : G l V X nL pc lv (.int i :: rf V k :: st) σ := fun H locs ls hP hS hl => by
  have h0 : (wld V σ)[k]? = some (V.2.2.1 k, .inl (V.2.2.2.2.2.1, n, .inr (.inr (.inr (.inr (refs V [n, b, s])))))) := by rw [wld_get hsh]; rfl
  refine va_aldq F.1 F.2.1 F.2.2.2.2.2.1 hP k 2 h0 rfl hin d ?_
  rw [refs_in hin]
  exact kk H locs ls hP hS hl
theorem g_aaldA (F : Fx V X cc own nL lev) {k n b s : Nat} {i : Int32} (hsh : V.2.1[k]? = some (14, [n, b, s])) (hin : vp_in i n) (d : decode cc pc = .ok (.aaload, 1)) (kk : G l V X nL (pc + 1) lv (rf V (b + s * i.toNatClampNeg) :: st) σ) : G l V X nL pc lv (.int i :: rf V k :: st) σ := fun H locs ls hP hS hl => by
  have h0 : (wld V σ)[k]? = some (V.2.2.1 k, .inl (V.2.2.2.2.2.2, n, .inr (.inr (.inr (.inr (refs V [n, b, s])))))) := by rw [wld_get hsh]; rfl
  have hlt : i.toNatClampNeg < n := Nat.not_le.mp fun q => hin (Or.inr q)
  have ht : (tyL V)[3]? = some (V.2.2.2.2.2.2, FieldType.array .int) := rfl
  refine W.aald (v := va_rf (refs V [n, b, s] i.toNatClampNeg)) (ty := .array .int) F.1 F.2.1 (hP k _ h0) ((F.2.2.2.2.2.1.2 3 _ ht).1 n (fun j => va_rf (refs V [n, b, s] j))) rfl (fun q => by cases q) (by show ¬ (i < 0 ∨ (arrV _ _ _).slots.size ≤ _); rw [arrV_size]; exact hin) (by show (arrV _ _ _).slots[_]? = _; rw [arrV_read _ _ hlt]) rfl rfl d ?_
  rw [refs_in hin]
  exact kk H locs ls hP hS hl
theorem g_alen (F : Fx V X cc own nL lev) {k n : Nat} {v : Int32} (hsh : V.2.1[k]? = some (11, [n])) (hv : Int32.ofNat n = v) (d : decode cc pc = .ok (.arraylength, 1)) (kk : G l V X nL (pc + 1) lv (.int v :: st) σ) : G l V X nL pc lv (rf V k :: st) σ := fun H locs ls hP hS hl =>
  va_alen F.1 F.2.1 F.2.2.2.2.2.1 hP k 0 (wld_int hsh) (ty := .int) rfl hv d (kk H locs ls hP hS hl)
theorem g_copy (F : Fx V X cc own nL lev) {k k2 n0 n1 idx : Nat} {sp dp n : Int32} (hsh : V.2.1[k]? = some (11, [n0])) (hsh2 : V.2.1[k2]? = some (11, [n1])) (h1 : ¬ sp < 0) (h2 : ¬ dp < 0) (h3 : ¬ n < 0) (h4 : sp.toNatClampNeg + n.toNatClampNeg ≤ n0) (h5 : dp.toNatClampNeg + n.toNatClampNeg ≤ n1) (hl1 : 1 ≤ lev) (hst : (st.map fun v => v.category).sum ≤ 8) (hu : Cond.methodLink own idx arraycopyName ∈ lw_u) (d : decode cc pc = .ok (.invokestatic idx, 3)) (kk : G l V X nL (pc + 3) lv st (stC σ k k2 sp.toNatClampNeg dp.toNatClampNeg n.toNatClampNeg)) : G l V X nL pc lv (.int n :: .int dp :: rf V k2 :: .int sp :: rf V k :: st) σ := fun H locs ls hP hS hl => by
  have hw : nativeFrameWords "java/lang/System" "arraycopy" 5 + 11 ≤ 32 := by decide +kernel
  refine va_copyi (ty := .int) F.1 F.2.1 (F.2.2.1.trans hl.1.symm) F.2.2.2.1 (F.2.2.2.2.1 _ hu) (F.2.2.2.2.1 _ unat) (F.2.2.2.2.1 _ ustat_arraycopyName) (F.2.2.2.2.1 _ uiniJ10) F.2.2.2.2.2.1 hP (F.2.2.2.2.2.2.1 σ) hS k k2 0 0 (wld_int hsh) (wld_int hsh2) rfl rfl rfl h1 h2 h3 h4 h5 (fun _ _ => rfl) (Nat.le_trans hl1 F.2.2.2.2.2.2.2.2.2.1.1) (by have := F.2.2.2.2.2.2.2.2.2.1.2; omega) d (fun H1 locs1 g1 _ g3 => ?_)
  have e := wld_set (σ := σ) (τ := stC σ k k2 sp.toNatClampNeg dp.toNatClampNeg n.toNatClampNeg) hsh2 (fun a h => up_ne h) (fun a _ => rfl) rfl
  have e2 : celE V (stC σ k k2 sp.toNatClampNeg dp.toNatClampNeg n.toNatClampNeg) k2 (11, [n1]) = .inl (V.2.2.2.1, n1, .inl (va_cpy (σ.1 k) (σ.1 k2) sp.toNatClampNeg dp.toNatClampNeg n.toNatClampNeg)) := by
    show (Sum.inl (V.2.2.2.1, n1, Sum.inl ((stC σ k k2 sp.toNatClampNeg dp.toNatClampNeg n.toNatClampNeg).1 k2)) : va_E) = _
    simp only [stC, up_eq]
  rw [e2] at e
  rw [← e] at g1
  exact kk H1 locs1 ls g1 g3 hl
end GM
/-! contracts: a method from a state that the world holds to a state that it holds -/
def rmL (k : Nat) : Room := { frames := k, cells := 0, slots := 0, locals := 40 * k }
def wsM (y : MethodName) (cc : ByteArray) (maxL : Nat) (ret : Option FieldType) : List Cond := Cond.code y cc maxL ret :: lw_u
def PcW (V : Wv) (avs : List Value) (σ : St) (sz : Nat) : Array Value → State → Prop := va_Pc avs (fun U => U.heap.size = sz ∧ va_P V.1 vwCl (wld V σ) U.heap ∧ va_K V.1 vwCl (tyL V) U ∧ va_D (fun _ => True) (wld V σ))
def BW (V : Wv) : St → State → Prop := fun τ t => va_P V.1 vwCl (wld V τ) t.heap
def Ci (y : MethodName) (cc : ByteArray) (maxL : Nat) (ret : Option FieldType) (lev : Nat) (l : Launch) (V : Wv) (avs : List Value) (σ : St) (post : Int32 → St → Prop) : Prop :=
  ∀ sz, Met l y (wsM y cc maxL ret) (rmL lev) (PcW V avs σ sz) (va_Qi post (BW V) (va_A (wld V σ) sz)) 0 0 (va_A (wld V σ) sz)
def Cl (y : MethodName) (cc : ByteArray) (maxL : Nat) (lev : Nat) (l : Launch) (V : Wv) (avs : List Value) (σ : St) (post : Int64 → St → Prop) : Prop :=
  ∀ sz, Met l y (wsM y cc maxL (some .long)) (rmL lev) (PcW V avs σ sz) (va_Ql post (BW V) (va_A (wld V σ) sz)) 0 0 (va_A (wld V σ) sz)
def Cv (y : MethodName) (cc : ByteArray) (maxL : Nat) (lev : Nat) (l : Launch) (V : Wv) (avs : List Value) (σ : St) (post : St → Prop) : Prop :=
  ∀ sz, Met l y (wsM y cc maxL none) (rmL lev) (PcW V avs σ sz) (va_Qv post (BW V) (va_A (wld V σ) sz)) 0 0 (va_A (wld V σ) sz)
theorem u_good : ∀ w ∈ lw_u, goodWord w = true := fun w h => (List.mem_filter.mp h).2
theorem goodM {y : MethodName} {cc : ByteArray} {maxL : Nat} {ret : Option FieldType} (h : Cond.code y cc maxL ret ∈ lw_u) : GoodIn lw_u (wsM y cc maxL ret) := by
  intro w hw
  rcases List.mem_cons.mp hw with e | e
  · rw [e]; exact ⟨h, good_of_word (u_good _ h)⟩
  · exact ⟨e, good_of_word (u_good _ e)⟩
theorem PcW_blind {V : Wv} {avs : List Value} {σ : St} {sz : Nat} : FrameBlind (PcW V avs σ sz) := fun a U g mk q => by
  obtain ⟨q0, q1, qP, qK, qD⟩ := q
  exact ⟨q0, q1, qP, va_K.moved (u := U) (U := U.calling g mk a) (Vm.Alike.refl U.vm) qK, qD⟩
/-- what the tables say of a method -/
def MVb (y : MethodName) (cc : ByteArray) (maxL : Nat) (ret : Option FieldType) (n : Nat) : Prop :=
  Cond.code y cc maxL ret ∈ lw_u ∧ Cond.initialized y.cls ∈ lw_u ∧ (maxL ≤ 21 ∧ plainName y.cls = true ∧ y.cls ≠ "java/lang/invoke/MethodHandle" ∧ y.cls ≠ "java/lang/invoke/VarHandle" ∧ (parseMethodDescriptor y.desc).map (fun d => d.parameters.length) = some n)
section GC
variable {l : Launch} {V : Wv} {X : Mx} {cc : ByteArray} {own : String} {nL lev pc : Nat} {lv lv' : List (Nat × Value)} {st : List Value} {σ τ : St}
theorem g_callB (F : Fx V X cc own nL lev) {y : MethodName} {bytes : ByteArray} {maxL lev2 idx n : Nat} {ret : Option FieldType} (hm : MVb y bytes maxL ret n) (hu : Cond.methodLink own idx y ∈ lw_u) (hl : lev2 < lev) : CallB X.2.2.1 X.2.2.2.1 X.2.2.2.2.2.1 own idx y bytes maxL ret (wsM y bytes maxL ret) (rmL lev2) 0 0 n := by
  have h1 := F.2.2.2.2.2.2.2.2.2.1
  exact callB_of n F.2.2.2.2.1 (goodM hm.1) rfl rfl rfl (F.2.2.2.2.1 _ hm.2.1) (F.2.2.2.2.1 _ hu) ⟨hm.2.2.2.2.1, hm.2.2.2.2.2.1, hm.2.2.2.2.2.2⟩ ⟨by show lev2 + 1 ≤ _; omega, by show 8 + (maxL + 11) + 40 * lev2 ≤ _; have := hm.2.2.1; omega⟩
theorem g_free (F : Fx V X cc own nL lev) {H : Heap} {locs : List Loc} (hS : va_S X.2.2.2.2.2.2.2.2.2.2.2 X.2.2.2.1.heap H locs) : ∀ q, va_A (wld V σ) H.size q → X.2.2.2.2.2.2.2.2.2.2.2 q := by
  intro q h
  rcases h with ⟨k, e, h⟩ | h
  · exact (F.2.2.2.2.2.2.1 σ).2 k (q, e) h
  · exact F.2.2.2.2.2.2.2.1 q (Nat.le_trans hS.1 h)
theorem g_pre (F : Fx V X cc own nL lev) {H : Heap} {avs : List Value} (hP : va_P V.1 vwCl (wld V σ) H) : ∀ U : State, U.heap = H → X.2.2.2.1.WarmedH U.vm → PcW V avs σ H.size avs.toArray U := fun U hU hW =>
  ⟨rfl, by rw [hU], by rw [hU]; exact hP, va_K.moved hW.alike F.2.2.2.2.2.1, (F.2.2.2.2.2.2.1 σ).weaken (fun _ _ _ _ => trivial)⟩
theorem g_callVi (F : Fx V X cc own nL lev) {y : MethodName} {bytes : ByteArray} {maxL lev2 idx n k ci N : Nat} {ret : Option FieldType} {As stk : List Value} {fc : List Nat} {T : u_T} {post : Int32 → St → Prop} (hM : Ci y bytes maxL ret lev2 l V (rf V k :: As) σ post) (hm : MVb y bytes maxL ret n ∧ Cond.instanceMethod y ∈ lw_u ∧ Cond.selects y.cls y y ∈ lw_u) (hu : Cond.methodLink own idx y ∈ lw_u) (hl : lev2 < lev) (hC : CL ci y.cls T N) (hsh : V.2.1[k]? = some (ci, fc)) (hn : As.length = n) (hs : stk = As.reverse ++ rf V k :: st) (hst : (st.map fun v => v.category).sum ≤ 8) (d : decode cc pc = .ok (.invokevirtual idx, 3)) (kk : ∀ r τ, post r τ → G l V X nL (pc + 3) lv (.int r :: st) τ) : G l V X nL pc lv stk σ := fun H locs ls hP hS hl' => by
  have hf := F.2.2.2.2.2.2.2.2.2.2
  refine va_calli (va_runV (As := As) (rest := st) ⟨F.1, F.2.1, F.2.2.1, F.2.2.2.1, F.2.2.2.2.1⟩ (hM H.size) ⟨g_callB F hm.1 hu hl, F.2.2.2.2.1 _ hm.2.1, F.2.2.2.2.1 _ hm.2.2⟩ ⟨PcW_blind, va_recv F.2.2.2.2.2.1 hP hC.2.1 (wld_obj hsh hC.1), g_pre F hP⟩ rfl hn hl'.1 hs (lv_room hst) d ⟨hf.1, hf.2⟩) hS (fun q _ h => g_free F hS q h) (g_free F hS) (fun r u t H1 locs1 ht hvm hw hB hz hk hS1 => ?_)
  unfold BW at hB
  rw [ht] at hB
  exact kk r u hw H1 locs1 ls hB hS1 hl'
theorem g_callVl (F : Fx V X cc own nL lev) {y : MethodName} {bytes : ByteArray} {maxL lev2 idx n k ci N : Nat} {As stk : List Value} {fc : List Nat} {T : u_T} {post : Int64 → St → Prop} (hM : Cl y bytes maxL lev2 l V (rf V k :: As) σ post) (hm : MVb y bytes maxL (some .long) n ∧ Cond.instanceMethod y ∈ lw_u ∧ Cond.selects y.cls y y ∈ lw_u) (hu : Cond.methodLink own idx y ∈ lw_u) (hl : lev2 < lev) (hC : CL ci y.cls T N) (hsh : V.2.1[k]? = some (ci, fc)) (hn : As.length = n) (hs : stk = As.reverse ++ rf V k :: st) (hst : (st.map fun v => v.category).sum ≤ 8) (d : decode cc pc = .ok (.invokevirtual idx, 3)) (kk : ∀ r τ, post r τ → G l V X nL (pc + 3) lv (.long r :: st) τ) : G l V X nL pc lv stk σ := fun H locs ls hP hS hl' => by
  have hf := F.2.2.2.2.2.2.2.2.2.2
  refine va_calll (va_runV (As := As) (rest := st) ⟨F.1, F.2.1, F.2.2.1, F.2.2.2.1, F.2.2.2.2.1⟩ (hM H.size) ⟨g_callB F hm.1 hu hl, F.2.2.2.2.1 _ hm.2.1, F.2.2.2.2.1 _ hm.2.2⟩ ⟨PcW_blind, va_recv F.2.2.2.2.2.1 hP hC.2.1 (wld_obj hsh hC.1), g_pre F hP⟩ rfl hn hl'.1 hs (lv_room hst) d ⟨hf.1, hf.2⟩) hS (fun q _ h => g_free F hS q h) (g_free F hS) (fun r u t H1 locs1 ht hvm hw hB hz hk hS1 => ?_)
  unfold BW at hB
  rw [ht] at hB
  exact kk r u hw H1 locs1 ls hB hS1 hl'
theorem g_callVv (F : Fx V X cc own nL lev) {y : MethodName} {bytes : ByteArray} {maxL lev2 idx n k ci N : Nat} {As stk : List Value} {fc : List Nat} {T : u_T} {post : St → Prop} (hM : Cv y bytes maxL lev2 l V (rf V k :: As) σ post) (hm : MVb y bytes maxL none n ∧ Cond.instanceMethod y ∈ lw_u ∧ Cond.selects y.cls y y ∈ lw_u) (hu : Cond.methodLink own idx y ∈ lw_u) (hl : lev2 < lev) (hC : CL ci y.cls T N) (hsh : V.2.1[k]? = some (ci, fc)) (hn : As.length = n) (hs : stk = As.reverse ++ rf V k :: st) (hst : (st.map fun v => v.category).sum ≤ 8) (d : decode cc pc = .ok (.invokevirtual idx, 3)) (kk : ∀ τ, post τ → G l V X nL (pc + 3) lv st τ) : G l V X nL pc lv stk σ := fun H locs ls hP hS hl' => by
  have hf := F.2.2.2.2.2.2.2.2.2.2
  refine va_callv (va_runV (As := As) (rest := st) ⟨F.1, F.2.1, F.2.2.1, F.2.2.2.1, F.2.2.2.2.1⟩ (hM H.size) ⟨g_callB F hm.1 hu hl, F.2.2.2.2.1 _ hm.2.1, F.2.2.2.2.1 _ hm.2.2⟩ ⟨PcW_blind, va_recv F.2.2.2.2.2.1 hP hC.2.1 (wld_obj hsh hC.1), g_pre F hP⟩ rfl hn hl'.1 hs (lv_room hst) d ⟨hf.1, hf.2⟩) hS (fun q _ h => g_free F hS q h) (g_free F hS) (fun u t H1 locs1 ht hvm hw hB hz hk hS1 => ?_)
  unfold BW at hB
  rw [ht] at hB
  exact kk u hw H1 locs1 ls hB hS1 hl'
theorem g_callSi (F : Fx V X cc own nL lev) {y : MethodName} {bytes : ByteArray} {maxL lev2 idx n : Nat} {ret : Option FieldType} {As stk : List Value} {post : Int32 → St → Prop} (hM : Ci y bytes maxL ret lev2 l V As σ post) (hm : MVb y bytes maxL ret n ∧ Cond.static y ∈ lw_u) (hu : Cond.methodLink own idx y ∈ lw_u) (hl : lev2 < lev) (hn : As.length = n) (hs : stk = As.reverse ++ st) (hst : (st.map fun v => v.category).sum ≤ 8) (d : decode cc pc = .ok (.invokestatic idx, 3)) (kk : ∀ r τ, post r τ → G l V X nL (pc + 3) lv (.int r :: st) τ) : G l V X nL pc lv stk σ := fun H locs ls hP hS hl' => by
  have hf := F.2.2.2.2.2.2.2.2.2.2
  refine va_calli (va_runS (As := As) (rest := st) ⟨F.1, F.2.1, F.2.2.1, F.2.2.2.1, F.2.2.2.2.1⟩ (hM H.size) ⟨g_callB F hm.1 hu hl, F.2.2.2.2.1 _ hm.2⟩ ⟨PcW_blind, g_pre F hP⟩ rfl hn hl'.1 hs (lv_room hst) d ⟨hf.1, hf.2⟩) hS (fun q _ h => g_free F hS q h) (g_free F hS) (fun r u t H1 locs1 ht hvm hw hB hz hk hS1 => ?_)
  unfold BW at hB
  rw [ht] at hB
  exact kk r u hw H1 locs1 ls hB hS1 hl'
theorem g_callSv (F : Fx V X cc own nL lev) {y : MethodName} {bytes : ByteArray} {maxL lev2 idx n : Nat} {As stk : List Value} {post : St → Prop} (hM : Cv y bytes maxL lev2 l V As σ post) (hm : MVb y bytes maxL none n ∧ Cond.static y ∈ lw_u) (hu : Cond.methodLink own idx y ∈ lw_u) (hl : lev2 < lev) (hn : As.length = n) (hs : stk = As.reverse ++ st) (hst : (st.map fun v => v.category).sum ≤ 8) (d : decode cc pc = .ok (.invokestatic idx, 3)) (kk : ∀ τ, post τ → G l V X nL (pc + 3) lv st τ) : G l V X nL pc lv stk σ := fun H locs ls hP hS hl' => by
  have hf := F.2.2.2.2.2.2.2.2.2.2
  refine va_callv (va_runS (As := As) (rest := st) ⟨F.1, F.2.1, F.2.2.1, F.2.2.2.1, F.2.2.2.2.1⟩ (hM H.size) ⟨g_callB F hm.1 hu hl, F.2.2.2.2.1 _ hm.2⟩ ⟨PcW_blind, g_pre F hP⟩ rfl hn hl'.1 hs (lv_room hst) d ⟨hf.1, hf.2⟩) hS (fun q _ h => g_free F hS q h) (g_free F hS) (fun u t H1 locs1 ht hvm hw hB hz hk hS1 => ?_)
  unfold BW at hB
  rw [ht] at hB
  exact kk u hw H1 locs1 ls hB hS1 hl'
theorem g_min (F : Fx V X cc own nL lev) {x y : Int32} {idx : Nat} (hl1 : 1 ≤ lev) (hst : (st.map fun v => v.category).sum ≤ 8) (hu : Cond.methodLink own idx Lib.Math.min.name ∈ lw_u) (d : decode cc pc = .ok (.invokestatic idx, 3)) (kk : G l V X nL (pc + 3) lv (.int (if y < x then y else x) :: st) σ) : G l V X nL pc lv (.int y :: .int x :: st) σ := fun H locs ls hP hS hl =>
  va_mmin F.1 F.2.1 (F.2.2.1.trans hl.1.symm) F.2.2.2.1 (F.2.2.2.2.1 _ hu) (F.2.2.2.2.1 _ ustat_Lib_Math_min_name) (F.2.2.2.2.1 _ uiniJ9) (F.2.2.2.2.1 _ ucode_min) (Nat.le_trans hl1 F.2.2.2.2.2.2.2.2.2.1.1) (by have := F.2.2.2.2.2.2.2.2.2.1.2; omega) F.2.2.2.2.2.2.2.2.2.2.1 F.2.2.2.2.2.2.2.2.2.2.2 d (kk H locs ls hP hS hl)
theorem g_max (F : Fx V X cc own nL lev) {x y : Int32} {idx : Nat} (hl1 : 1 ≤ lev) (hst : (st.map fun v => v.category).sum ≤ 8) (hu : Cond.methodLink own idx Lib.Math.max.name ∈ lw_u) (d : decode cc pc = .ok (.invokestatic idx, 3)) (kk : G l V X nL (pc + 3) lv (.int (if x < y then y else x) :: st) σ) : G l V X nL pc lv (.int y :: .int x :: st) σ := fun H locs ls hP hS hl =>
  va_mmax F.1 F.2.1 (F.2.2.1.trans hl.1.symm) F.2.2.2.1 (F.2.2.2.2.1 _ hu) (F.2.2.2.2.1 _ ustat_Lib_Math_max_name) (F.2.2.2.2.1 _ uiniJ9) (F.2.2.2.2.1 _ ucode_max) (Nat.le_trans hl1 F.2.2.2.2.2.2.2.2.2.1.1) (by have := F.2.2.2.2.2.2.2.2.2.1.2; omega) F.2.2.2.2.2.2.2.2.2.2.1 F.2.2.2.2.2.2.2.2.2.2.2 d (kk H locs ls hP hS hl)
theorem g_abs (F : Fx V X cc own nL lev) {x : Int32} {idx : Nat} (hl1 : 1 ≤ lev) (hst : (st.map fun v => v.category).sum ≤ 8) (hu : Cond.methodLink own idx Lib.Math.abs.name ∈ lw_u) (d : decode cc pc = .ok (.invokestatic idx, 3)) (kk : G l V X nL (pc + 3) lv (.int (if 0 ≤ x then x else 0 - x) :: st) σ) : G l V X nL pc lv (.int x :: st) σ := fun H locs ls hP hS hl =>
  va_mabs F.1 F.2.1 (F.2.2.1.trans hl.1.symm) F.2.2.2.1 (F.2.2.2.2.1 _ hu) (F.2.2.2.2.1 _ ustat_Lib_Math_abs_name) (F.2.2.2.2.1 _ uiniJ9) (F.2.2.2.2.1 _ ucode_abs) (Nat.le_trans hl1 F.2.2.2.2.2.2.2.2.2.1.1) (by have := F.2.2.2.2.2.2.2.2.2.1.2; omega) F.2.2.2.2.2.2.2.2.2.2.1 F.2.2.2.2.2.2.2.2.2.2.2 d (kk H locs ls hP hS hl)
end GC
/-! the ends, and the entry -/
def RtI (l : Launch) (V : Wv) (X : Mx) (nL : Nat) (cc : ByteArray) (post : Int32 → St → Prop) : Prop := ∀ (pc : Nat) (lv : List (Nat × Value)) (v : Int32) (σ : St), decode cc pc = .ok (.ireturn, 1) → post v σ → G l V X nL pc lv [.int v] σ
def isB (v : Int32) : Prop := v = 0 ∨ v = 1
def RtZ (l : Launch) (V : Wv) (X : Mx) (nL : Nat) (cc : ByteArray) (post : Int32 → St → Prop) : Prop := ∀ (pc : Nat) (lv : List (Nat × Value)) (v : Int32) (σ : St), decode cc pc = .ok (.ireturn, 1) → isB v → post v σ → G l V X nL pc lv [.int v] σ
def RtL (l : Launch) (V : Wv) (X : Mx) (nL : Nat) (cc : ByteArray) (post : Int64 → St → Prop) : Prop := ∀ (pc : Nat) (lv : List (Nat × Value)) (v : Int64) (σ : St), decode cc pc = .ok (.lreturn, 1) → post v σ → G l V X nL pc lv [.long v] σ
def RtV (l : Launch) (V : Wv) (X : Mx) (nL : Nat) (cc : ByteArray) (post : St → Prop) : Prop := ∀ (pc : Nat) (lv : List (Nat × Value)) (σ : St), decode cc pc = .ok (.return_, 1) → post σ → G l V X nL pc lv [] σ
section GE
variable {l : Launch} {V : Wv} {y : MethodName} {cc : ByteArray} {maxL lev n : Nat} {avs : List Value} {σ : St}
theorem c_fx {p : Program} {e : Env} {s : State} {m : MethodId} {args : Array Value} {below : List Frame} {meth : Method} {c : Code} {s₁ : State} {ret : Option FieldType} {Q : State → Prop} (B : BodyLoose p l y (headSpec (wsM y cc maxL ret) (rmL lev)) cc maxL ret e s m args below meth c s₁) (hml : c.maxLocals = maxL) (hK : va_K V.1 vwCl (tyL V) s) (hD : va_D (fun _ => True) (wld V σ)) : Fx V (p, e, (headSpec (wsM y cc maxL ret) (rmL lev)).room, s, m, args, below, meth, c, (0, 0), Q, va_A (wld V σ) s.heap.size) cc y.cls maxL lev :=
  ⟨B.exec, B.bytes, hml, findClass_of_methodNamed B.named, fun w hw => atoms_spec (ws := wsM y cc maxL ret) B.pre w (List.mem_cons_of_mem _ hw), hK, fun _ => wld_D hD.self, fun q h => Or.inr h, B.notSynchronized, ⟨Nat.le_refl _, Nat.le_refl _⟩, Nat.le_refl _, Nat.le_refl _⟩
theorem Ci.of {post : Int32 → St → Prop} (hm : MVb y cc maxL (some .int) n) (hlen : (lg_sl avs).length ≤ maxL) (body : ∀ X : Mx, Fx V X cc y.cls maxL lev → RtI l V X maxL cc post → G l V X maxL 0 (lv_args 0 avs) [] σ) : Ci y cc maxL (some .int) lev l V avs σ post := by
  intro sz
  refine Met.ofW (cc := cc) (maxL := maxL) (ret := some .int) hm.2.2.2.1 rfl ?_
  intro p e s m args below meth c s₁ B hml hv
  obtain ⟨rfl, hsz, hP, hK, hD⟩ := hv
  subst hsz
  rw [lg_entry_eq]
  refine body (p, e, (headSpec (wsM y cc maxL (some .int)) (rmL lev)).room, s, m, avs.toArray, below, meth, c, (0, 0), MQ below (va_Qi post (BW V) (va_A (wld V σ) s.heap.size)) avs.toArray s 0 0 (va_A (wld V σ) s.heap.size), va_A (wld V σ) s.heap.size) (c_fx B hml hK hD) ?_ s.heap [] _ hP va_S.rf (lv_entry avs hlen)
  intro pc lv v τ d hq H locs ls hP1 hS1 hl1
  exact W.iret B.exec B.bytes B.returns (fun t ht _ => ⟨⟨v, τ, rfl, hq, by unfold BW; rw [ht]; exact hP1⟩, hS1.F ht⟩) hS1.2.2 d B.notSynchronized
theorem Cz.of {post : Int32 → St → Prop} (hm : MVb y cc maxL (some .boolean) n) (hlen : (lg_sl avs).length ≤ maxL) (body : ∀ X : Mx, Fx V X cc y.cls maxL lev → RtZ l V X maxL cc post → G l V X maxL 0 (lv_args 0 avs) [] σ) : Ci y cc maxL (some .boolean) lev l V avs σ post := by
  intro sz
  refine Met.ofW (cc := cc) (maxL := maxL) (ret := some .boolean) hm.2.2.2.1 rfl ?_
  intro p e s m args below meth c s₁ B hml hv
  obtain ⟨rfl, hsz, hP, hK, hD⟩ := hv
  subst hsz
  rw [lg_entry_eq]
  refine body (p, e, (headSpec (wsM y cc maxL (some .boolean)) (rmL lev)).room, s, m, avs.toArray, below, meth, c, (0, 0), MQ below (va_Qi post (BW V) (va_A (wld V σ) s.heap.size)) avs.toArray s 0 0 (va_A (wld V σ) s.heap.size), va_A (wld V σ) s.heap.size) (c_fx B hml hK hD) ?_ s.heap [] _ hP va_S.rf (lv_entry avs hlen)
  intro pc lv v τ d hb hq H locs ls hP1 hS1 hl1
  exact W.zret (ty := .boolean) B.exec B.bytes B.returns (by rcases hb with h | h <;> (subst h; decide)) (fun t ht _ => ⟨⟨v, τ, rfl, hq, by unfold BW; rw [ht]; exact hP1⟩, hS1.F ht⟩) hS1.2.2 d B.notSynchronized
theorem Cl.of {post : Int64 → St → Prop} (hm : MVb y cc maxL (some .long) n) (hlen : (lg_sl avs).length ≤ maxL) (body : ∀ X : Mx, Fx V X cc y.cls maxL lev → RtL l V X maxL cc post → G l V X maxL 0 (lv_args 0 avs) [] σ) : Cl y cc maxL lev l V avs σ post := by
  intro sz
  refine Met.ofW (cc := cc) (maxL := maxL) (ret := some .long) hm.2.2.2.1 rfl ?_
  intro p e s m args below meth c s₁ B hml hv
  obtain ⟨rfl, hsz, hP, hK, hD⟩ := hv
  subst hsz
  rw [lg_entry_eq]
  refine body (p, e, (headSpec (wsM y cc maxL (some .long)) (rmL lev)).room, s, m, avs.toArray, below, meth, c, (0, 0), MQ below (va_Ql post (BW V) (va_A (wld V σ) s.heap.size)) avs.toArray s 0 0 (va_A (wld V σ) s.heap.size), va_A (wld V σ) s.heap.size) (c_fx B hml hK hD) ?_ s.heap [] _ hP va_S.rf (lv_entry avs hlen)
  intro pc lv v τ d hq H locs ls hP1 hS1 hl1
  exact W.lret B.exec B.bytes B.returns (fun t ht _ => ⟨⟨v, τ, rfl, hq, by unfold BW; rw [ht]; exact hP1⟩, hS1.F ht⟩) hS1.2.2 d B.notSynchronized
theorem Cv.of {post : St → Prop} (hm : MVb y cc maxL none n) (hlen : (lg_sl avs).length ≤ maxL) (body : ∀ X : Mx, Fx V X cc y.cls maxL lev → RtV l V X maxL cc post → G l V X maxL 0 (lv_args 0 avs) [] σ) : Cv y cc maxL lev l V avs σ post := by
  intro sz
  refine Met.ofW (cc := cc) (maxL := maxL) (ret := none) hm.2.2.2.1 rfl ?_
  intro p e s m args below meth c s₁ B hml hv
  obtain ⟨rfl, hsz, hP, hK, hD⟩ := hv
  subst hsz
  rw [lg_entry_eq]
  refine body (p, e, (headSpec (wsM y cc maxL none) (rmL lev)).room, s, m, avs.toArray, below, meth, c, (0, 0), MQ below (va_Qv post (BW V) (va_A (wld V σ) s.heap.size)) avs.toArray s 0 0 (va_A (wld V σ) s.heap.size), va_A (wld V σ) s.heap.size) (c_fx B hml hK hD) ?_ s.heap [] _ hP va_S.rf (lv_entry avs hlen)
  intro pc lv τ d hq H locs ls hP1 hS1 hl1
  exact W.vret B.exec B.bytes B.returns (fun t ht _ => ⟨⟨τ, rfl, hq, by unfold BW; rw [ht]; exact hP1⟩, hS1.F ht⟩) hS1.2.2 d B.notSynchronized
end GE
