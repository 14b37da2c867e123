/-! multianewarray: an array of seven arrays of twenty ints -/
def mulOk (p : Program) (l : Launch) (e : Env) (R : Room) (s : State) (m : MethodId) (args : Array Value) (below : List Frame) (meth : Method) (c : Code) (T : State) (locs : List Loc) (cells slots : Nat) (g g2 : JFrame) : Prop :=
  ∃ (T1 : State) (cA comp : ClassId) (sl : Array Value), s.vm.findClass ("[" ++ (FieldType.array .int).toString) = some cA ∧ s.vm.findClass (FieldType.array .int).toString = some comp ∧ T1.heap.size = T.heap.size + 8 ∧
    (T1.heap[T.heap.size]? = some { cls := cA, slots := sl, vm := .none } ∧ sl.size = 7 ∧ ∀ j, j < 7 → sl[j]? = some (.ref (T.heap.size + 1 + j))) ∧
    (∀ j, j < 7 → T1.heap[T.heap.size + 1 + j]? = some { cls := comp, slots := Array.replicate 20 (.int 0), vm := .none }) ∧ (∀ a : Nat, a < T.heap.size → T1.heap[a]? = T.heap[a]?) ∧
    Stand p l e R s m args below meth c T1 locs (cells + 8) (slots + 147) ∧ ∀ t, Steps p.tables e below (T1.setTop g2) t → Steps p.tables e below (T.setTop g) t
section MUL
variable {E : CtlPost} {e : Env} {d : Bool} {acts : List Action} {s : State}
theorem wp_newA {Q : Addr → Pre} {c n : Nat} {v : Value} {k : Class} {x : ClassId} {ty : FieldType} (hk : s.vm.classes[c]? = some k) (hkind : k.kind = .array x ty) (hl : ¬ n > e.platform.arrayLengthLimit) (hh : ¬ n * componentBytes ty > e.platform.maxHeapBytes) (hc : s.heap.size < e.platform.maxCells) (hs : s.slotsUsed + n ≤ e.platform.maxSlots) (hf : fits ty v = true) (hv : v.isDefault = true) (hq : Q s.heap.size d acts (s.pushCell { cls := c, slots := Array.replicate n v, vm := .none })) : Sem.wp (Jvm.newArray c n v) Q E e d acts s := by
  have hfit : ∀ i w, (Array.replicate n v)[i]? = some w → s.fitsSlot c .none i w = true := by
    intro i w hw
    simp only [Array.getElem?_replicate] at hw
    split at hw
    · cases hw
      simp [State.fitsSlot, State.slotType?, hk, hkind, hf]
    · cases hw
  have hdef : allocActs (Array.replicate n v) s.heap.size acts = acts := by
    unfold allocActs
    rw [if_pos (by rw [Array.all_replicate]; split <;> simp [hv])]
  simp only [Jvm.newArray, Jvm.arrayFits, wp_bind', W.ask, W.ite, hl, if_false, wp_pure', W.theClass, hk, hkind, Option.some.injEq, exists_eq_left', hh, W.alloc, W.stop, Array.size_replicate, hdef]
  rw [if_neg (by omega)]
  exact ⟨hc, hs, hfit, hq⟩
theorem wp_mk1 {Q : Addr → Pre} {c : Nat} {k : Class} {x : ClassId} (hk : s.vm.classes[c]? = some k) (hkind : k.kind = .array x .int) (hl : ¬ 20 > e.platform.arrayLengthLimit) (hh : ¬ 20 * componentBytes .int > e.platform.maxHeapBytes) (hc : s.heap.size < e.platform.maxCells) (hs : s.slotsUsed + 20 ≤ e.platform.maxSlots) (hq : Q s.heap.size d acts (s.pushCell { cls := c, slots := Array.replicate 20 (.int 0), vm := .none })) : Sem.wp (Op.multianewarray.make c [20]) Q E e d acts s := by
  have e20 : (20 : Int32).toNatClampNeg = 20 := by decide
  have h20 : ¬ (20 : Int32) < 0 := by decide
  unfold Op.multianewarray.make
  simp only [wp_bind', W.ite, h20, if_false, wp_pure', W.theClass, hk, hkind, Option.some.injEq, exists_eq_left', e20]
  exact wp_newA hk hkind hl hh hc hs rfl rfl hq
def oCl (cA h : Nat) : Nat → Cell
  | 0 => { cls := cA, slots := Array.replicate 7 .null, vm := .none }
  | i + 1 => (oCl cA h i).setSlot i (.ref (h + 1 + i))
def iCl (comp : Nat) : Cell := { cls := comp, slots := Array.replicate 20 (.int 0), vm := .none }
def mSt (cA comp : Nat) (S : State) : Nat → State
  | 0 => S.pushCell (oCl cA S.heap.size 0)
  | i + 1 => ((mSt cA comp S i).pushCell (iCl comp)).setCell S.heap.size (oCl cA S.heap.size (i + 1))
theorem oCl_facts {cA h : Nat} : ∀ i, (oCl cA h i).cls = cA ∧ (oCl cA h i).vm = .none ∧ (oCl cA h i).slots.size = 7
  | 0 => ⟨rfl, rfl, by simp [oCl]⟩
  | i + 1 => by
    obtain ⟨a, b, c⟩ := oCl_facts (cA := cA) (h := h) i
    exact ⟨a, b, by simp [oCl, Cell.setSlot, c]⟩
theorem oCl_slot {cA h : Nat} : ∀ i j, j < 7 → (oCl cA h i).slots[j]? = some (if j < i then .ref (h + 1 + j) else .null)
  | 0, j, hj => by simp [oCl, hj]
  | i + 1, j, hj => by
    have ih := oCl_slot (cA := cA) (h := h) i j hj
    have hz := (oCl_facts (cA := cA) (h := h) i).2.2
    show ((oCl cA h i).slots.setIfInBounds i (.ref (h + 1 + i)))[j]? = _
    rw [Array.getElem?_setIfInBounds]
    by_cases e : i = j
    · subst e
      rw [if_pos rfl, if_pos (by omega), if_pos (by omega)]
    · rw [if_neg e, ih]
      by_cases h2 : j < i
      · rw [if_pos h2, if_pos (by omega)]
      · rw [if_neg h2, if_neg (by omega)]
theorem oCl_form {cA h : Nat} : ∀ i, oCl cA h i = { cls := cA, slots := (oCl cA h i).slots, vm := .none }
  | 0 => rfl
  | i + 1 => by
    have e : oCl cA h (i + 1) = (oCl cA h i).setSlot i (.ref (h + 1 + i)) := rfl
    rw [e, oCl_form i]
    rfl
theorem mSt_facts {cA comp : Nat} {S : State} : ∀ i, (mSt cA comp S i).heap.size = S.heap.size + 1 + i ∧ (mSt cA comp S i).heap[S.heap.size]? = some (oCl cA S.heap.size i) ∧ (mSt cA comp S i).vm = S.vm ∧ (mSt cA comp S i).slotsUsed = S.slotsUsed + 7 + i * 20
  | 0 => ⟨by simp [mSt], by simp [mSt], rfl, by simp [mSt, oCl]⟩
  | i + 1 => by
    obtain ⟨a, b, c, u⟩ := mSt_facts (cA := cA) (comp := comp) (S := S) i
    have hlt : S.heap.size < (mSt cA comp S i).heap.size := by omega
    have hb : ((mSt cA comp S i).pushCell (iCl comp)).heap[S.heap.size]? = some (oCl cA S.heap.size i) := by rw [State.heap_pushCell_of_lt (h := hlt)]; exact b
    refine ⟨?_, State.heap_setCell_self hb, by simp [mSt, c], ?_⟩
    · simp [mSt, State.setCell, a]
      omega
    · simp [mSt, u, iCl]
      omega
theorem mSt_top {cA comp : Nat} {S : State} {f : JFrame} : ∀ i, mSt cA comp (S.setTop f) i = (mSt cA comp S i).setTop f
  | 0 => rfl
  | i + 1 => by simp only [mSt, mSt_top i, State.heap_setTop, State.pushCell_setTop, State.setCell_setTop]
theorem mSt_old {cA comp : Nat} {S : State} {a : Nat} (ha : a < S.heap.size) : ∀ i, (mSt cA comp S i).heap[a]? = S.heap[a]?
  | 0 => State.heap_pushCell_of_lt _ _ ha
  | i + 1 => by
    have f1 := (mSt_facts (cA := cA) (comp := comp) (S := S) i).1
    show (((mSt cA comp S i).pushCell (iCl comp)).setCell S.heap.size _).heap[a]? = _
    have hlt : a < (mSt cA comp S i).heap.size := by omega
    rw [State.heap_setCell_other (Nat.ne_of_gt ha), State.heap_pushCell_of_lt (h := hlt)]
    exact mSt_old ha i
theorem mSt_in {cA comp : Nat} {S : State} : ∀ i j, j < i → (mSt cA comp S i).heap[S.heap.size + 1 + j]? = some (iCl comp)
  | 0, _, h => absurd h (Nat.not_lt_zero _)
  | i + 1, j, h => by
    have f1 := (mSt_facts (cA := cA) (comp := comp) (S := S) i).1
    show (((mSt cA comp S i).pushCell (iCl comp)).setCell S.heap.size _).heap[S.heap.size + 1 + j]? = _
    rw [State.heap_setCell_other (show S.heap.size ≠ S.heap.size + 1 + j by omega)]
    by_cases hj : j < i
    · have hlt : S.heap.size + 1 + j < (mSt cA comp S i).heap.size := by omega
      rw [State.heap_pushCell_of_lt (h := hlt)]
      exact mSt_in i j hj
    · have e1 : S.heap.size + 1 + j = (mSt cA comp S i).heap.size := by omega
      rw [e1]
      simp
theorem mSt_java {cA comp : Nat} {S : State} : ∀ i, (mSt cA comp S i).topJava? = S.topJava?
  | 0 => rfl
  | i + 1 => mSt_java i
theorem mSt_stand {p : Program} {l : Launch} {e : Env} {R : Room} {s : State} {m : MethodId} {args : Array Value} {below : List Frame} {meth : Method} {c : Code} {S : State} {locs : List Loc} {cells slots cA comp : Nat} (X : Stand p l e R s m args below meth c S locs cells slots) : ∀ i, Stand p l e R s m args below meth c (mSt cA comp S i) locs (cells + 1 + i) (slots + 7 + i * 20)
  | 0 => by
    have h := X.pushed (oCl cA S.heap.size 0)
    have ez : (oCl cA S.heap.size 0).slots.size = 7 := (oCl_facts 0).2.2
    rw [ez] at h
    exact h
  | i + 1 => by
    obtain ⟨f1, f2, -, -⟩ := mSt_facts (cA := cA) (comp := comp) (S := S) i
    have hlt : S.heap.size < (mSt cA comp S i).heap.size := by omega
    have hb : ((mSt cA comp S i).pushCell (iCl comp)).heap[S.heap.size]? = some (oCl cA S.heap.size i) := by rw [State.heap_pushCell_of_lt (h := hlt)]; exact f2
    have X1 := (mSt_stand (cA := cA) (comp := comp) X i).pushed (iCl comp)
    have X2 := X1.stored hb i (.ref (S.heap.size + 1 + i))
    have X3 := Stand.forget (extra := [⟨S.heap.size, i⟩]) X2 (fun y hy => by
      rw [List.mem_singleton] at hy
      rw [hy]
      exact X.heapGrown)
    have ez : slots + 7 + i * 20 + (iCl comp).slots.size = slots + 7 + (i + 1) * 20 := by
      simp [iCl]
      omega
    rw [ez] at X3
    exact X3
theorem wp_loop {cA comp : Nat} {S : State} {k kA : Class} {x : ClassId} {Q : PUnit → Pre} (hk : S.vm.classes[comp]? = some k) (hkind : k.kind = .array x .int) (hkA : S.vm.classes[cA]? = some kA) (hkindA : kA.kind = .array comp (.array .int)) (hl : ¬ 20 > e.platform.arrayLengthLimit) (hh : ¬ 20 * componentBytes .int > e.platform.maxHeapBytes) (hc : S.heap.size + 8 ≤ e.platform.maxCells) (hs : S.slotsUsed + 147 ≤ e.platform.maxSlots) (f : Nat → PUnit → Sem (ForInStep PUnit)) (hf : ∀ i u, f i u = (Op.multianewarray.make comp [20] >>= fun a => Jvm.writeLoc S.heap.size i (.ref a) >>= fun _ => Pure.pure (ForInStep.yield PUnit.unit))) (hQ : ∀ d acts, Q PUnit.unit d acts (mSt cA comp S 7)) : ∀ (n i : Nat), i + n = 7 → ∀ d acts, Sem.wp (forIn (List.range' i n) PUnit.unit f) Q E e d acts (mSt cA comp S i)
  | 0, i, hi, d, acts => by
    have e0 : i = 7 := by omega
    subst e0
    simp only [List.range'_zero, List.forIn_nil, wp_pure']
    exact hQ _ _
  | n + 1, i, hi, d, acts => by
    obtain ⟨f1, f2, f3, f4⟩ := mSt_facts (cA := cA) (comp := comp) (S := S) i
    obtain ⟨g1, g2, g3⟩ := oCl_facts (cA := cA) (h := S.heap.size) i
    have hi2 : i * 20 ≤ 120 := by omega
    simp only [List.range'_succ, List.forIn_cons, wp_bind', hf]
    refine wp_mk1 (by rw [f3]; exact hk) hkind hl hh (by omega) (by omega) ?_
    simp only [wp_bind', W.writeLoc, wp_pure']
    have hlt : S.heap.size < (mSt cA comp S i).heap.size := by omega
    refine ⟨oCl cA S.heap.size i, by rw [State.heap_pushCell_of_lt (h := hlt)]; exact f2, by rw [g2]; decide, by omega, ?_, ?_⟩
    · rw [g1, g2]
      have e5 : (mSt cA comp S i).vm.classes[cA]? = some kA := by rw [f3]; exact hkA
      simp [State.fitsSlot, State.slotType?, e5, hkindA, fits]
    · have e6 : ((mSt cA comp S i).pushCell { cls := comp, slots := Array.replicate 20 (.int 0), vm := .none }).setCell S.heap.size ((oCl cA S.heap.size i).setSlot i (.ref (mSt cA comp S i).heap.size)) = mSt cA comp S (i + 1) := by rw [f1]; rfl
      rw [e6]
      exact wp_loop hk hkind hkA hkindA hl hh hc hs f hf hQ n (i + 1) (by omega) _ _
theorem wp_mk2 {cA comp : Nat} {S : State} {k kA : Class} {x : ClassId} {Q : Addr → Pre} (hk : S.vm.classes[comp]? = some k) (hkind : k.kind = .array x .int) (hkA : S.vm.classes[cA]? = some kA) (hkindA : kA.kind = .array comp (.array .int)) (hl7 : ¬ 7 > e.platform.arrayLengthLimit) (hh7 : ¬ 7 * componentBytes (.array .int) > e.platform.maxHeapBytes) (hl : ¬ 20 > e.platform.arrayLengthLimit) (hh : ¬ 20 * componentBytes .int > e.platform.maxHeapBytes) (hc : S.heap.size + 8 ≤ e.platform.maxCells) (hs : S.slotsUsed + 147 ≤ e.platform.maxSlots) (hQ : ∀ d acts, Q S.heap.size d acts (mSt cA comp S 7)) : Sem.wp (Op.multianewarray.make cA [7, 20]) Q E e d acts S := by
  have e7 : (7 : Int32).toNatClampNeg = 7 := by decide
  have h7 : ¬ (7 : Int32) < 0 := by decide
  have h70 : ((7 : Int32) == 0) = false := by decide
  unfold Op.multianewarray.make
  simp only [wp_bind', W.ite, h7, if_false, wp_pure', W.theClass, hkA, hkindA, Option.some.injEq, exists_eq_left', e7]
  refine wp_newA hkA hkindA hl7 hh7 (by omega) (by omega) rfl rfl ?_
  simp only [wp_bind', h70, Bool.false_eq_true, if_false, wp_pure', Std.Legacy.Range.forIn_eq_forIn_range']
  refine wp_loop hk hkind hkA hkindA hl hh hc hs _ (fun i u => rfl) (fun d acts => ?_) 7 0 rfl _ _
  simp only [wp_pure']
  exact hQ _ _
theorem wp_sem {cA comp idx : Nat} {S : State} {f : JFrame} {st : List Value} {k kA : Class} {x : ClassId} {Q : Unit → Pre} (ht : S.topJava?.isSome) (hr : S.vm.classReady f.method.cls idx cA) (hst : f.stack = .int 20 :: .int 7 :: st) (hk : S.vm.classes[comp]? = some k) (hkind : k.kind = .array x .int) (hkA : S.vm.classes[cA]? = some kA) (hkindA : kA.kind = .array comp (.array .int)) (hl7 : ¬ 7 > e.platform.arrayLengthLimit) (hh7 : ¬ 7 * componentBytes (.array .int) > e.platform.maxHeapBytes) (hl : ¬ 20 > e.platform.arrayLengthLimit) (hh : ¬ 20 * componentBytes .int > e.platform.maxHeapBytes) (hc : S.heap.size + 8 ≤ e.platform.maxCells) (hs : S.slotsUsed + 147 ≤ e.platform.maxSlots) (hQ : ∀ acts, Q () true acts ((mSt cA comp S 7).setTop { f with stack := .ref S.heap.size :: st })) : Sem.wp (Op.multianewarray.sem idx 2) Q E e d acts (S.setTop f) := by
  simp only [Op.multianewarray.sem, wp_bind', W.resolveClassAt_ready (State.method?_setTop f ht) hr, Jvm.popN, W.pop, wp_pure', State.topJava?_setTop' _ ht, Option.some.injEq, exists_eq_left', hst, List.cons.injEq, exists_cons_eq, State.setTop_setTop, List.nil_append, List.cons_append, List.mapM_cons, List.mapM_nil]
  refine wp_mk2 hk hkind hkA hkindA hl7 hh7 hl hh hc hs (fun d acts => ?_)
  have htop : (mSt cA comp S 7).topJava?.isSome := by rw [mSt_java]; exact ht
  simp only [wp_bind', W.mark, W.pushRef, mSt_top, State.topJava?_setTop' _ htop, Option.some.injEq, exists_eq_left', State.setTop_setTop, State.heap_setTop]
  exact hQ _
end MUL
theorem mul_cold {Q : Unit → Pre} {E : CtlPost} {e : Env} {d : Bool} {acts : List Action} {s : State} {f : JFrame} {index c n : Nat} {vm' : Vm} (hs : s.topJava?.isSome) (hg : (Jvm.resolveClass f.method.cls index).Gives e.toSetting s.vm (.ok c) vm') (hr : vm'.classReady f.method.cls index c) (hsz : vm'.classes.size ≤ s.vm.classes.size := by no_record) : Sem.wp (Op.multianewarray.sem index n) Q E e d acts (s.setTop f) ↔ Sem.wp (Op.multianewarray.sem index n) Q E e d acts ((s.setVm vm').setTop f) := by
  simp only [Op.multianewarray.sem, wp_bind']
  exact W.resolveClassAt_transfer (s := s.setTop f) (State.method?_setTop f hs) hg hr
theorem mulF {p : Program} {l : Launch} {e : Env} {R : Room} {s : State} {m : MethodId} {args : Array Value} {below : List Frame} {meth : Method} {c : Code} {T : State} {locs : List Loc} {cells slots : Nat} {cc : ByteArray} {own : String} {idx pc : Nat} {ls : Array Slot} {st : List Value} (X : Stand p l e R s m args below meth c T locs cells slots) (hexec : p.tables.exec = Jvm.exec) (hb : c.code = cc) (hown : s.vm.findClass own = some m.cls) (hcl : (Cond.classLink own idx "[[I").before args s = true) (hover : (Cond.arrayOver (.array .int)).before args s = true) (harr : (Cond.arrayClass .int).before args s = true) (d : decode cc pc = .ok (.multianewarray idx 2, 4)) (hc : cells + 8 ≤ R.cells) (hn : slots + 147 ≤ R.slots) : mulOk p l e R s m args below meth c T locs cells slots (F0 m pc ls (.int 20 :: .int 7 :: st)) (F0 m (pc + 4) ls (.ref T.heap.size :: st)) := by
  have hpl : e.platform.magicAccessors = ({} : Platform).magicAccessors := by rw [X.admits.platform]
  obtain ⟨comp, cA, kA, hcomp, hidx, hkA, hkindA, hnameA⟩ := AOI.spec hover
  have es : "[" ++ (FieldType.array .int).toString = "[[I" := by decide +kernel
  obtain ⟨c1, hfcc, hcl1⟩ := Cond.classLink_spec hown hcl e.platform hpl
  rw [es] at hnameA
  cases hnameA.symm.trans hfcc
  obtain ⟨hg₁, hwarm₁, hready₁⟩ := State.classEntry (e := e) X.warmed hcl1
  generalize T.vm.noted m.cls idx (.cls cA) = vm₁ at hg₁ hwarm₁ hready₁
  have X₁ := X.noted hwarm₁
  subst hb
  obtain ⟨cI, kI, y, hI1, hI2, hI3⟩ := Cond.arrayClass_spec harr
  have eI : cI = comp := Option.some.inj (hI1.symm.trans hcomp)
  subst eI
  have hal : s.vm.Alike vm₁ := hwarm₁.alike
  obtain ⟨kA₁, hkA₁, heA⟩ := hal.2.2 _ _ hkA
  obtain ⟨kI₁, hkI₁, heI⟩ := hal.2.2 _ _ hI2
  have hkindA₁ : kA₁.kind = .array cI (.array .int) := by rw [heA]; exact hkindA
  have hkindI₁ : kI₁.kind = .array y .int := by rw [heI]; exact hI3
  have hlimit : ∀ n, n ≤ 20 → ¬ n > e.platform.arrayLengthLimit := fun n h => by rw [Launch.admits_arrayLengthLimit X.admits]; omega
  have hh7 : ¬ 7 * componentBytes (.array .int) > e.platform.maxHeapBytes := by rw [Launch.admits_maxHeapBytes X.admits]; show ¬ 7 * 4 > 536870912; omega
  have hh20 : ¬ 20 * componentBytes .int > e.platform.maxHeapBytes := by rw [Launch.admits_maxHeapBytes X.admits]; show ¬ 20 * 4 > 536870912; omega
  obtain ⟨hr1, hr2⟩ := X.roomAbove hc hn
  have hz : (T.setVm vm₁).heap = T.heap := rfl
  obtain ⟨f1, f2, f3, f4⟩ := mSt_facts (cA := cA) (comp := cI) (S := T.setVm vm₁) 7
  have X2 := mSt_stand (cA := cA) (comp := cI) X₁ 7
  have f5 : ∀ j, j < 7 → (mSt cA cI (T.setVm vm₁) 7).heap[(T.setVm vm₁).heap.size + 1 + j]? = some (iCl cI) := fun j hj => mSt_in 7 j hj
  have f6 : ∀ a : Nat, a < (T.setVm vm₁).heap.size → (mSt cA cI (T.setVm vm₁) 7).heap[a]? = (T.setVm vm₁).heap[a]? := fun a ha => mSt_old ha 7
  have step : ∀ target, Steps p.tables e below ((mSt cA cI (T.setVm vm₁) 7).setTop (F0 m (pc + 4) ls (.ref T.heap.size :: st))) target → Steps p.tables e below (T.setTop (F0 m pc ls (.int 20 :: .int 7 :: st))) target := by
    intro target hrest
    have hw : ∀ (E : CtlPost) (Q : Unit → Pre) (d : Bool) (acts : List Action), (∀ acts, Q () true acts ((mSt cA cI (T.setVm vm₁) 7).setTop (F0 m pc ls (.ref T.heap.size :: st)))) → Sem.wp (Op.multianewarray.sem idx 2) Q E e d acts ((T.setVm vm₁).setTop (F0 m pc ls (.int 20 :: .int 7 :: st))) := fun E Q d acts hQ => wp_sem (S := T.setVm vm₁) (cA := cA) (comp := cI) (st := st) X.here.top hready₁ rfl hkI₁ hkindI₁ hkA₁ hkindA₁ (hlimit 7 (by omega)) hh7 (hlimit 20 (by omega)) hh20 (by rw [hz]; omega) hr2 hQ
    have htop : (mSt cA cI (T.setVm vm₁) 7).topJava?.isSome := by rw [mSt_java]; exact X.here.top
    generalize mSt cA cI (T.setVm vm₁) 7 = T1 at hw hrest htop
    jvm_step X.here [hexec, d, mul_cold (e := e) (s := T) (f := F0 m pc ls (.int 20 :: .int 7 :: st)) X.here.top hg₁ hready₁]
    refine hw _ _ _ _ (fun acts => ?_)
    intro acts2
    show Steps p.tables e below ((T1.setTop (F0 m pc ls (Value.ref T.heap.size :: st))).modifyTopJava fun f => { f with pc := f.pc + 4 }) target
    rw [State.modifyTopJava_eq_setTop _ (State.topJava?_setTop' _ htop), State.setTop_setTop]
    exact hrest
  rw [hz] at f1 f2 f5 f6
  have e1 : T.heap.size + 1 + 7 = T.heap.size + 8 := by omega
  have e2 : cells + 1 + 7 = cells + 8 := by omega
  have e3 : slots + 7 + 7 * 20 = slots + 147 := by omega
  rw [e1] at f1
  rw [e2, e3] at X2
  generalize mSt cA cI (T.setVm vm₁) 7 = T1 at *
  rw [oCl_form 7] at f2
  exact ⟨T1, cA, cI, (oCl cA T.heap.size 7).slots, es ▸ hfcc, hcomp, f1, ⟨f2, (oCl_facts 7).2.2, fun j hj => by rw [oCl_slot 7 j hj, if_pos hj]⟩, f5, f6, X2, step⟩
