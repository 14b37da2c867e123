/-! multianewarray: an array of seven arrays of twenty ints -/
def mulOk (p : Program) (l : Launch) (e : Env) (R : Room) (s : State) (m : MethodId) (args : Array Value) (below : List Frame) (meth : Method) (c : Code) (T : State) (locs : List Loc) (cells slots : Nat) (g g2 : JFrame) : Prop :=
  ∃ (T1 : State) (cA comp : ClassId) (sl : Array Value), s.vm.findClass ("[" ++ (FieldType.array .int).toString) = some cA ∧ s.vm.findClass (FieldType.array .int).toString = some comp ∧ T1.heap.size = T.heap.size + 8 ∧
    (T1.heap[T.heap.size]? = some { cls := cA, slots := sl, vm := .none } ∧ sl.size = 7 ∧ ∀ j, j < 7 → sl[j]? = some (.ref (T.heap.size + 1 + j))) ∧
    (∀ j, j < 7 → T1.heap[T.heap.size + 1 + j]? = some { cls := comp, slots := Array.replicate 20 (.int 0), vm := .none }) ∧ (∀ a : Nat, a < T.heap.size → T1.heap[a]? = T.heap[a]?) ∧
    Stand p l e R s m args below meth c T1 locs (cells + 8) (slots + 147) ∧ ∀ t, Steps p.tables e below (T1.setTop g2) t → Steps p.tables e below (T.setTop g) t
theorem mulF {p : Program} {l : Launch} {e : Env} {R : Room} {s : State} {m : MethodId} {args : Array Value} {below : List Frame} {meth : Method} {c : Code} {T : State} {locs : List Loc} {cells slots : Nat} {cc : ByteArray} {own : String} {idx pc : Nat} {ls : Array Slot} {st : List Value} (X : Stand p l e R s m args below meth c T locs cells slots) (hexec : p.tables.exec = Jvm.exec) (hb : c.code = cc) (hown : s.vm.findClass own = some m.cls) (hcl : (Cond.classLink own idx "[[I").before args s = true) (hover : (Cond.arrayOver (.array .int)).before args s = true) (harr : (Cond.arrayClass .int).before args s = true) (d : decode cc pc = .ok (.multianewarray idx 2, 4)) (hc : cells + 8 ≤ R.cells) (hn : slots + 147 ≤ R.slots) : mulOk p l e R s m args below meth c T locs cells slots (F0 m pc ls (.int 20 :: .int 7 :: st)) (F0 m (pc + 4) ls (.ref T.heap.size :: st)) := by
  have e7 : (7 : Int32).toNatClampNeg = 7 := by decide
  have e20 : (20 : Int32).toNatClampNeg = 20 := by decide
  have es : "[" ++ (FieldType.array .int).toString = "[[I" := by decide +kernel
  obtain ⟨vm₁, cA, comp, hW, hfA, hfC, -, -, X1, step⟩ := X.multianewarray2F hexec (own := own) (index := idx) (ty := .int) hown (by rw [es]; exact hcl) hover harr (g := F0 m pc ls (.int 20 :: .int 7 :: st)) rfl (by rw [hb]; exact d) (n := 7) (k := 20) (rest := st) rfl (by decide) (by decide) (by decide) (by decide) (by decide) rfl rfl (by rw [e7]; omega) (by rw [e7, e20]; omega)
  rw [e7, e20] at X1 step
  obtain ⟨f1, f2, f3, f4⟩ := Jvm.Free.Multi.fill_facts (T.setVm vm₁) cA comp 7 20 (defaultValue .int) 7
  have hcell : ∀ i, Jvm.Free.Multi.outerC cA 7 T.heap.size i = { cls := cA, slots := (Jvm.Free.Multi.outerC cA 7 T.heap.size i).slots, vm := .none } := by
    intro i
    induction i with
    | zero => rfl
    | succ i ih =>
      have e : Jvm.Free.Multi.outerC cA 7 T.heap.size (i + 1) = (Jvm.Free.Multi.outerC cA 7 T.heap.size i).setSlot i (.ref (T.heap.size + 1 + i)) := rfl
      rw [e, ih]
      rfl
  refine ⟨Jvm.Free.Multi.fill (T.setVm vm₁) cA comp 7 20 (defaultValue .int) 7, cA, comp, (Jvm.Free.Multi.outerC cA 7 T.heap.size 7).slots, hfA, hfC, f1, ⟨?_, (Jvm.Free.Multi.outerC_facts cA 7 T.heap.size 7).2.2, fun j hj => ?_⟩, fun j hj => Jvm.Free.Multi.fill_inner (T.setVm vm₁) cA comp 7 20 (defaultValue .int) 7 j hj, fun a ha => Jvm.Free.Multi.fill_old (T.setVm vm₁) cA comp 7 20 (defaultValue .int) ha 7, X1, step⟩
  · rw [← hcell 7]
    exact f2
  · rw [Jvm.Free.Multi.outerC_slot cA 7 T.heap.size 7 j hj, if_pos hj]
