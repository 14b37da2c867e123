/-! undo, keep, back, took, forget -/
def setN (S : Sp) (N : Nw) (U : List Nw) : Sp := (S.1, S.2.1, N, U, S.2.2.2.2)
def cUndo (S : Sp) : Int32 × Sp := match S.2.2.2.1 with
  | [] => (-2, S)
  | N :: U => (nI U.length, setN S N U)
theorem kX9_undo {S : Sp} {s : St} {Q : Int32 → St → Prop} (h : RC S s) (hok : okSp S) (hQ : ∀ t, RC (cUndo S).2 t → KM s t → Q (cUndo S).1 t) : wX9_undo s Q := by
  obtain ⟨o1, o2, o3, o4, o5, o6, -⟩ := hok
  have hR := h
  obtain ⟨a1, a2, a3, a4, a5, a6, a7, a8, a9, a10, a11⟩ := h
  unfold cUndo at hQ
  unfold wX9_undo
  have e0 : s.1 29 2 = nI S.2.2.2.1.length := by obtain ⟨x, _, _, h2, _⟩ := a5; exact h2
  have gg := a2.g
  cases hU : S.2.2.2.1 with
  | nil =>
    rw [hU] at hQ e0
    simp (disch := omega) only [e0, List.length_nil, lit_nI, nI_ltI, nI_leI, nI_eq, nI_clamp, vp_in_nI, forall_eq, true_and, and_true, false_and, and_false, true_implies, false_implies, implies_true, not_true, not_false_eq_true, nI_add, pk_mul, nI_sub, shl1, shr1, fa_or, fa_and, nI_m9, nI_m9s]
    exact hQ s hR (KM.rf s)
  | cons N U =>
    rw [hU] at hQ e0 a5 o5 o6
    rw [List.length_cons] at e0 o5
    have c : ¬ U.length + 1 = 0 := by omega
    simp (disch := omega) only [e0, c, lit_nI, nI_ltI, nI_leI, nI_eq, nI_clamp, vp_in_nI, forall_eq, true_and, and_true, false_and, and_false, true_implies, false_implies, implies_true, not_true, not_false_eq_true, nI_add, pk_mul, nI_sub, shl1, shr1, fa_or, fa_and, nI_m9, nI_m9s]
    have oN := o6 N List.mem_cons_self
    refine sX3_restore a5 (by omega) (oN.W o3) (fun t hf hp hn => ?_)
    refine sX9_forgetAnswers (fun u hf2 h1 h2 => ?_)
    have hT : Fr (fun k => k = 29 ∨ (13 ≤ k ∧ k ≤ 16) ∨ k = 86 ∨ k = 88) s u := (hf.wk (by intro k; omega)).tr (hf2.wk (by intro k; omega))
    have hp2 : PastC U u := hp.fr hf2 (by intro k; omega)
    have e1 : u.1 29 2 = nI U.length := by obtain ⟨x, _, _, h2, _⟩ := hp2; exact h2
    rw [e1]
    refine hQ u ⟨a1.fr hT ⟨by omega, by omega⟩, a2.fr hT, ?_, hn.fr hf2 (by intro k; omega), hp2, a6.fr hT ⟨by omega, by intro k; omega⟩, a7.fr hT (by omega), a8.fr hT (by intro k; omega), Or.inl h1, Or.inl h2, by rw [hT.2]; exact a11⟩ (KM.of hT (by intro k; omega))
    rw [hT.2]
    exact a3.fr hT (by intro k; omega)
def setI (S : Sp) (i : Nat) : Option Nw × Option Nw := if i = 0 then (some S.2.2.1, S.2.2.2.2.1.2) else (S.2.2.2.2.1.1, some S.2.2.1)
def cKeep (S : Sp) (x : Int32) : Int32 × Sp := match num x 2 with
  | none => (-1, S)
  | some i => (nI S.2.2.1.2.1.length, (S.1, S.2.1, S.2.2.1, S.2.2.2.1, setI S i, S.2.2.2.2.2))
theorem or_bit0 {f : Nat} (hf : f < 4) : (f ||| 2 ^ 0) < 4 ∧ (f ||| 2 ^ 0).testBit 0 = true ∧ (f ||| 2 ^ 0).testBit 1 = f.testBit 1 := by
  rcases (show f = 0 ∨ f = 1 ∨ f = 2 ∨ f = 3 by omega) with rfl | rfl | rfl | rfl <;> decide
theorem or_bit1 {f : Nat} (hf : f < 4) : (f ||| 2 ^ 1) < 4 ∧ (f ||| 2 ^ 1).testBit 1 = true ∧ (f ||| 2 ^ 1).testBit 0 = f.testBit 0 := by
  rcases (show f = 0 ∨ f = 1 ∨ f = 2 ∨ f = 3 by omega) with rfl | rfl | rfl | rfl <;> decide
theorem kX9_keep {S : Sp} {s : St} {x : Int32} {Q : Int32 → St → Prop} (h : RC S s) (hok : okSp S) (hQ : ∀ t, RC (cKeep S x).2 t → KM s t → Q (cKeep S x).1 t) : wX9_keep x s Q := by
  obtain ⟨o1, o2, o3, o4, o5, o6, -⟩ := hok
  have hR := h
  obtain ⟨a1, a2, a3, a4, a5, a6, a7, a8, a9, a10, a11⟩ := h
  have hW := o4.W o3
  have gg := a2.g
  unfold cKeep at hQ
  unfold wX9_keep
  refine arg_lt (n := 2) rfl (by omega) (fun hx => ?_) (fun i hx => ?_)
  · rw [hx] at hQ; exact hQ s hR (KM.rf s)
  · obtain ⟨hi, rfl⟩ := num_lt (by omega) hx
    rw [hx] at hQ
    dsimp only at hQ
    simp (disch := omega) only [lit_nI, nI_ltI, nI_leI, nI_eq, nI_clamp, vp_in_nI, forall_eq, true_and, and_true, false_and, and_false, true_implies, false_implies, implies_true, not_true, not_false_eq_true, nI_add, pk_mul, nI_sub, shl1, shr1, fa_or, fa_and, nI_m9, nI_m9s]
    refine sX2_become a4 hW.1 hW.2.1 hW.2.2.1 hW.2.2.2 (by omega) (fun t hf ht => ?_)
    obtain ⟨⟨f, f4, ff, fb0, fb1⟩, i1, i2⟩ := a6
    have e8 : t.1 0 8 = nI f := by rw [hf.1 0 (by omega)]; exact ff
    have e13 : ∀ v, (stI t 0 8 v).1 13 3 = nI S.2.2.1.2.1.length := fun v => by rw [rI_ne (by omega), hf.1 13 (by omega)]; exact a4.2.1
    simp (disch := omega) only [e8, e13, lit_nI, nI_ltI, nI_leI, nI_eq, nI_clamp, vp_in_nI, forall_eq, true_and, and_true, false_and, and_false, true_implies, false_implies, implies_true, not_true, not_false_eq_true, nI_add, pk_mul, nI_sub, shl1, shr1, fa_or, fa_and, nI_m9, nI_m9s]
    have hf2 : Fr (fun k => k = 0) t (stI t 0 8 (nI (f ||| 2 ^ i))) := Fr.rf.I (by omega)
    have hT : Fr (fun k => k = 0 ∨ (91 + 4 * i ≤ k ∧ k ≤ 91 + 4 * i + 3)) s (stI t 0 8 (nI (f ||| 2 ^ i))) := (hf.wk (by intro k; omega)).tr (hf2.wk (by intro k; omega))
    refine hQ _ ⟨a1.fr hT ⟨by omega, by omega⟩, a2.fr hT, ?_, a4.fr hT (by intro k; omega), a5.fr hT (by intro k; omega), ?_, a7.fr hT (by omega), a8.fr hT (by intro k; omega), a9.fr hT ⟨by omega, by omega⟩, a10.fr hT (by omega), by rw [hT.2]; exact a11⟩ (KM.of hT (by intro k; omega))
    · rw [hT.2]
      exact a3.fr hT (by intro k; omega)
    · have ht2 := ht.fr hf2 (by intro k; omega)
      show ImgC (setI S i) _
      unfold setI
      rcases (show i = 0 ∨ i = 1 by omega) with rfl | rfl
      · have ob := or_bit0 f4
        rw [if_pos rfl]
        refine ⟨⟨f ||| 2 ^ 0, ob.1, rI_eq, by rw [ob.2.1]; rfl, by rw [ob.2.2]; exact fb1⟩, fun N hN => ?_, fun N hN => ?_⟩
        · cases hN; exact ht2
        · exact (i2 N hN).fr hT (by intro k; omega)
      · have ob := or_bit1 f4
        rw [if_neg (by omega)]
        refine ⟨⟨f ||| 2 ^ 1, ob.1, rI_eq, by rw [ob.2.2]; exact fb0, by rw [ob.2.1]; rfl⟩, fun N hN => ?_, fun N hN => ?_⟩
        · exact (i1 N hN).fr hT (by intro k; omega)
        · cases hN; exact ht2
def imgOf (S : Sp) (i : Nat) : Option Nw := if i = 0 then S.2.2.2.2.1.1 else S.2.2.2.2.1.2
def cBack (S : Sp) (x : Int32) : Int32 × Sp := match num x 2 with
  | none => (-1, S)
  | some i => match imgOf S i with
    | none => (-2, S)
    | some N => (nI N.2.1.length, setN S N [])
theorem kX9_back {S : Sp} {s : St} {x : Int32} {Q : Int32 → St → Prop} (h : RC S s) (hok : okSp S) (hQ : ∀ t, RC (cBack S x).2 t → KM s t → Q (cBack S x).1 t) : wX9_back x s Q := by
  obtain ⟨o1, o2, o3, o4, o5, o6, o7, o8, -⟩ := hok
  have hR := h
  obtain ⟨a1, a2, a3, a4, a5, a6, a7, a8, a9, a10, a11⟩ := h
  have gg := a2.g
  unfold cBack at hQ
  unfold wX9_back
  refine arg_lt (n := 2) rfl (by omega) (fun hx => ?_) (fun i hx => ?_)
  · rw [hx] at hQ; exact hQ s hR (KM.rf s)
  · obtain ⟨hi, rfl⟩ := num_lt (by omega) hx
    rw [hx] at hQ
    dsimp only at hQ
    obtain ⟨⟨f, f4, ff, fb0, fb1⟩, i1, i2⟩ := a6
    have fb : f.testBit i = (imgOf S i).isSome := by
      unfold imgOf
      rcases (show i = 0 ∨ i = 1 by omega) with rfl | rfl
      · rw [if_pos rfl]; exact fb0
      · rw [if_neg (by omega)]; exact fb1
    cases hI : imgOf S i with
    | none =>
      rw [hI] at hQ fb
      simp (disch := omega) only [ff, fb, Option.isSome_none, Bool.false_eq_true, if_false, lit_nI, nI_ltI, nI_leI, nI_eq, nI_clamp, vp_in_nI, forall_eq, true_and, and_true, false_and, and_false, true_implies, false_implies, implies_true, not_true, not_false_eq_true, nI_add, pk_mul, nI_sub, shl1, shr1, fa_or, fa_and, nI_m9, nI_m9s]
      exact hQ s hR (KM.rf s)
    | some N =>
      rw [hI] at hQ fb
      have hN : NowC (91 + 4 * i) N s ∧ okNw S.2.1 N := by
        unfold imgOf at hI
        rcases (show i = 0 ∨ i = 1 by omega) with rfl | rfl
        · rw [if_pos rfl] at hI; exact ⟨i1 N hI, o7 N hI⟩
        · rw [if_neg (by omega)] at hI; exact ⟨i2 N hI, o8 N hI⟩
      have hW := hN.2.W o3
      simp (disch := omega) only [ff, fb, Option.isSome_some, if_true, Nat.one_ne_zero, lit_nI, nI_ltI, nI_leI, nI_eq, nI_clamp, vp_in_nI, forall_eq, true_and, and_true, false_and, and_false, true_implies, false_implies, implies_true, not_true, not_false_eq_true, nI_add, pk_mul, nI_sub, shl1, shr1, fa_or, fa_and, nI_m9, nI_m9s]
      refine sX2_become hN.1 hW.1 hW.2.1 hW.2.2.1 hW.2.2.2 (by omega) (fun t hf ht => ?_)
      unfold wX3_empty
      simp (disch := omega) only [lit_nI, nI_ltI, nI_leI, nI_eq, nI_clamp, vp_in_nI, forall_eq, true_and, and_true, false_and, and_false, true_implies, false_implies, implies_true, not_true, not_false_eq_true, nI_add, pk_mul, nI_sub, shl1, shr1, fa_or, fa_and, nI_m9, nI_m9s]
      refine sX9_forgetAnswers (fun u hf2 h1 h2 => ?_)
      have hT : Fr (fun k => k = 29 ∨ (13 ≤ k ∧ k ≤ 16) ∨ k = 86 ∨ k = 88) s u := ((hf.wk (by intro k; omega)).I (by omega)).tr (hf2.wk (by intro k; omega))
      have hf3 : Fr (fun k => k = 29 ∨ k = 86 ∨ k = 88) t u := (Fr.rf.I (by omega)).tr (hf2.wk (by intro k; omega))
      have hn := ht.fr hf3 (by intro k; omega)
      have e1 := hn.2.1
      rw [e1]
      refine hQ u ⟨a1.fr hT ⟨by omega, by omega⟩, a2.fr hT, ?_, hn, ?_, (show ImgC S.2.2.2.2.1 s from ⟨⟨f, f4, ff, fb0, fb1⟩, i1, i2⟩).fr hT ⟨by omega, by intro k; omega⟩, a7.fr hT (by omega), a8.fr hT (by intro k; omega), Or.inl h1, Or.inl h2, by rw [hT.2]; exact a11⟩ (KM.of hT (by intro k; omega))
      · rw [hT.2]
        exact a3.fr hT (by intro k; omega)
      · obtain ⟨y, hy, y1, y2, y3⟩ := a5
        refine ⟨y, hy, ?_, ?_, fun j N hj => by simp [setN] at hj⟩
        · rw [hf2.1 29 (by omega), rI_nj (by omega), hf.1 29 (by omega)]; exact y1
        · rw [hf2.1 29 (by omega), rI_eq]; rfl
def setK (S : Sp) (t : List (Nat × Nat)) : Sp := (S.1, S.2.1, S.2.2.1, S.2.2.2.1, S.2.2.2.2.1, t, S.2.2.2.2.2.2)
theorem RC.setK {S : Sp} {s t : St} {T : List (Nat × Nat)} (h : RC S s) (hf : Fr (fun k => k = 89) s t) (hT : StrC T t) : RC (setK S T) t := by
  obtain ⟨a1, a2, a3, a4, a5, a6, a7, a8, a9, a10, a11⟩ := h
  have g := a2.g
  refine ⟨a1.fr hf ⟨by omega, by omega⟩, a2.fr hf, ?_, a4.fr hf (by intro k; omega), a5.fr hf (by intro k; omega), a6.fr hf ⟨by omega, by intro k; omega⟩, hT, a8.fr hf (by intro k; omega), a9.fr hf ⟨by omega, by omega⟩, a10.fr hf (by omega), by rw [hf.2]; exact a11⟩
  rw [hf.2]
  exact a3.fr hf (by intro k; omega)
def cForget (S : Sp) : Int32 × Sp := (nI S.2.2.2.2.2.1.length, setK S [])
theorem kX9_forget {S : Sp} {s : St} {Q : Int32 → St → Prop} (h : RC S s) (hQ : ∀ t, RC (cForget S).2 t → KM s t → Q (cForget S).1 t) : wX9_forget s Q := by
  unfold wX9_forget wX6_empty
  have h1 := h.2.2.2.2.2.2.1.1
  simp (disch := omega) only [h1, lit_nI, nI_ltI, nI_leI, nI_eq, nI_clamp, vp_in_nI, forall_eq, true_and, and_true, false_and, and_false, true_implies, false_implies, implies_true, not_true, not_false_eq_true, nI_add, pk_mul, nI_sub, shl1, shr1, fa_or, fa_and, nI_m9, nI_m9s]
  have hf : Fr (fun k => k = 89) s (stI (stI (stI s 89 0 (nI 0)) 89 1 (nI 0)) 89 2 (nI 0)) := ((Fr.rf.I (by omega)).I (by omega)).I (by omega)
  refine hQ _ (h.setK hf ⟨?_, ?_, ?_⟩) (KM.of hf (by intro k; omega))
  · rw [rI_nj (by omega), rI_nj (by omega), rI_eq]; rfl
  · rw [rI_nj (by omega), rI_eq]; rfl
  · rw [rI_eq]; rfl
theorem tookB_lt : ∀ (t : List (Nat × Nat)) (is b : Nat), (∀ q ∈ t, q.1 < 6) → b < 64 → t.foldl (fun b q => if q.2 = is then b ||| 2 ^ q.1 else b) b < 64
  | [], _, b, _, hb => hb
  | q :: r, is, b, h, hb => by
    rw [List.foldl_cons]
    refine tookB_lt r is _ (fun p hp => h p (List.mem_cons_of_mem _ hp)) ?_
    split
    · refine or_lt64 hb ?_
      calc 2 ^ q.1 < 2 ^ 6 := Nat.pow_lt_pow_right (by omega) (h q List.mem_cons_self)
        _ = 64 := rfl
    · exact hb
def cTook (S : Sp) (x y : Int32) : Int32 × Sp := match num x S.2.1.2.length with
  | none => (-1, S)
  | some l => match num y 2 with
    | none => (-1, S)
    | some i => if S.2.2.2.2.2.1.length < 6 then (nI (S.2.2.2.2.2.1.length + 1), setK S (S.2.2.2.2.2.1 ++ [(l, i)])) else (-3, S)
theorem kX9_took {S : Sp} {s : St} {x y : Int32} {Q : Int32 → St → Prop} (h : RC S s) (hok : okSp S) (hQ : ∀ t, RC (cTook S x y).2 t → KM s t → Q (cTook S x y).1 t) : wX9_took x y s Q := by
  obtain ⟨o1, o2, o3, o4, o5, o6, o7, o8, o9, o10⟩ := hok
  have hl6 := o3.2.2.1
  unfold cTook at hQ
  unfold wX9_took
  refine sX9_isLane h hl6 (fun hx => ?_) (fun l hx => ?_)
  · rw [hx] at hQ
    exact ⟨fun _ => hQ s h (KM.rf s), fun z => absurd rfl z⟩
  · obtain ⟨hl, rfl⟩ := num_lt (by omega) hx
    rw [hx] at hQ
    dsimp only at hQ
    refine ⟨fun z => absurd z (by decide), fun _ => ?_⟩
    have hq : ∀ q ∈ S.2.2.2.2.2.1, q.1 < 6 := fun q hq => by have := (o10 q hq).1; omega
    have go : ∀ i, num y 2 = some i → wX9_took_19 Q (nI l) y s := by
      intro i hy
      obtain ⟨hi, rfl⟩ := num_lt (by omega) hy
      rw [hy] at hQ
      dsimp only at hQ
      unfold wX9_took_19
      by_cases c : S.2.2.2.2.2.1.length < 6
      · rw [if_pos c] at hQ
        refine sX6_add h.2.2.2.2.2.2.1 (by omega) (by omega) c (tookB_lt _ _ _ hq (by omega)) (tookB_lt _ _ _ hq (by omega)) (fun u hf hu => ⟨fun z => absurd z (by decide), fun _ => ?_⟩)
        have e := hu.1
        rw [List.length_append] at e
        rw [e]
        exact hQ u (h.setK hf hu) (KM.of hf (by intro k; omega))
      · rw [if_neg c] at hQ
        have e := h.2.2.2.2.2.2.1.1
        unfold wX6_add
        simp (disch := omega) only [e, c, lit_nI, nI_ltI, nI_leI, nI_eq, nI_clamp, vp_in_nI, forall_eq, true_and, and_true, false_and, and_false, true_implies, false_implies, implies_true, not_true, not_false_eq_true, nI_add, pk_mul, nI_sub, shl1, shr1, fa_or, fa_and, nI_m9, nI_m9s]
        exact hQ s h (KM.rf s)
    refine ⟨fun c => go 0 (by rw [c]; rfl), fun c => ⟨fun c1 => go 1 (by rw [c1]; rfl), fun c1 => ?_⟩⟩
    cases hy : num y 2 with
    | none => rw [hy] at hQ; exact hQ s h (KM.rf s)
    | some i =>
      obtain ⟨hi, rfl⟩ := num_lt (by omega) hy
      rcases (show i = 0 ∨ i = 1 by omega) with rfl | rfl
      · exact absurd rfl c
      · exact absurd rfl c1
