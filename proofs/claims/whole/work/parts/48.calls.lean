/-! the class's calls that need no ways -/
theorem ge_nlt {x : Int32} {n : Nat} (h : nI n ≤ x) : ¬ x < nI n := by
  rw [Int32.le_iff_toInt_le] at h; rw [Int32.lt_iff_toInt_lt]; omega
theorem ge_nle {x : Int32} {n : Nat} (hn : n + 1 < 2 ^ 31) (h : nI (n + 1) ≤ x) : ¬ x ≤ nI n := by
  rw [Int32.le_iff_toInt_le, nI_toInt hn] at h; rw [Int32.le_iff_toInt_le, nI_toInt (by omega)]; omega
/-- a test of an argument against 0 and a bound, as the class writes it -/
theorem arg_ge {x y : Int32} {n : Nat} {A B : Prop} (hy : y = nI n) (hn : n < 2 ^ 31) (hA : num x n = none → A) (hB : ∀ j, num x n = some j → B) : (x < 0 → A) ∧ (¬ x < 0 → (y ≤ x → A) ∧ (¬ y ≤ x → B)) := by
  subst hy
  refine ⟨fun h => hA ((num_none hn).mpr (Or.inl h)), fun h => ⟨fun h2 => hA ((num_none hn).mpr (Or.inr h2)), fun h2 => ?_⟩⟩
  rcases pk_ix x hn with h3 | h3 | ⟨j, hj, rfl⟩
  · exact absurd h3 h
  · exact absurd h3 h2
  · exact hB j (num_nI hn hj)
theorem arg_lt {x y : Int32} {n : Nat} {A B : Prop} (hy : y = nI n) (hn : n < 2 ^ 31) (hA : num x n = none → A) (hB : ∀ j, num x n = some j → B) : (x < 0 → A) ∧ (¬ x < 0 → (x < y → B) ∧ (¬ x < y → A)) := by
  subst hy
  refine ⟨fun h => hA ((num_none hn).mpr (Or.inl h)), fun h => ⟨fun h2 => ?_, fun h2 => ?_⟩⟩
  · rcases pk_ix x hn with h3 | h3 | ⟨j, hj, rfl⟩
    · exact absurd h3 h
    · exact absurd h2 (ge_nlt h3)
    · exact hB j (num_nI hn hj)
  · rcases pk_ix x hn with h3 | h3 | ⟨j, hj, rfl⟩
    · exact absurd h3 h
    · exact hA ((num_none hn).mpr (Or.inr h3))
    · exact absurd (nI_lt hj hn) h2
theorem arg_le {x y : Int32} {n : Nat} {A B : Prop} (hy : y = nI n) (hn : n + 1 < 2 ^ 31) (hA : num x (n + 1) = none → A) (hB : ∀ j, num x (n + 1) = some j → B) : (x < 0 → A) ∧ (¬ x < 0 → (x ≤ y → B) ∧ (¬ x ≤ y → A)) := by
  subst hy
  refine ⟨fun h => hA ((num_none hn).mpr (Or.inl h)), fun h => ⟨fun h2 => ?_, fun h2 => ?_⟩⟩
  · rcases pk_ix x hn with h3 | h3 | ⟨j, hj, rfl⟩
    · exact absurd h3 h
    · exact absurd h2 (ge_nle hn h3)
    · exact hB j (num_nI hn hj)
  · rcases pk_ix x hn with h3 | h3 | ⟨j, hj, rfl⟩
    · exact absurd h3 h
    · exact hA ((num_none hn).mpr (Or.inr h3))
    · exact absurd (nI_le (by omega) (by omega)) h2
theorem num_lt {x : Int32} {n j : Nat} (hn : n < 2 ^ 31) (h : num x n = some j) : j < n ∧ x = nI j := (num_some hn).mp h
theorem sX9_isLane {S : Sp} {s : St} {x : Int32} {Q : Int32 → St → Prop} (h : RC S s) (hl : S.2.1.2.length ≤ 6) (h0 : num x S.2.1.2.length = none → Q 0 s) (h1 : ∀ l, num x S.2.1.2.length = some l → Q 1 s) : wX9_isLane x s Q := by
  unfold wX9_isLane
  have := arg_ge (x := x) h.2.2.1.2.1 (by omega) h0 h1
  exact ⟨this.1, fun c => ⟨h.G, this.2 c⟩⟩
theorem sX9_isPlace {S : Sp} {s : St} {x : Int32} {Q : Int32 → St → Prop} (h : RC S s) (hl : S.2.1.1 ≤ 5) (h0 : num x S.2.1.1 = none → Q 0 s) (h1 : ∀ l, num x S.2.1.1 = some l → Q 1 s) : wX9_isPlace x s Q := by
  unfold wX9_isPlace
  have := arg_ge (x := x) h.2.2.1.1 (by omega) h0 h1
  exact ⟨this.1, fun c => ⟨h.G, this.2 c⟩⟩
theorem sX9_isMap {S : Sp} {s : St} {x : Int32} {Q : Int32 → St → Prop} (h : RC S s) (hl : S.2.2.1.2.1.length ≤ 4) (h0 : num x S.2.2.1.2.1.length = none → Q 0 s) (h1 : ∀ l, num x S.2.2.1.2.1.length = some l → Q 1 s) : wX9_isMap x s Q := by
  unfold wX9_isMap
  exact arg_ge (x := x) h.2.2.2.1.2.1 (by omega) h0 h1
theorem KM.rf (s : St) : KM s s := ⟨fun _ _ => rfl, rfl⟩
theorem KM.tr {s t u : St} (h : KM s t) (h2 : KM t u) : KM s u := ⟨fun k hk => (h2.1 k hk).trans (h.1 k hk), h2.2.trans h.2⟩
/-! type, clear -/
def setT (S : Sp) (T : List Nat) : Sp := (T, S.2)
def cType (S : Sp) (x : Int32) : Int32 × Sp := match num x 256 with
  | none => (-1, S)
  | some a => if S.1.length < 120 then (nI (S.1.length + 1), setT S (S.1 ++ [a])) else (-3, S)
def cClear (S : Sp) : Int32 × Sp := (nI S.1.length, setT S [])
theorem RC.setT {S : Sp} {s t : St} {T : List Nat} (h : RC S s) (hf : Fr (fun k => k = 1 ∨ k = 2) s t) (hT : TextC T t) : RC (setT S T) t := by
  obtain ⟨a1, a2, a3, a4, a5, a6, a7, a8, a9, a10, a11⟩ := h
  have g := a2.g
  refine ⟨hT, a2.fr hf, ?_, a4.fr hf (by intro k; omega), a5.fr hf (by intro k; omega), a6.fr hf ⟨by omega, by intro k; omega⟩, a7.fr hf (by omega), a8.fr hf (by intro k; omega), a9.fr hf ⟨by omega, by omega⟩, a10.fr hf (by omega), by rw [hf.2]; exact a11⟩
  rw [hf.2]
  exact a3.fr hf (by intro k; omega)
theorem kX9_type {S : Sp} {s : St} {x : Int32} {Q : Int32 → St → Prop} (h : RC S s) (hok : okSp S) (hQ : ∀ t, RC (cType S x).2 t → KM s t → Q (cType S x).1 t) : wX9_type x s Q := by
  unfold wX9_type
  refine arg_le (n := 255) rfl (by omega) (fun hx => ?_) (fun a hx => ?_)
  · unfold cType at hQ; rw [hx] at hQ
    exact hQ s h (KM.rf s)
  · obtain ⟨ha, rfl⟩ := num_lt (by omega) hx
    unfold cType at hQ; rw [hx] at hQ
    dsimp only at hQ
    have h1 := h.1.1
    have hl := hok.1
    unfold wX7_add
    by_cases c : S.1.length < 120
    · rw [if_pos c] at hQ
      have e1 : ∀ v, (stI s 2 S.1.length v).1 1 0 = nI S.1.length := fun v => by rw [rI_ne (by omega)]; exact h1
      have e2 : ∀ t v, (stI t 1 0 v).1 1 0 = v := fun t v => rI_eq
      simp (disch := omega) only [h1, c, e1, e2, Nat.one_ne_zero, lit_nI, nI_ltI, nI_leI, nI_eq, nI_clamp, vp_in_nI, forall_eq, true_and, and_true, false_and, and_false, true_implies, false_implies, implies_true, not_true, not_false_eq_true, nI_add, pk_mul, nI_sub, shl1, shr1, fa_or, fa_and, nI_m9, nI_m9s]
      have hf : Fr (fun k => k = 1 ∨ k = 2) s (stI (stI s 2 S.1.length (nI a)) 1 0 (nI (S.1.length + 1))) := (Fr.rf.I (by omega)).I (by omega)
      refine hQ _ (h.setT hf ⟨?_, ?_⟩) (KM.of hf (by intro k; omega))
      · rw [rI_eq, List.length_append]; rfl
      · rw [rI_ne (by omega)]
        refine h.1.2.app (fun k hk => rI_nj (by omega)) ?_
        rw [Nat.zero_add, rI_eq]
    · rw [if_neg c] at hQ
      simp (disch := omega) only [h1, c, lit_nI, nI_ltI, nI_leI, nI_eq, nI_clamp, vp_in_nI, forall_eq, true_and, and_true, false_and, and_false, true_implies, false_implies, implies_true, not_true, not_false_eq_true, nI_add, pk_mul, nI_sub, shl1, shr1, fa_or, fa_and, nI_m9, nI_m9s]
      exact hQ s h (KM.rf s)
theorem kX9_clear {S : Sp} {s : St} {Q : Int32 → St → Prop} (h : RC S s) (hQ : ∀ t, RC (cClear S).2 t → KM s t → Q (cClear S).1 t) : wX9_clear s Q := by
  unfold wX9_clear wX7_empty
  have h1 := h.1.1
  simp (disch := omega) only [h1, lit_nI, nI_ltI, nI_leI, nI_eq, nI_clamp, vp_in_nI, forall_eq, true_and, and_true, false_and, and_false, true_implies, false_implies, implies_true, not_true, not_false_eq_true, nI_add, pk_mul, nI_sub, shl1, shr1, fa_or, fa_and, nI_m9, nI_m9s]
  have hf : Fr (fun k => k = 1 ∨ k = 2) s (stI s 1 0 (nI 0)) := Fr.rf.I (by omega)
  exact hQ _ (h.setT hf ⟨rI_eq, rowAt.nil⟩) (KM.of hf (by intro k; omega))
/-! place, count, trace -/
def cPlace (S : Sp) (x y : Int32) : Int32 := match num y 5 with
  | none => -1
  | some k => if x = -1 then plI S.2.2.1.2.2.1 k else match num x S.2.2.1.2.1.length with
    | none => -1
    | some m => plI (S.2.2.1.2.1.getD m []) k
theorem kX9_place {S : Sp} {s : St} {x y : Int32} {Q : Int32 → St → Prop} (h : RC S s) (hok : okSp S) (hQ : Q (cPlace S x y) s) : wX9_place x y s Q := by
  obtain ⟨o1, o2, o3, o4, o5, -⟩ := hok
  have hW := o4.W o3
  have hN := h.2.2.2.1
  unfold cPlace at hQ
  have k13 : ∀ m w, rowC 13 m w s → m ≤ 4 → w.length ≤ 5 → ∀ x' : Int32, (x' = -1 → m = 4) → (x' ≠ -1 → x' = nI m) → (∀ k, num y 5 = some k → Q (plI w k) s) → (num y 5 = none → Q (-1) s) → wX9_place_13 Q x' y s := by
    intro m w hr hm hw x' c1 c2 q1 q2
    unfold wX9_place_13
    refine arg_lt (n := 5) rfl (by omega) q2 (fun k hk => ?_)
    obtain ⟨hk5, rfl⟩ := num_lt (by omega) hk
    unfold wX9_place_38
    refine ⟨fun c => ?_, fun c => ?_⟩
    · rw [c2 c]
      exact sX2_placeAt hr hm hw (by omega) (q1 k hk)
    · have := c1 c
      subst this
      exact sX2_placeAt hr hm hw (by omega) (q1 k hk)
  unfold wX9_place
  refine ⟨fun c => ?_, fun c => ?_⟩
  · refine k13 4 _ hN.2.2.2.1 (by omega) hW.2.2.2 x (fun _ => rfl) (fun z => absurd c z) (fun k hk => ?_) (fun hk => ?_)
    · rw [hk] at hQ; dsimp only at hQ; rw [if_pos c] at hQ; exact hQ
    · rw [hk] at hQ; exact hQ
  · refine sX9_isMap h hW.2.1 (fun hm => ?_) (fun m hm => ?_)
    · refine ⟨fun _ => ?_, fun z => absurd rfl z⟩
      cases hk : num y 5 with
      | none => rw [hk] at hQ; exact hQ
      | some k => rw [hk] at hQ; dsimp only at hQ; rw [if_neg c, hm] at hQ; exact hQ
    · refine ⟨fun z => absurd z (by decide), fun _ => ?_⟩
      obtain ⟨hml, rfl⟩ := num_lt (by have := hW.2.1; omega) hm
      have hg : S.2.2.1.2.1[m]? = some (S.2.2.1.2.1.getD m []) := by rw [List.getD_eq_getElem?_getD, List.getElem?_eq_getElem hml]; rfl
      have h4 := hW.2.1
      refine k13 m _ (hN.2.2.1 m _ hg) (by omega) (hW.2.2.1 _ (List.mem_of_getElem? hg)) (nI m) (fun z => absurd z c) (fun _ => rfl) (fun k hk => ?_) (fun hk => ?_)
      · rw [hk] at hQ; dsimp only at hQ; rw [if_neg c, hm] at hQ; exact hQ
      · rw [hk] at hQ; exact hQ
def cCount (S : Sp) (x : Int32) : Int32 := if x = 0 then nI S.2.1.1 else if x = 1 then nI S.2.1.2.length else if x = 2 then nI S.2.2.1.2.1.length else if x = 3 then nI S.2.2.2.2.2.1.length else if x = 4 then nI S.1.length else -1
theorem kX9_count {S : Sp} {s : St} {x : Int32} {Q : Int32 → St → Prop} (h : RC S s) (hQ : Q (cCount S x) s) : wX9_count x s Q := by
  unfold wX9_count
  unfold cCount at hQ
  have g := h.G
  obtain ⟨a1, a2, a3, a4, a5, a6, a7, a8, a9, a10, a11⟩ := h
  rw [a3.1, a3.2.1, a4.2.1, a7.1, a1.1]
  refine ⟨fun c => ⟨g, ?_⟩, fun c0 => ⟨fun c => ⟨g, ?_⟩, fun c1 => ⟨fun c => ?_, fun c2 => ⟨fun c => ?_, fun c3 => ⟨fun c => ?_, fun c4 => ?_⟩⟩⟩⟩⟩
  · rw [if_pos c] at hQ; exact hQ
  · rw [if_neg c0, if_pos c] at hQ; exact hQ
  · rw [if_neg c0, if_neg c1, if_pos c] at hQ; exact hQ
  · rw [if_neg c0, if_neg c1, if_neg c2, if_pos c] at hQ; exact hQ
  · rw [if_neg c0, if_neg c1, if_neg c2, if_neg c3, if_pos c] at hQ; exact hQ
  · rw [if_neg c0, if_neg c1, if_neg c2, if_neg c3, if_neg c4] at hQ; exact hQ
/-! names, burns, wipes -/
def cNames (S : Sp) (x : Int32) : Int32 × Sp := match num x S.2.1.1 with
  | none => (-1, S)
  | some p => if okNext S.2.1.2 S.2.2.1.2.2.1 p then (nI (S.2.2.1.2.2.1.length + 1), push S (S.2.2.1.1, S.2.2.1.2.1, S.2.2.1.2.2.1 ++ [p], S.2.2.1.2.2.2)) else (-2, S)
theorem kX9_names {S : Sp} {s : St} {x : Int32} {Q : Int32 → St → Prop} (h : RC S s) (hok : okSp S) (hQ : ∀ t, RC (cNames S x).2 t → KM s t → Q (cNames S x).1 t) : wX9_names x s Q := by
  have hok' := hok
  obtain ⟨o1, o2, o3, o4, o5, -⟩ := hok
  have hW := o4.W o3
  have hN := h.2.2.2.1
  have hrow := o4.2.2.2.2.1
  unfold cNames at hQ
  unfold wX9_names
  refine sX9_isPlace h o3.2.1 (fun hx => ?_) (fun p hx => ?_)
  · rw [hx] at hQ
    exact ⟨fun z => absurd rfl z, fun _ => hQ s h (KM.rf s)⟩
  · obtain ⟨hp, rfl⟩ := num_lt (by have := o3.2.1; omega) hx
    rw [hx] at hQ
    dsimp only at hQ
    refine ⟨fun _ => ⟨h.G, ?_⟩, fun z => absurd z (by decide)⟩
    refine sX2_fits (m := 4) h.2.2.1 o3.2.1 o3.2.2.1 hN.2.2.2.1 (by omega) hW.2.2.2 hrow.1 hp ?_
    cases hz : okNext S.2.1.2 S.2.2.1.2.2.1 p with
    | false =>
      rw [hz] at hQ
      exact ⟨fun z => absurd rfl z, fun _ => hQ s h (KM.rf s)⟩
    | true =>
      rw [hz] at hQ
      refine ⟨fun _ => ?_, fun z => absurd z (by decide)⟩
      refine sX9_beforeChange h hok' (fun t hf hb => ?_)
      have hN2 := hN.fr hf (by intro k; omega)
      have hl5 : S.2.2.1.2.2.1.length < 5 := by
        unfold okNext at hz
        cases hd : S.2.2.1.2.2.1 with
        | nil => simp
        | cons a r => rw [hd] at hz; simp at hz; simp; exact hz.1.1
      refine sX2_append (m := 4) hN2.2.2.2.1 (by omega) hl5 (fun u hf2 hr ho => ?_)
      refine ⟨vp_in_nI (n := 4) (by omega) (by omega), ?_⟩
      have e : u.1 15 (4 : Int32).toNatClampNeg = nI (S.2.2.1.2.2.1.length + 1) := by
        have := hr.1
        rw [List.length_append] at this
        exact this
      rw [e]
      refine hQ u (hb _ u (hf2.wk (by intro k; omega)) ⟨?_, ?_, ?_, hr, ?_⟩) ((KM.of hf (by intro k; omega)).tr (KM.of hf2 (by intro k; omega)))
      · rw [hf2.1 14 (by omega)]; exact hN2.1
      · rw [hf2.1 13 (by omega)]; exact hN2.2.1
      · intro m w hw
        have : m < S.2.2.1.2.1.length := (List.getElem?_eq_some_iff.mp hw).1
        have h4 := hW.2.1
        exact ho m w (by omega) (hW.2.2.1 w (List.mem_of_getElem? hw)) (hN2.2.2.1 m w hw)
      · rw [hf2.1 13 (by omega)]; exact hN2.2.2.2.2
def cBurns (S : Sp) (x : Int32) : Int32 × Sp := match num x S.2.2.1.2.1.length with
  | none => (-1, S)
  | some m => (nI (S.2.2.1.2.1.length - 1), push S (S.2.2.1.1, S.2.2.1.2.1.eraseIdx m, S.2.2.1.2.2.1, S.2.2.1.2.2.2))
theorem kX9_burns {S : Sp} {s : St} {x : Int32} {Q : Int32 → St → Prop} (h : RC S s) (hok : okSp S) (hQ : ∀ t, RC (cBurns S x).2 t → KM s t → Q (cBurns S x).1 t) : wX9_burns x s Q := by
  have hok' := hok
  obtain ⟨o1, o2, o3, o4, o5, -⟩ := hok
  have hW := o4.W o3
  have hN := h.2.2.2.1
  have h4 := hW.2.1
  unfold cBurns at hQ
  unfold wX9_burns
  refine sX9_isMap h h4 (fun hx => ?_) (fun m hx => ?_)
  · rw [hx] at hQ
    exact ⟨fun z => absurd rfl z, fun _ => hQ s h (KM.rf s)⟩
  · obtain ⟨hm, rfl⟩ := num_lt (by omega) hx
    rw [hx] at hQ
    dsimp only at hQ
    refine ⟨fun _ => ?_, fun z => absurd z (by decide)⟩
    refine sX9_beforeChange h hok' (fun t hf hb => ?_)
    have hN2 := hN.fr hf (by intro k; omega)
    refine sX2_dropMap hN2 hm h4 hW.2.2.2 hW.2.2.1 (fun u hf2 hu => ?_)
    have e := hu.2.1
    dsimp only at e
    rw [List.length_eraseIdx, if_pos hm] at e
    rw [e]
    exact hQ u (hb _ u hf2 hu) ((KM.of hf (by intro k; omega)).tr (KM.of hf2 (by intro k; omega)))
def cWipes (S : Sp) : Int32 × Sp := if S.2.2.1.2.2.1.length = 0 then (-2, S) else (nI S.2.2.1.2.2.1.length, push S (S.2.2.1.1, S.2.2.1.2.1, [], S.2.2.1.2.2.2))
theorem kX9_wipes {S : Sp} {s : St} {Q : Int32 → St → Prop} (h : RC S s) (hok : okSp S) (hQ : ∀ t, RC (cWipes S).2 t → KM s t → Q (cWipes S).1 t) : wX9_wipes s Q := by
  have hok' := hok
  obtain ⟨o1, o2, o3, o4, o5, -⟩ := hok
  have hW := o4.W o3
  have hN := h.2.2.2.1
  have h4 := hW.2.1
  have h5 := hW.2.2.2
  have e0 := hN.2.2.2.1.1
  unfold cWipes at hQ
  unfold wX9_wipes
  by_cases c : S.2.2.1.2.2.1.length = 0
  · rw [if_pos c] at hQ
    simp (disch := omega) only [e0, c, lit_nI, nI_ltI, nI_leI, nI_eq, nI_clamp, vp_in_nI, forall_eq, true_and, and_true, false_and, and_false, true_implies, false_implies, implies_true, not_true, not_false_eq_true, nI_add, pk_mul, nI_sub, shl1, shr1, fa_or, fa_and, nI_m9, nI_m9s]
    exact hQ s h (KM.rf s)
  · rw [if_neg c] at hQ
    simp (disch := omega) only [e0, c, lit_nI, nI_ltI, nI_leI, nI_eq, nI_clamp, vp_in_nI, forall_eq, true_and, and_true, false_and, and_false, true_implies, false_implies, implies_true, not_true, not_false_eq_true, nI_add, pk_mul, nI_sub, shl1, shr1, fa_or, fa_and, nI_m9, nI_m9s]
    refine sX9_beforeChange h hok' (fun t hf hb => ?_)
    have hN2 := hN.fr hf (by intro k; omega)
    have hf2 : Fr (fun k => 13 ≤ k ∧ k ≤ 16) t (stI t 15 4 (nI 0)) := Fr.rf.I (by omega)
    refine hQ _ (hb _ _ hf2 ⟨?_, ?_, ?_, ⟨rI_eq, rowAt.nil⟩, ?_⟩) ((KM.of hf (by intro k; omega)).tr (KM.of hf2 (by intro k; omega)))
    · rw [rI_ne (by omega)]; exact hN2.1
    · rw [rI_ne (by omega)]; exact hN2.2.1
    · intro m w hw
      have : m < S.2.2.1.2.1.length := (List.getElem?_eq_some_iff.mp hw).1
      have := hN2.2.2.1 m w hw
      refine ⟨?_, ?_⟩
      · rw [rI_nj (by omega)]; exact this.1
      · rw [rI_ne (by omega)]; exact this.2
    · rw [rI_ne (by omega)]; exact hN2.2.2.2.2
