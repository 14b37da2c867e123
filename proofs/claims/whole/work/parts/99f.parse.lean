/-! the text as mathematics: what it tells -/
/-- places, lanes, lengths, maps -/
abbrev Dt : Type := Nat × List Lane × List Nat × List (List Nat)
def inR (t : Tk) (lo hi : Nat) : Bool := decide (t.1 = 1) && decide (lo ≤ t.2.1) && decide (t.2.1 ≤ hi)
def placesS (T : List Nat) (D : Dt) (tk : Tk) : Option Dt × Tk :=
  if inR (tok T tk.2.2.2) 2 5 then (if (tok T (tok T tk.2.2.2).2.2.2).1 = 59 then (some ((tok T tk.2.2.2).2.1, D.2), tok T (tok T tk.2.2.2).2.2.2) else (none, tok T (tok T tk.2.2.2).2.2.2)) else (none, tok T tk.2.2.2)
def lane2S (T : List Nat) (D : Dt) (a b : Nat) (t2 : Tk) : Option Dt × Tk :=
  if inR (tok T t2.2.2.2) 1 5 then
    (if inR (tok T (tok T t2.2.2.2).2.2.2) 1 9 then
      (if (tok T (tok T (tok T t2.2.2.2).2.2.2).2.2.2).1 = 59 then (some (D.1, D.2.1 ++ [(a, b, (tok T (tok T t2.2.2.2).2.2.2).2.1)], D.2.2.1 ++ [(tok T t2.2.2.2).2.1], D.2.2.2), tok T (tok T (tok T t2.2.2.2).2.2.2).2.2.2) else (none, tok T (tok T (tok T t2.2.2.2).2.2.2).2.2.2))
    else (none, tok T (tok T t2.2.2.2).2.2.2))
  else (none, tok T t2.2.2.2)
def laneS (T : List Nat) (D : Dt) (tk : Tk) : Option Dt × Tk :=
  if inR (tok T tk.2.2.2) 0 (D.1 - 1) then
    (if inR (tok T (tok T tk.2.2.2).2.2.2) 0 (D.1 - 1) && decide ((tok T (tok T tk.2.2.2).2.2.2).2.1 ≠ (tok T tk.2.2.2).2.1) && (lnB D.2.1 (tok T tk.2.2.2).2.1 (tok T (tok T tk.2.2.2).2.2.2).2.1).isNone then lane2S T D (tok T tk.2.2.2).2.1 (tok T (tok T tk.2.2.2).2.2.2).2.1 (tok T (tok T tk.2.2.2).2.2.2) else (none, tok T (tok T tk.2.2.2).2.2.2))
  else (none, tok T tk.2.2.2)
def mapR (T : List Nat) (D : Dt) : Nat → List Nat → Tk → Option Dt × Tk
  | 0, w, tk => if (tok T tk.2.2.2).1 = 59 then (some (D.1, D.2.1, D.2.2.1, D.2.2.2 ++ [w]), tok T tk.2.2.2) else (none, tok T tk.2.2.2)
  | d + 1, w, tk => if inR (tok T tk.2.2.2) 0 (D.1 - 1) then (if okNext D.2.1 w (tok T tk.2.2.2).2.1 then mapR T D d (w ++ [(tok T tk.2.2.2).2.1]) (tok T tk.2.2.2) else (none, tok T tk.2.2.2)) else if (tok T tk.2.2.2).1 = 59 ∧ 2 ≤ w.length then (some (D.1, D.2.1, D.2.2.1, D.2.2.2 ++ [w]), tok T tk.2.2.2) else (none, tok T tk.2.2.2)
def itemS (T : List Nat) (D : Dt) (tk : Tk) (i : Nat) : Option Dt × Tk :=
  if tk.1 = 108 then (if 6 ≤ D.2.1.length then (none, tk) else laneS T D tk)
  else if tk.1 = 109 then (if 4 ≤ D.2.2.2.length then (none, tk) else mapR T D 5 [] tk)
  else if tk.1 = 110 then (if i = 0 then placesS T D tk else (none, tk))
  else (none, tk)
def itemsS (T : List Nat) : Nat → Dt → Tk → Nat → Sum Nat (Dt × Nat)
  | 0, _, tk, _ => Sum.inl tk.2.2.1
  | f + 1, D, tk, i => if tk.1 = 0 then Sum.inr (D, i) else match itemS T D tk i with
    | (none, t) => Sum.inl t.2.2.1
    | (some D2, t) => itemsS T f D2 (tok T t.2.2.2) (i + 1)
def D0 : Dt := (2, [], [], [])
def readS (T : List Nat) : Sum Nat (Dt × Nat) := itemsS T (T.length + 1) D0 (tok T 0) 0
def nwD (D : Dt) : Nw := (D.2.2.1, D.2.2.2, [], 0)
def laD (D : Dt) : Land := (D.1, D.2.1)
def cLand (S : Sp) : Int32 × Sp := match readS S.1 with
  | Sum.inl f => (-10 - nI f, S)
  | Sum.inr q => (nI q.2, ([], laD q.1, nwD q.1, [], (none, none), [], S.2.2.2.2.2.2))
def okD (D : Dt) : Prop := okLand (laD D) ∧ okNw (laD D) (nwD D)
theorem inR_iff {t : Tk} {lo hi : Nat} : inR t lo hi = true ↔ t.1 = 1 ∧ lo ≤ t.2.1 ∧ t.2.1 ≤ hi := by
  unfold inR
  rw [Bool.and_eq_true, Bool.and_eq_true, decide_eq_true_iff, decide_eq_true_iff, decide_eq_true_iff, and_assoc]
theorem okD0 : okD D0 := by
  refine ⟨⟨Nat.le_refl _, by decide, by decide, fun l a b s h => by simp [laD, D0] at h, fun l m y z h => by simp [laD, D0] at h⟩, rfl, fun y h => by simp [nwD, D0] at h, by decide, fun w h => by simp [nwD, D0] at h, ⟨fun p h => by simp [nwD, D0] at h, by decide, fun k h => by simp [nwD, D0] at h, by simp [nwD, D0]⟩, by decide⟩
theorem isRow_nil (n : Nat) (ls : List Lane) : isRow n ls [] := ⟨fun p h => (by cases h), by decide, fun k h => by simp at h, by simp⟩
theorem okD_places {D : Dt} (h : D = D0) {v : Nat} (h1 : 2 ≤ v) (h2 : v ≤ 5) : okD (v, D.2) := by
  subst h
  refine ⟨⟨h1, h2, by show 0 ≤ 6; omega, fun l a b s h => by simp [laD, D0] at h, fun l m y z h => by simp [laD, D0] at h⟩, rfl, fun y h => by simp [nwD, D0] at h, by show 0 ≤ 4; omega, fun w h => by simp [nwD, D0] at h, isRow_nil _ _, by show 0 ≤ 99999; omega⟩
theorem isRow_ls {n : Nat} {ls : List Lane} {y : Lane} {w : List Nat} (h : isRow n ls w) : isRow n (ls ++ [y]) w := by
  obtain ⟨h1, h2, h3, h4⟩ := h
  refine ⟨h1, h2, fun k hk => ?_, h4⟩
  have := h3 k hk
  rw [lnB_app]
  cases hz : lnB ls (w.getD k 0) (w.getD (k + 1) 0) with
  | none => rw [hz] at this; cases this
  | some l => rfl
theorem okD_lane {D : Dt} (h : okD D) (h6 : D.2.1.length < 6) {a b v w : Nat} (ha : a < D.1) (hb : b < D.1) (hab : b ≠ a) (hn : lnB D.2.1 a b = none) (hv1 : 1 ≤ v) (hv5 : v ≤ 5) (hw1 : 1 ≤ w) (hw9 : w ≤ 9) : okD (D.1, D.2.1 ++ [(a, b, w)], D.2.2.1 ++ [v], D.2.2.2) := by
  obtain ⟨⟨l1, l2, l3, l4, l5⟩, n1, n2, n3, n4, n5, n6⟩ := h
  have nj : ∀ l (y : Lane), D.2.1[l]? = some y → joins y a b = false := fun l y hy => by
    have hl := (List.getElem?_eq_some_iff.mp hy).1
    rw [Bool.eq_false_iff]
    intro z
    have eg : D.2.1.getD l (0, 0, 0) = y := by rw [List.getD_eq_getElem?_getD, hy]; rfl
    have := lnB_isSome (ls := D.2.1) hl (by rw [eg]; exact z)
    rw [hn] at this
    cases this
  refine ⟨⟨l1, l2, by show (D.2.1 ++ [(a, b, w)]).length ≤ 6; rw [List.length_append]; simp; omega, fun l p q sp hy => ?_, fun l m y z hy hz hj => ?_⟩, ?_, fun y hy => ?_, n3, fun r hr => ?_, isRow_nil _ _, by show 0 ≤ 99999; omega⟩
  · have hy' : (D.2.1 ++ [(a, b, w)])[l]? = some (p, q, sp) := hy
    by_cases c : l < D.2.1.length
    · rw [List.getElem?_append_left c] at hy'
      exact l4 l p q sp hy'
    · rw [List.getElem?_append_right (by omega)] at hy'
      cases hk : l - D.2.1.length with
      | zero =>
        rw [hk] at hy'
        cases hy'
        exact ⟨ha, hb, fun e => hab e.symm, hw1, hw9⟩
      | succ k => rw [hk] at hy'; simp at hy'
  · have hy' : (D.2.1 ++ [(a, b, w)])[l]? = some y := hy
    have hz' : (D.2.1 ++ [(a, b, w)])[m]? = some z := hz
    by_cases c : l < D.2.1.length
    · rw [List.getElem?_append_left c] at hy'
      by_cases c2 : m < D.2.1.length
      · rw [List.getElem?_append_left c2] at hz'
        exact l5 l m y z hy' hz' hj
      · rw [List.getElem?_append_right (by omega)] at hz'
        cases hk : m - D.2.1.length with
        | zero =>
          rw [hk] at hz'
          cases hz'
          rw [nj l y hy'] at hj
          cases hj
        | succ k => rw [hk] at hz'; simp at hz'
    · rw [List.getElem?_append_right (by omega)] at hy'
      cases hk : l - D.2.1.length with
      | zero =>
        rw [hk] at hy'
        cases hy'
        by_cases c2 : m < D.2.1.length
        · rw [List.getElem?_append_left c2] at hz'
          have h1 := nj m z hz'
          rw [joins_iff] at hj
          dsimp only at hj
          have h2 : joins z a b = true := by
            rw [joins_iff]
            omega
          rw [h1] at h2
          cases h2
        · rw [List.getElem?_append_right (by omega)] at hz'
          cases hk2 : m - D.2.1.length with
          | zero => omega
          | succ k => rw [hk2] at hz'; simp at hz'
      | succ k => rw [hk] at hy'; simp at hy'
  · show (D.2.2.1 ++ [v]).length = (D.2.1 ++ [(a, b, w)]).length
    have : D.2.2.1.length = D.2.1.length := n1
    rw [List.length_append, List.length_append, this]
    rfl
  · have hy' : y ∈ D.2.2.1 ++ [v] := hy
    rcases List.mem_append.mp hy' with c | c
    · exact n2 y c
    · rw [List.mem_singleton.mp c]; exact ⟨hv1, hv5⟩
  · have := n4 r hr
    exact ⟨isRow_ls this.1, this.2⟩
theorem okD_map {D : Dt} (h : okD D) (h4 : D.2.2.2.length < 4) {w : List Nat} (hw : isRow D.1 D.2.1 w) (h2 : 2 ≤ w.length) : okD (D.1, D.2.1, D.2.2.1, D.2.2.2 ++ [w]) := by
  obtain ⟨l, n1, n2, n3, n4, n5, n6⟩ := h
  refine ⟨l, n1, n2, by show (D.2.2.2 ++ [w]).length ≤ 4; rw [List.length_append]; simp; omega, fun r hr => ?_, n5, n6⟩
  have hr' : r ∈ D.2.2.2 ++ [w] := hr
  rcases List.mem_append.mp hr' with c | c
  · exact n4 r c
  · rw [List.mem_singleton.mp c]; exact ⟨hw, h2⟩
theorem isRow_next {n : Nat} {ls : List Lane} {w : List Nat} {p : Nat} (h : isRow n ls w) (hp : p < n) (ho : okNext ls w p = true) : isRow n ls (w ++ [p]) ∧ w.length < 5 := by
  unfold okNext at ho
  cases w with
  | nil => exact ⟨isRow_one hp, by decide⟩
  | cons a r =>
    rw [show (a :: r).isEmpty = false from rfl, Bool.false_or, Bool.and_eq_true, Bool.and_eq_true, decide_eq_true_iff] at ho
    refine ⟨isRow_app h ho.1.1 hp (by simp) ho.1.2 ?_, ho.1.1⟩
    simpa using ho.2
theorem mapR_ok {T : List Nat} {D : Dt} (h : okD D) (h4 : D.2.2.2.length < 4) : ∀ (d : Nat) (w : List Nat) (tk : Tk), isRow D.1 D.2.1 w → w.length + d = 5 → ∀ D2, (mapR T D d w tk).1 = some D2 → okD D2
  | 0, w, tk, hw, hd, D2, hz => by
    unfold mapR at hz
    split at hz
    · cases hz; exact okD_map h h4 hw (by omega)
    · cases hz
  | d + 1, w, tk, hw, hd, D2, hz => by
    have hl := h.1.1
    have hl1 : 2 ≤ D.1 := hl
    unfold mapR at hz
    split at hz
    · rename_i c
      have hr := inR_iff.mp c
      split at hz
      · rename_i c2
        have := isRow_next hw (show (tok T tk.2.2.2).2.1 < D.1 by omega) c2
        exact mapR_ok h h4 d _ _ this.1 (by simp; omega) D2 hz
      · cases hz
    · split at hz
      · rename_i c2
        cases hz
        exact okD_map h h4 hw c2.2
      · cases hz
theorem laneS_ok {T : List Nat} {D : Dt} (h : okD D) (h6 : D.2.1.length < 6) {tk : Tk} {D2 : Dt} (hz : (laneS T D tk).1 = some D2) : okD D2 := by
  have hl1 : 2 ≤ D.1 := h.1.1
  unfold laneS lane2S at hz
  split at hz
  · rename_i c1
    have r1 := inR_iff.mp c1
    split at hz
    · rename_i c2
      rw [Bool.and_eq_true, Bool.and_eq_true, decide_eq_true_iff] at c2
      have r2 := inR_iff.mp c2.1.1
      split at hz
      · rename_i c3
        have r3 := inR_iff.mp c3
        split at hz
        · rename_i c4
          have r4 := inR_iff.mp c4
          split at hz
          · cases hz
            exact okD_lane h h6 (by omega) (by omega) c2.1.2 (by simpa using c2.2) r3.2.1 r3.2.2 r4.2.1 r4.2.2
          · cases hz
        · cases hz
      · cases hz
    · cases hz
  · cases hz
theorem itemS_ok {T : List Nat} {D : Dt} (h : okD D) {tk : Tk} {i : Nat} (hi : i = 0 → D = D0) {D2 : Dt} (hz : (itemS T D tk i).1 = some D2) : okD D2 := by
  unfold itemS at hz
  split at hz
  · split at hz
    · cases hz
    · exact laneS_ok h (by omega) hz
  · split at hz
    · split at hz
      · cases hz
      · exact mapR_ok h (by omega) 5 [] tk (isRow_nil _ _) rfl D2 hz
    · split at hz
      · split at hz
        · rename_i c
          unfold placesS at hz
          split at hz
          · rename_i c1
            have r1 := inR_iff.mp c1
            split at hz
            · cases hz
              exact okD_places (hi c) r1.2.1 r1.2.2
            · cases hz
          · cases hz
        · cases hz
      · cases hz
theorem itemsS_ok {T : List Nat} : ∀ (f : Nat) {D : Dt} {tk : Tk} {i : Nat}, okD D → (i = 0 → D = D0) → ∀ q, itemsS T f D tk i = Sum.inr q → okD q.1
  | 0, D, tk, i, _, _, q, hz => by cases hz
  | f + 1, D, tk, i, h, hi, q, hz => by
    unfold itemsS at hz
    split at hz
    · cases hz; exact h
    · split at hz
      · cases hz
      · rename_i D2 t he
        exact itemsS_ok f (itemS_ok h hi (by rw [he])) (fun z => by omega) q hz
theorem readS_ok {T : List Nat} {q : Dt × Nat} (h : readS T = Sum.inr q) : okD q.1 := itemsS_ok _ okD0 (fun _ => rfl) q h
/-! where an item's last token lies -/
theorem mapR_nx {T : List Nat} {D : Dt} : ∀ (d : Nat) (w : List Nat) (tk : Tk), tk.2.2.2 ≤ T.length → tk.2.2.2 ≤ (mapR T D d w tk).2.2.2.2 ∧ (mapR T D d w tk).2.2.2.2 ≤ T.length ∧ (mapR T D d w tk).2.2.2.1 ≤ T.length
  | 0, w, tk, h => by
    have f1 := tok_facts (T := T) h
    unfold mapR
    split <;> (dsimp only; omega)
  | d + 1, w, tk, h => by
    have f1 := tok_facts (T := T) h
    unfold mapR
    split
    · split
      · have := mapR_nx (D := D) d (w ++ [(tok T tk.2.2.2).2.1]) (tok T tk.2.2.2) f1.2.2.1
        omega
      · dsimp only; omega
    · split <;> (dsimp only; omega)
theorem itemS_nx {T : List Nat} {D : Dt} {tk : Tk} {i : Nat} (h : tk.2.2.2 ≤ T.length) (h0 : tk.2.2.1 ≤ tk.2.2.2) : tk.2.2.2 ≤ (itemS T D tk i).2.2.2.2 ∧ (itemS T D tk i).2.2.2.2 ≤ T.length ∧ (itemS T D tk i).2.2.2.1 ≤ T.length := by
  have f1 := tok_facts (T := T) h
  have f2 := tok_facts (T := T) f1.2.2.1
  have f3 := tok_facts (T := T) f2.2.2.1
  have f4 := tok_facts (T := T) f3.2.2.1
  have f5 := tok_facts (T := T) f4.2.2.1
  unfold itemS
  split
  · split
    · dsimp only; omega
    · unfold laneS lane2S
      split
      · split
        · split
          · split
            · split <;> (dsimp only; omega)
            · dsimp only; omega
          · dsimp only; omega
        · dsimp only; omega
      · dsimp only; omega
  · split
    · split
      · dsimp only; omega
      · exact mapR_nx 5 [] tk h
    · split
      · split
        · unfold placesS
          split
          · split <;> (dsimp only; omega)
          · dsimp only; omega
        · dsimp only; omega
      · dsimp only; omega
