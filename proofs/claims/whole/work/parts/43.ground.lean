/-! Ground and Now -/
theorem lnB_lt : ∀ {ls : List Lane} {a b l : Nat}, lnB ls a b = some l → l < ls.length
  | [], a, b, l, h => by simp [lnB] at h
  | ln :: r, a, b, l, h => by
    unfold lnB at h
    split at h
    · cases h; simp
    · cases hq : lnB r a b with
      | none => rw [hq] at h; cases h
      | some q => rw [hq] at h; cases h; have := lnB_lt hq; simp; omega
theorem lnB_app : ∀ (ls : List Lane) (x : Lane) (a b : Nat), lnB (ls ++ [x]) a b = match lnB ls a b with | some l => some l | none => if joins x a b then some ls.length else none
  | [], x, a, b => by simp [lnB]
  | y :: r, x, a, b => by
    rw [List.cons_append, lnB, lnB, lnB_app r x a b]
    by_cases h : joins y a b
    · simp [h]
    · simp only [h, Bool.false_eq_true, if_false]
      cases lnB r a b with
      | some l => simp
      | none => by_cases h2 : joins x a b <;> simp [h2]
theorem joins_comm (x : Lane) (a b : Nat) : joins x a b = joins x b a := by unfold joins; rw [Bool.or_comm]
theorem lnB_comm : ∀ (ls : List Lane) (a b : Nat), lnB ls a b = lnB ls b a
  | [], _, _ => rfl
  | x :: r, a, b => by rw [lnB, lnB, joins_comm, lnB_comm r a b]
theorem joins_iff (x : Lane) (a b : Nat) : joins x a b = true ↔ (x.1 = a ∧ x.2.1 = b) ∨ (x.1 = b ∧ x.2.1 = a) := by simp [joins]
theorem lnI_app (ls : List Lane) (a b s a' b' : Nat) (hn : lnB ls a b = none) : lnI (ls ++ [(a, b, s)]) a' b' = if (a' = a ∧ b' = b) ∨ (a' = b ∧ b' = a) then nI ls.length else lnI ls a' b' := by
  unfold lnI
  rw [lnB_app]
  by_cases h : (a' = a ∧ b' = b) ∨ (a' = b ∧ b' = a)
  · have hq : lnB ls a' b' = none := by
      rcases h with ⟨rfl, rfl⟩ | ⟨rfl, rfl⟩
      · exact hn
      · rw [lnB_comm]; exact hn
    have hj : joins (a, b, s) a' b' = true := by
      rw [joins_iff]; rcases h with ⟨rfl, rfl⟩ | ⟨rfl, rfl⟩ <;> simp
    rw [hq, if_pos h]; simp [hj]
  · have hj : joins (a, b, s) a' b' = false := by
      cases hz : joins (a, b, s) a' b' with
      | false => rfl
      | true =>
        rw [joins_iff] at hz
        exfalso; apply h
        rcases hz with ⟨h1, h2⟩ | ⟨h1, h2⟩
        · exact Or.inl ⟨h1.symm, h2.symm⟩
        · exact Or.inr ⟨h2.symm, h1.symm⟩
    rw [if_neg h]
    cases lnB ls a' b' with
    | some l => rfl
    | none => simp [hj]
theorem sX1_laneBetween {g a b : Nat} {la : Land} {s : St} {Q : Int32 → St → Prop} (hG : GroundC g la s) (h5 : la.1 ≤ 5) (ha : a < la.1) (hb : b < la.1) (hQ : Q (lnI la.2 a b) s) : wX1_laneBetween g (nI a) (nI b) s Q := by
  unfold wX1_laneBetween
  have h0 := hG.1
  have hj := hG.2.2.2 a b (by omega) (by omega)
  have e1 : ¬ a < 0 := by omega
  have e2 : ¬ b < 0 := by omega
  have e3 : ¬ la.1 ≤ a := by omega
  simp (disch := omega) only [h0, e1, e2, e3, hb, hj, lit_nI, nI_ltI, nI_leI, nI_eq, nI_clamp, vp_in_nI, forall_eq, true_and, and_true, false_and, and_false, true_implies, false_implies, implies_true, not_true, not_false_eq_true, nI_add, pk_mul, nI_sub, shl1, shr1, fa_or, fa_and, nI_m9, nI_m9s]
  exact hQ
/-- what lanes of a set are long together, of the first l -/
def lenP (L : List Nat) (b : Nat) : Nat → Nat
  | 0 => 0
  | l + 1 => lenP L b l + if b.testBit l then L.getD l 0 else 0
theorem getD_le {L : List Nat} {m : Nat} (hL : ∀ x ∈ L, x ≤ m) (l : Nat) : L.getD l 0 ≤ m := by
  by_cases h : l < L.length
  · rw [List.getD_eq_getElem?_getD, List.getElem?_eq_getElem h]; exact hL _ (List.getElem_mem h)
  · rw [List.getD_eq_getElem?_getD, List.getElem?_eq_none (by omega)]; simp
theorem getD_get {L : List Nat} {l : Nat} (h : l < L.length) : L[l]? = some (L.getD l 0) := by
  rw [List.getD_eq_getElem?_getD, List.getElem?_eq_getElem h]; rfl
theorem lenP_le {L : List Nat} {b : Nat} (hL : ∀ x ∈ L, x ≤ 5) : ∀ l, lenP L b l ≤ 5 * l
  | 0 => Nat.le_refl _
  | l + 1 => by
    have := lenP_le (b := b) hL l
    unfold lenP
    have h2 : L.getD l 0 ≤ 5 := getD_le hL l
    split <;> omega
theorem sX1_lengthOf {g x2 b : Nat} {la : Land} {L : List Nat} {s : St} {Q : Int32 → St → Prop} (hG : GroundC g la s) (hl : la.2.length ≤ 6) (hb : b < 64) (hL : L.length = la.2.length) (hr : rowAt (s.1 x2) 0 L) (hQ : Q (nI (lenP L b la.2.length)) s) : wX1_lengthOf g (nI b) x2 6 s Q := by
  unfold wX1_lengthOf
  have key : ∀ d l, l + d = la.2.length → wX1_lengthOf_5 g (nI b) x2 6 Q (d + 1) (nI (lenP L b l)) (nI l) s := by
    intro d
    induction d with
    | zero =>
      intro l hd
      unfold wX1_lengthOf_5
      have e : la.2.length ≤ l := by omega
      have hl2 : l = la.2.length := by omega
      simp (disch := omega) only [hG.2.1, e, lit_nI, nI_ltI, nI_leI, nI_eq, nI_clamp, vp_in_nI, forall_eq, true_and, and_true, false_and, and_false, true_implies, false_implies, implies_true, not_true, not_false_eq_true, nI_add, pk_mul, nI_sub, shl1, shr1, fa_or, fa_and, nI_m9, nI_m9s]
      rw [hl2]; exact hQ
    | succ d ih =>
      intro l hd
      unfold wX1_lengthOf_5 wX1_lengthOf_31
      have e : ¬ la.2.length ≤ l := by omega
      have hv := hr l (L.getD l 0) (getD_get (by omega))
      rw [Nat.zero_add] at hv
      have ih2 := ih (l + 1) (by omega)
      unfold lenP at ih2
      by_cases ht : b.testBit l
      · simp only [ht, if_true] at ih2
        simp (disch := omega) only [hG.2.1, e, ht, hv, if_true, lit_nI, nI_ltI, nI_leI, nI_eq, nI_clamp, vp_in_nI, forall_eq, true_and, and_true, false_and, and_false, true_implies, false_implies, implies_true, not_true, not_false_eq_true, nI_add, pk_mul, nI_sub, shl1, shr1, fa_or, fa_and, nI_m9, nI_m9s]
        exact ih2
      · simp only [ht, Bool.false_eq_true, if_false, Nat.add_zero] at ih2
        simp (disch := omega) only [hG.2.1, e, ht, hv, Bool.false_eq_true, if_false, Nat.zero_ne_one, lit_nI, nI_ltI, nI_leI, nI_eq, nI_clamp, vp_in_nI, forall_eq, true_and, and_true, false_and, and_false, true_implies, false_implies, implies_true, not_true, not_false_eq_true, nI_add, pk_mul, nI_sub, shl1, shr1, fa_or, fa_and, nI_m9, nI_m9s]
        exact ih2
  exact ⟨_, key la.2.length 0 (by omega)⟩
theorem rowAt.app {f f' : Nat → Int32} {o p : Nat} {w : List Nat} (h : rowAt f o w) (hs : ∀ k, k < w.length → f' (o + k) = f (o + k)) (hp : f' (o + w.length) = nI p) : rowAt f' o (w ++ [p]) := by
  intro k q hq
  by_cases hk : k < w.length
  · rw [List.getElem?_append_left hk] at hq
    rw [hs k hk]; exact h k q hq
  · rw [List.getElem?_append_right (by omega)] at hq
    have hz : k - w.length = 0 := by
      cases hh : k - w.length with
      | zero => rfl
      | succ n => rw [hh] at hq; simp at hq
    rw [hz] at hq
    simp at hq
    subst hq
    have : k = w.length := by omega
    rw [this]; exact hp
theorem rowAt.cg {f f' : Nat → Int32} {o : Nat} {w : List Nat} (h : rowAt f o w) (hs : ∀ k, k < w.length → f' (o + k) = f (o + k)) : rowAt f' o w := fun k p hp => by
  have hk : k < w.length := (List.getElem?_eq_some_iff.mp hp).1
  rw [hs k hk]; exact h k p hp
theorem rowAt.nil {f : Nat → Int32} {o : Nat} : rowAt f o [] := fun k p h => by simp at h
theorem GroundC.fr {g : Nat} {la : Land} {s t : St} {M : Nat → Prop} (h : GroundC g la s) (hf : Fr M s t) (hd : ∀ k, g ≤ k → k ≤ g + 4 → ¬ M k) : GroundC g la t := by
  unfold GroundC at *
  rw [hf.1 g (hd g (by omega) (by omega)), hf.1 (g + 1) (hd _ (by omega) (by omega)), hf.1 (g + 2) (hd _ (by omega) (by omega)), hf.1 (g + 3) (hd _ (by omega) (by omega)), hf.1 (g + 4) (hd _ (by omega) (by omega))]
  exact h
theorem NowC.fr {n : Nat} {N : Nw} {s t : St} {M : Nat → Prop} (h : NowC n N s) (hf : Fr M s t) (hd : ∀ k, n ≤ k → k ≤ n + 3 → ¬ M k) : NowC n N t := by
  unfold NowC rowC at *
  rw [hf.1 n (hd n (by omega) (by omega)), hf.1 (n + 1) (hd _ (by omega) (by omega)), hf.1 (n + 2) (hd _ (by omega) (by omega)), hf.1 (n + 3) (hd _ (by omega) (by omega))]
  exact h
/-- the k-th place of a row -/
def plI (w : List Nat) (k : Nat) : Int32 := match w[k]? with
  | some p => nI p
  | none => -9
theorem sX2_placeAt {n m k : Nat} {w : List Nat} {s : St} {Q : Int32 → St → Prop} (hr : rowC n m w s) (hm : m ≤ 4) (hw : w.length ≤ 5) (hk : k ≤ 5) (hQ : Q (plI w k) s) : wX2_placeAt n (nI m) (nI k) s Q := by
  unfold wX2_placeAt
  have h0 := hr.1
  have e1 : ¬ k < 0 := by omega
  by_cases e : w.length ≤ k
  · simp (disch := omega) only [h0, e1, e, lit_nI, nI_ltI, nI_leI, nI_eq, nI_clamp, vp_in_nI, forall_eq, true_and, and_true, false_and, and_false, true_implies, false_implies, implies_true, not_true, not_false_eq_true, nI_add, pk_mul, nI_sub, shl1, shr1, fa_or, fa_and, nI_m9, nI_m9s]
    unfold plI at hQ
    rw [List.getElem?_eq_none e] at hQ
    exact hQ
  · have hv := hr.2 k (w.getD k 0) (getD_get (by omega))
    simp (disch := omega) only [h0, e1, e, hv, lit_nI, nI_ltI, nI_leI, nI_eq, nI_clamp, vp_in_nI, forall_eq, true_and, and_true, false_and, and_false, true_implies, false_implies, implies_true, not_true, not_false_eq_true, nI_add, pk_mul, nI_sub, shl1, shr1, fa_or, fa_and, nI_m9, nI_m9s]
    unfold plI at hQ
    rw [getD_get (by omega)] at hQ
    exact hQ
