/-! the past; the class's calls that need no ways -/
def okW (N : Nw) : Prop := N.1.length ≤ 6 ∧ N.2.1.length ≤ 4 ∧ (∀ w ∈ N.2.1, w.length ≤ 5) ∧ N.2.2.1.length ≤ 5
theorem okNw.W {la : Land} {N : Nw} (hl : okLand la) (h : okNw la N) : okW N := ⟨by rw [h.1]; exact hl.2.2.1, h.2.2.1, fun w hw => (h.2.2.2.1 w hw).1.2.1, h.2.2.2.2.1.2.1⟩
theorem sX3_remember {U : List Nw} {N : Nw} {s : St} {Q : St → Prop} (h : PastC U s) (hU : U.length ≤ 10) (hN : NowC 13 N s) (hW : okW N) (hQ : ∀ t, Fr (fun k => 29 ≤ k ∧ k ≤ 70) s t → PastC ((N :: U).take 10) t → Q t) : wX3_remember 29 13 s Q := by
  obtain ⟨x, hx, h1, h2, h3⟩ := h
  unfold wX3_remember
  simp (disch := omega) only [h1, lit_nI, nI_ltI, nI_leI, nI_eq, nI_clamp, vp_in_nI, forall_eq, true_and, and_true, false_and, and_false, true_implies, false_implies, implies_true, not_true, not_false_eq_true, nI_add, pk_mul, nI_sub, shl1, shr1, fa_or, fa_and, nI_m9, nI_m9s]
  refine sX2_become hN hW.1 hW.2.1 hW.2.2.1 hW.2.2.2 (by omega) (fun t hf ht => ?_)
  have e1 : t.1 29 1 = nI x := by rw [hf.1 29 (by omega)]; exact h1
  have e2 : t.1 29 2 = nI U.length := by rw [hf.1 29 (by omega)]; exact h2
  have e3 : ∀ v, (stI t 29 1 v).1 29 2 = nI U.length := fun v => by rw [rI_nj (by omega)]; exact e2
  simp (disch := omega) only [e1, e3, nI_rem, lit_nI, nI_ltI, nI_leI, nI_eq, nI_clamp, vp_in_nI, forall_eq, true_and, and_true, false_and, and_false, true_implies, false_implies, implies_true, not_true, not_false_eq_true, nI_add, pk_mul, nI_sub, shl1, shr1, fa_or, fa_and, nI_m9, nI_m9s]
  refine hQ _ ?_ ⟨(x + 1) % 10, Nat.mod_lt _ (by omega), ?_, ?_, ?_⟩
  · exact ((hf.wk (by intro k; omega)).I (by omega)).I (by omega)
  · rw [rI_nj (by omega), rI_eq]
  · rw [rI_eq, List.length_take, List.length_cons]
    by_cases c : U.length + 1 < 10
    · rw [if_pos c, Nat.min_eq_right (by omega)]
    · rw [if_neg c, Nat.min_eq_left (by omega)]
  · intro j N' hj
    have hj10 : j < 10 := by
      have := (List.getElem?_eq_some_iff.mp hj).1
      rw [List.length_take] at this
      omega
    have hf2 : ∀ v v', Fr (fun k => k = 29) t (stI (stI t 29 1 v) 29 2 v') := fun v v' => (Fr.rf.I (by omega)).I (by omega)
    rw [List.getElem?_take_of_lt hj10] at hj
    cases j with
    | zero =>
      simp at hj
      subst hj
      have : ((x + 1) % 10 + 9 - 0) % 10 = x := by omega
      rw [this]
      exact ht.fr (hf2 _ _) (by intro k; omega)
    | succ j =>
      rw [List.getElem?_cons_succ] at hj
      have hq := h3 j N' hj
      have : ((x + 1) % 10 + 9 - (j + 1)) % 10 = (x + 9 - j) % 10 := by omega
      rw [this]
      have ne : (x + 9 - j) % 10 ≠ x := by omega
      exact (hq.fr hf (by intro k; omega)).fr (hf2 _ _) (by intro k; omega)
theorem sX3_restore {U : List Nw} {N : Nw} {s : St} {Q : St → Prop} (h : PastC (N :: U) s) (hU : U.length < 10) (hW : okW N) (hQ : ∀ t, Fr (fun k => k = 29 ∨ (13 ≤ k ∧ k ≤ 16)) s t → PastC U t → NowC 13 N t → Q t) : wX3_restore 29 13 s Q := by
  obtain ⟨x, hx, h1, h2, h3⟩ := h
  unfold wX3_restore
  rw [List.length_cons] at h2
  have c : ¬ U.length + 1 = 0 := by omega
  have e3 : ∀ v, (stI s 29 1 v).1 29 2 = nI (U.length + 1) := fun v => by rw [rI_nj (by omega)]; exact h2
  have e4 : ∀ v v', (stI (stI s 29 1 v) 29 2 v').1 29 1 = v := fun v v' => by rw [rI_nj (by omega), rI_eq]
  have c2 : U.length + 1 - 1 = U.length := by omega
  have hm : (x + 10 - 1) % 10 < 10 := Nat.mod_lt _ (by omega)
  simp (disch := omega) only [h1, h2, c, e3, e4, nI_rem, c2, lit_nI, nI_ltI, nI_leI, nI_eq, nI_clamp, vp_in_nI, forall_eq, true_and, and_true, false_and, and_false, true_implies, false_implies, implies_true, not_true, not_false_eq_true, nI_add, pk_mul, nI_sub, shl1, shr1, fa_or, fa_and, nI_m9, nI_m9s]
  have h0 := h3 0 N rfl
  have hf : ∀ v v', Fr (fun k => k = 29) s (stI (stI s 29 1 v) 29 2 v') := fun v v' => (Fr.rf.I (by omega)).I (by omega)
  rw [show (x + 9 - 0) % 10 = (x + 10 - 1) % 10 by omega] at h0
  refine sX2_become (h0.fr (hf _ _) (by intro k; omega)) hW.1 hW.2.1 hW.2.2.1 hW.2.2.2 (by omega) (fun t hf2 ht => ?_)
  refine hQ t ?_ ⟨(x + 10 - 1) % 10, hm, ?_, ?_, ?_⟩ ht
  · exact ((hf _ _).wk (by intro k; omega)).tr (hf2.wk (by intro k; omega))
  · rw [hf2.1 29 (by omega), rI_nj (by omega), rI_eq]
  · rw [hf2.1 29 (by omega), rI_eq]
  · intro j N' hj
    have hj2 : j < U.length := (List.getElem?_eq_some_iff.mp hj).1
    have := h3 (j + 1) N' (by rw [List.getElem?_cons_succ]; exact hj)
    rw [show (x + 9 - (j + 1)) % 10 = ((x + 10 - 1) % 10 + 9 - j) % 10 by omega] at this
    exact (this.fr (hf _ _) (by intro k; omega)).fr hf2 (by intro k; omega)
theorem sX9_forgetAnswers {s : St} {Q : St → Prop} (hQ : ∀ t, Fr (fun k => k = 86 ∨ k = 88) s t → t.1 86 0 = 0 → t.1 88 0 = 0 → Q t) : wX9_forgetAnswers s Q := by
  unfold wX9_forgetAnswers
  simp (disch := omega) only [lit_nI, nI_ltI, nI_leI, nI_eq, nI_clamp, vp_in_nI, forall_eq, true_and, and_true, false_and, and_false, true_implies, false_implies, implies_true, not_true, not_false_eq_true, nI_add, pk_mul, nI_sub, shl1, shr1, fa_or, fa_and, nI_m9, nI_m9s]
  refine hQ _ ((Fr.rf.I (by omega)).I (by omega)) ?_ ?_
  · rw [rI_ne (by omega), rI_eq]; rfl
  · rw [rI_eq]; rfl
/-- the spec: NOW becomes another, and that can be undone -/
def push (S : Sp) (N : Nw) : Sp := (S.1, S.2.1, N, (S.2.2.1 :: S.2.2.2.1).take 10, S.2.2.2.2.1, S.2.2.2.2.2.1, S.2.2.2.2.2.2)
/-- before a change: all is as it was, but that NOW can be undone and answers are forgotten -/
theorem sX9_beforeChange {S : Sp} {s : St} {Q : St → Prop} (h : RC S s) (hok : okSp S) (hQ : ∀ t, Fr (fun k => (29 ≤ k ∧ k ≤ 70) ∨ k = 86 ∨ k = 88) s t → (∀ N u, Fr (fun k => 13 ≤ k ∧ k ≤ 16) t u → NowC 13 N u → RC (push S N) u) → Q t) : wX9_beforeChange s Q := by
  obtain ⟨a1, a2, a3, a4, a5, a6, a7, a8, a9, a10, a11⟩ := h
  obtain ⟨o1, o2, o3, o4, o5, -⟩ := hok
  unfold wX9_beforeChange
  refine sX3_remember a5 o5 a4 (o4.W o3) (fun t hf ht => ?_)
  refine sX9_forgetAnswers (fun u hf2 h1 h2 => ?_)
  have hF : Fr (fun k => (29 ≤ k ∧ k ≤ 70) ∨ k = 86 ∨ k = 88) s u := (hf.wk (by intro k; omega)).tr (hf2.wk (by intro k; omega))
  refine hQ u hF (fun N v hv hN => ?_)
  have g := a2.g
  have hT : Fr (fun k => (13 ≤ k ∧ k ≤ 16) ∨ (29 ≤ k ∧ k ≤ 70) ∨ k = 86 ∨ k = 88) s v := (hF.wk (by intro k; omega)).tr (hv.wk (by intro k; omega))
  refine ⟨a1.fr hT ⟨by omega, by omega⟩, a2.fr hT, ?_, hN, ?_, a6.fr hT ⟨by omega, by intro k; omega⟩, a7.fr hT (by omega), a8.fr hT (by intro k; omega), Or.inl ?_, Or.inl ?_, ?_⟩
  · rw [hT.2]
    exact a3.fr hT (by intro k; omega)
  · exact (ht.fr hf2 (by intro k; omega)).fr hv (by intro k; omega)
  · rw [hv.1 86 (by omega)]; exact h1
  · rw [hv.1 88 (by omega)]; exact h2
  · rw [hT.2]; exact a11
