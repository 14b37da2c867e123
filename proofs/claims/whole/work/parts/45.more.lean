/-! more of Now, Ground, Past, Stranger, Text -/
theorem sX2_dropMap {n m : Nat} {L : List Nat} {maps : List (List Nat)} {d : List Nat} {g : Nat} {s : St} {Q : St → Prop} (h : NowC n (L, maps, d, g) s) (hm : m < maps.length) (hm4 : maps.length ≤ 4) (hd : d.length ≤ 5) (hmw : ∀ w ∈ maps, w.length ≤ 5) (hQ : ∀ t, Fr (fun k => n ≤ k ∧ k ≤ n + 3) s t → NowC n (L, maps.eraseIdx m, d, g) t → Q t) : wX2_dropMap n (nI m) s Q := by
  obtain ⟨h1, h2, h3, h4, h5⟩ := h
  dsimp only at h1 h2 h3 h4 h5
  have key : ∀ e j t, j + e = maps.length - 1 → m ≤ j → Fr (fun k => k = n ∨ k = n + 2 ∨ k = n + 3) s t → t.1 n 3 = nI (maps.length - 1) → t.1 n 4 = nI g → (∀ i w, i < j → (maps.eraseIdx m)[i]? = some w → rowC n i w t) → (∀ i w, j ≤ i → maps[i]? = some w → rowC n i w t) → rowC n 4 d t → wX2_dropMap_25 n Q (e + 1) (nI j) t := by
    intro e
    induction e with
    | zero =>
      intro j t hj hmj hf e3 e4 i1 i2 i4
      unfold wX2_dropMap_25
      have c : maps.length - 1 ≤ j := by omega
      simp (disch := omega) only [e3, c, lit_nI, nI_ltI, nI_leI, nI_eq, nI_clamp, vp_in_nI, forall_eq, true_and, and_true, false_and, and_false, true_implies, false_implies, implies_true, not_true, not_false_eq_true, nI_add, pk_mul, nI_sub, shl1, shr1, fa_or, fa_and, nI_m9, nI_m9s]
      refine hQ t (hf.wk (by intro k; omega)) ⟨?_, ?_, ?_, i4, e4⟩
      · show rowAt _ 0 L
        rw [hf.1 (n + 1) (by omega)]; exact h1
      · show _ = nI (maps.eraseIdx m).length
        rw [List.length_eraseIdx, if_pos hm]; exact e3
      · intro i w hw
        dsimp only at hw
        have : i < (maps.eraseIdx m).length := (List.getElem?_eq_some_iff.mp hw).1
        rw [List.length_eraseIdx, if_pos hm] at this
        exact i1 i w (by omega) hw
    | succ e ih =>
      intro j t hj hmj hf e3 e4 i1 i2 i4
      unfold wX2_dropMap_25
      have c : ¬ maps.length - 1 ≤ j := by omega
      simp (disch := omega) only [e3, c, lit_nI, nI_ltI, nI_leI, nI_eq, nI_clamp, vp_in_nI, forall_eq, true_and, and_true, false_and, and_false, true_implies, false_implies, implies_true, not_true, not_false_eq_true, nI_add, pk_mul, nI_sub, shl1, shr1, fa_or, fa_and, nI_m9, nI_m9s]
      have hj1 : j + 1 < maps.length := by omega
      have hg : maps[j + 1]? = some maps[j + 1] := List.getElem?_eq_getElem hj1
      refine sX2_copyRow (i2 (j + 1) _ (by omega) hg) (by omega) (by omega) (hmw _ (List.getElem_mem hj1)) (fun u hf2 hr ho => ?_)
      refine ih (j + 1) u (by omega) (by omega) (hf.tr (hf2.wk (by intro k; omega))) (by rw [hf2.1 n (by omega)]; exact e3) (by rw [hf2.1 n (by omega)]; exact e4) ?_ ?_ (ho 4 d (by omega) hd i4)
      · intro i w hi hw
        by_cases c2 : i = j
        · subst c2
          rw [List.getElem?_eraseIdx, if_neg (by omega), hg] at hw
          cases hw
          exact hr
        · refine ho i w c2 ?_ (i1 i w (by omega) hw)
          exact hmw w (List.mem_of_mem_eraseIdx (List.mem_of_getElem? hw))
      · intro i w hi hw
        exact ho i w (by omega) (hmw w (List.mem_of_getElem? hw)) (i2 i w (by omega) hw)
  unfold wX2_dropMap
  have c0 : ¬ m < 0 := by omega
  have f0 : Fr (fun k => k = n ∨ k = n + 2 ∨ k = n + 3) s (stI s n 3 (nI (maps.length - 1))) := Fr.rf.I (Or.inl rfl)
  have rk : ∀ i w, rowC n i w s → rowC n i w (stI s n 3 (nI (maps.length - 1))) := fun i w hr => by
    unfold rowC
    rw [rI_ne (by omega), rI_ne (by omega)]; exact hr
  simp (disch := omega) only [h2, c0, hm, lit_nI, nI_ltI, nI_leI, nI_eq, nI_clamp, vp_in_nI, forall_eq, true_and, and_true, false_and, and_false, true_implies, false_implies, implies_true, not_true, not_false_eq_true, nI_add, pk_mul, nI_sub, shl1, shr1, fa_or, fa_and, nI_m9, nI_m9s]
  refine ⟨_, key (maps.length - 1 - m) m _ (by omega) (Nat.le_refl _) f0 rI_eq (by rw [rI_nj (by omega)]; exact h5) ?_ (fun i w _ hw => rk i w (h3 i w hw)) (rk 4 d h4)⟩
  intro i w hi hw
  rw [List.getElem?_eraseIdx, if_pos hi] at hw
  exact rk i w (h3 i w hw)
theorem sX2_empty {n : Nat} {s : St} {Q : St → Prop} (hQ : ∀ t, Fr (fun k => n ≤ k ∧ k ≤ n + 3) s t → t.1 (n + 1) = s.1 (n + 1) → NowC n ([], [], [], 0) t → Q t) : wX2_empty n s Q := by
  unfold wX2_empty
  simp (disch := omega) only [lit_nI, nI_ltI, nI_leI, nI_eq, nI_clamp, vp_in_nI, forall_eq, true_and, and_true, false_and, and_false, true_implies, false_implies, implies_true, not_true, not_false_eq_true, nI_add, pk_mul, nI_sub, shl1, shr1, fa_or, fa_and, nI_m9, nI_m9s]
  refine hQ _ (((Fr.rf.I (by omega)).I (by omega)).I (by omega)) ?_ ⟨rowAt.nil, ?_, ?_, ⟨?_, rowAt.nil⟩, ?_⟩
  · rw [rI_ne (by omega), rI_ne (by omega), rI_ne (by omega)]
  · rw [rI_ne (by omega), rI_nj (by omega), rI_eq]; rfl
  · intro m w hw; simp at hw
  · rw [rI_eq]; rfl
  · rw [rI_ne (by omega), rI_eq]
theorem sX1_empty {g : Nat} {s : St} {Q : St → Prop} (hQ : ∀ t, Fr (fun k => g ≤ k ∧ k ≤ g + 4) s t → GroundC g (2, []) t → Q t) : wX1_empty g s Q := by
  have key : ∀ d j t, j + d = 25 → Fr (fun k => g ≤ k ∧ k ≤ g + 4) s t → t.1 g 0 = nI 2 → t.1 g 1 = nI 0 → (∀ i, i < j → t.1 (g + 4) i = -9) → wX1_empty_12 g Q (d + 1) (nI j) t := by
    intro d
    induction d with
    | zero =>
      intro j t hj hf h0 h1 hi
      unfold wX1_empty_12
      have c : 25 ≤ j := by omega
      simp (disch := omega) only [c, lit_nI, nI_ltI, nI_leI, nI_eq, nI_clamp, vp_in_nI, forall_eq, true_and, and_true, false_and, and_false, true_implies, false_implies, implies_true, not_true, not_false_eq_true, nI_add, pk_mul, nI_sub, shl1, shr1, fa_or, fa_and, nI_m9, nI_m9s]
      refine hQ t hf ⟨h0, h1, ?_, ?_⟩
      · intro l a b s hl; simp at hl
      · intro a b ha hb
        exact hi _ (by omega)
    | succ d ih =>
      intro j t hj hf h0 h1 hi
      unfold wX1_empty_12
      have c : ¬ 25 ≤ j := by omega
      simp (disch := omega) only [c, lit_nI, nI_ltI, nI_leI, nI_eq, nI_clamp, vp_in_nI, forall_eq, true_and, and_true, false_and, and_false, true_implies, false_implies, implies_true, not_true, not_false_eq_true, nI_add, pk_mul, nI_sub, shl1, shr1, fa_or, fa_and, nI_m9, nI_m9s]
      refine ih (j + 1) _ (by omega) (hf.I (by omega)) (by rw [rI_ne (by omega)]; exact h0) (by rw [rI_ne (by omega)]; exact h1) ?_
      intro i hij
      by_cases e : i = j
      · subst e; rw [rI_eq]; rfl
      · rw [rI_nj e]; exact hi i (by omega)
  unfold wX1_empty
  simp (disch := omega) only [lit_nI, nI_ltI, nI_leI, nI_eq, nI_clamp, vp_in_nI, forall_eq, true_and, and_true, false_and, and_false, true_implies, false_implies, implies_true, not_true, not_false_eq_true, nI_add, pk_mul, nI_sub, shl1, shr1, fa_or, fa_and, nI_m9, nI_m9s]
  refine ⟨_, key 25 0 _ (by omega) ((Fr.rf.I (by omega)).I (by omega)) ?_ ?_ (fun i hi => by omega)⟩
  · rw [rI_nj (by omega), rI_eq]
  · rw [rI_eq]
theorem sX1_addLane {g n a b sp : Nat} {ls : List Lane} {s : St} {Q : St → Prop} (hG : GroundC g (n, ls) s) (hn : n ≤ 5) (hl : ls.length < 6) (ha : a < n) (hb : b < n) (hab : a ≠ b) (hno : lnB ls a b = none) (hQ : ∀ t, Fr (fun k => g ≤ k ∧ k ≤ g + 4) s t → GroundC g (n, ls ++ [(a, b, sp)]) t → Q t) : wX1_addLane g (nI a) (nI b) (nI sp) s Q := by
  obtain ⟨h0, h1, h2, h3⟩ := hG
  dsimp only at h0 h1 h2 h3
  unfold wX1_addLane
  have c1 : ¬ 6 ≤ ls.length := by omega
  have c2 : ¬ a < 0 := by omega
  have c3 : ¬ n ≤ a := by omega
  have c4 : ¬ b < 0 := by omega
  have r1 : ∀ v, (stI s (g + 1) ls.length v).1 g 1 = nI ls.length := fun v => by rw [rI_ne (by omega)]; exact h1
  have r2 : ∀ t v, t.1 g 1 = nI ls.length → (stI t (g + 2) ls.length v).1 g 1 = nI ls.length := fun t v h => by rw [rI_ne (by omega)]; exact h
  have r3 : ∀ t v, t.1 g 1 = nI ls.length → (stI t (g + 3) ls.length v).1 g 1 = nI ls.length := fun t v h => by rw [rI_ne (by omega)]; exact h
  have r4 : ∀ t i v, t.1 g 1 = nI ls.length → (stI t (g + 4) i v).1 g 1 = nI ls.length := fun t i v h => by rw [rI_ne (by omega)]; exact h
  simp (disch := omega) only [h0, h1, c1, c2, c3, c4, hb, r1, r2 _ _ (r1 _), r3 _ _ (r2 _ _ (r1 _)), r4 _ _ _ (r3 _ _ (r2 _ _ (r1 _))), r4 _ _ _ (r4 _ _ _ (r3 _ _ (r2 _ _ (r1 _)))), lit_nI, nI_ltI, nI_leI, nI_eq, nI_clamp, vp_in_nI, forall_eq, true_and, and_true, false_and, and_false, true_implies, false_implies, implies_true, not_true, not_false_eq_true, nI_add, pk_mul, nI_sub, shl1, shr1, fa_or, fa_and, nI_m9, nI_m9s]
  refine hQ _ ?_ ⟨?_, ?_, ?_, ?_⟩
  · exact (((((Fr.rf.I (by omega)).I (by omega)).I (by omega)).I (by omega)).I (by omega)).I (by omega)
  · show _ = nI n
    rw [rI_nj (by omega), rI_ne (by omega), rI_ne (by omega), rI_ne (by omega), rI_ne (by omega), rI_ne (by omega)]; exact h0
  · show _ = nI (ls ++ [(a, b, sp)]).length
    rw [rI_eq, List.length_append]; rfl
  · intro l a' b' s' hl'
    dsimp only at hl'
    have q1 : ∀ j, (stI (stI (stI (stI (stI (stI s (g + 1) ls.length (nI a)) (g + 2) ls.length (nI b)) (g + 3) ls.length (nI sp)) (g + 4) (a * 5 + b) (nI ls.length)) (g + 4) (b * 5 + a) (nI ls.length)) g 1 (nI (ls.length + 1))).1 (g + 1) j = if j = ls.length then nI a else s.1 (g + 1) j := fun j => by simp [rI]
    have q2 : ∀ j, (stI (stI (stI (stI (stI (stI s (g + 1) ls.length (nI a)) (g + 2) ls.length (nI b)) (g + 3) ls.length (nI sp)) (g + 4) (a * 5 + b) (nI ls.length)) (g + 4) (b * 5 + a) (nI ls.length)) g 1 (nI (ls.length + 1))).1 (g + 2) j = if j = ls.length then nI b else s.1 (g + 2) j := fun j => by simp [rI]
    have q3 : ∀ j, (stI (stI (stI (stI (stI (stI s (g + 1) ls.length (nI a)) (g + 2) ls.length (nI b)) (g + 3) ls.length (nI sp)) (g + 4) (a * 5 + b) (nI ls.length)) (g + 4) (b * 5 + a) (nI ls.length)) g 1 (nI (ls.length + 1))).1 (g + 3) j = if j = ls.length then nI sp else s.1 (g + 3) j := fun j => by simp [rI]
    rw [q1, q2, q3]
    by_cases c : l < ls.length
    · rw [List.getElem?_append_left c] at hl'
      have := h2 l a' b' s' hl'
      rw [if_neg (by omega), if_neg (by omega), if_neg (by omega)]
      exact this
    · rw [List.getElem?_append_right (by omega)] at hl'
      have hz : l - ls.length = 0 := by
        cases hh : l - ls.length with
        | zero => rfl
        | succ q => rw [hh] at hl'; simp at hl'
      rw [hz] at hl'
      simp at hl'
      obtain ⟨rfl, rfl, rfl⟩ := hl'
      have : l = ls.length := by omega
      rw [this, if_pos rfl, if_pos rfl, if_pos rfl]
      exact ⟨rfl, rfl, rfl⟩
  · intro a' b' ha' hb'
    show _ = lnI (ls ++ [(a, b, sp)]) a' b'
    rw [lnI_app ls a b sp a' b' hno, rI_ne (by omega), rI, rI, rI_ne (by omega), rI_ne (by omega), rI_ne (by omega), h3 a' b' ha' hb']
    by_cases c1 : a' = b ∧ b' = a
    · obtain ⟨rfl, rfl⟩ := c1
      simp
    · by_cases c2 : a' = a ∧ b' = b
      · obtain ⟨rfl, rfl⟩ := c2
        simp
      · rw [if_neg (by omega), if_neg (by omega), if_neg (by omega)]
theorem nI_rem {a : Nat} (h : a < 2 ^ 31) : nI a - nI a / nI 10 * nI 10 = nI (a % 10) := pk_rem h (by omega) (by omega)
theorem sX6_add {t : List (Nat × Nat)} {l i : Nat} {s : St} {Q : Int32 → St → Prop} (h : StrC t s) (hl : l < 6) (hi : i ≤ 1) (ht : t.length < 6) (hb1 : tookB t 1 < 64) (hb0 : tookB t 0 < 64) (hQ : ∀ u, Fr (fun k => k = 89) s u → StrC (t ++ [(l, i)]) u → Q 1 u) : wX6_add 89 (nI l) (nI i) s Q := by
  obtain ⟨h1, h2, h3⟩ := h
  unfold wX6_add wX6_add_43
  have r0 : ∀ j v, j ≠ 0 → (stI s 89 j v).1 89 0 = nI t.length := fun j v hj => by rw [rI_nj (fun z => hj z.symm)]; exact h1
  have e1 : tookB (t ++ [(l, i)]) 1 = if i = 1 then tookB t 1 ||| 2 ^ l else tookB t 1 := by unfold tookB; rw [List.foldl_append]; rfl
  have e0 : tookB (t ++ [(l, i)]) 0 = if i = 0 then tookB t 0 ||| 2 ^ l else tookB t 0 := by unfold tookB; rw [List.foldl_append]; rfl
  by_cases c : i = 1
  · simp (disch := omega) only [h1, h2, h3, ht, c, r0 1 _ (by omega), lit_nI, nI_ltI, nI_leI, nI_eq, nI_clamp, vp_in_nI, forall_eq, true_and, and_true, false_and, and_false, true_implies, false_implies, implies_true, not_true, not_false_eq_true, nI_add, pk_mul, nI_sub, shl1, shr1, fa_or, fa_and, nI_m9, nI_m9s]
    refine hQ _ ((Fr.rf.I (by omega)).I (by omega)) ⟨?_, ?_, ?_⟩
    · rw [rI_eq, List.length_append]; rfl
    · rw [e1, if_pos c, rI_nj (by omega), rI_eq]
    · rw [e0, if_neg (by omega), rI_nj (by omega), rI_nj (by omega)]; exact h3
  · have c0 : i = 0 := by omega
    simp (disch := omega) only [h1, h2, h3, ht, c, r0 2 _ (by omega), lit_nI, nI_ltI, nI_leI, nI_eq, nI_clamp, vp_in_nI, forall_eq, true_and, and_true, false_and, and_false, true_implies, false_implies, implies_true, not_true, not_false_eq_true, nI_add, pk_mul, nI_sub, shl1, shr1, fa_or, fa_and, nI_m9, nI_m9s]
    refine hQ _ ((Fr.rf.I (by omega)).I (by omega)) ⟨?_, ?_, ?_⟩
    · rw [rI_eq, List.length_append]; rfl
    · rw [e1, if_neg c, rI_nj (by omega), rI_nj (by omega)]; exact h2
    · rw [e0, if_pos c0, rI_nj (by omega), rI_eq]
