/-! the reference: burns, undo, took, forget, keep, back, lanes of maps, lane, knot, rate -/
section MK3
variable {x : Nat} {S : Sp} {s : St}
theorem kX10_forget {Q : Int32 → St → Prop} (h : RM x S s) (hQ : ∀ t, RM x (cForget S).2 t → Fr (fun k => x ≤ k) s t → Q (cForget S).1 t) : wX10_forget x s Q := by
  unfold wX10_forget
  refine thM h (fun s' h' hf => ?_)
  intro t ht
  subst ht
  rw [h'.2.2.2.2.2.1.1]
  refine hQ _ ?_ (hf.I (Nat.le_refl _))
  obtain ⟨a1, a2, a3, a4, a5, a6, a7, a8⟩ := h'
  have ne : ∀ c, 0 < c → (stI s' x 21 (0 : Int32)).1 (x + c) = s'.1 (x + c) := fun c hc => by rw [rI_ne (by omega)]
  have nj : ∀ j, j ≠ 21 → (stI s' x 21 (0 : Int32)).1 x j = s'.1 x j := fun j hj => by rw [rI_nj hj]
  exact ⟨a1.cg (nj 3 (by omega)) (ne 1 (by omega)), a2.cg (ne 2 (by omega)) (ne 3 (by omega)) (ne 4 (by omega)) (ne 5 (by omega)), by rw [ne 7 (by omega)]; exact a3, a4.cg (nj 18 (by omega)) (ne 10 (by omega)), a5.cg (ne 8 (by omega)) (ne 9 (by omega)), ⟨rI_eq, fun k l i hk => by simp [cForget, setK] at hk⟩, a7.cg (nj 26 (by omega)) (ne 13 (by omega)) (ne 15 (by omega)) (ne 16 (by omega)) (congrFun (ne 14 (by omega)) 0), a8⟩
theorem kX10_took {v y : Int32} {Q : Int32 → St → Prop} (h : RM x S s) (hok : okSp S) (hQ : ∀ t, RM x (cTook S v y).2 t → Fr (fun k => x ≤ k) s t → Q (cTook S v y).1 t) : wX10_took x v y s Q := by
  obtain ⟨o1, o2, o3, o4, o5, o6, o7, o8, o9, o10⟩ := hok
  have l6 := o3.2.2.1
  unfold cTook at hQ
  unfold wX10_took
  refine thM h (fun s' h' hf => ?_)
  refine sX10_isLane h'.2.1 l6 (fun hx => ⟨fun _ => ?_, fun z => absurd rfl z⟩) (fun l hx => ⟨fun z => absurd z (by decide), fun _ => ?_⟩)
  · rw [hx] at hQ; exact hQ s' h' hf
  · obtain ⟨hl, rfl⟩ := num_lt (by omega) hx
    rw [hx] at hQ
    dsimp only at hQ
    refine sX10_in (n := 2) (by rfl) (by omega) (fun hy => ⟨fun z => absurd rfl z, fun _ => ?_⟩) (fun i hy => ⟨fun _ => ?_, fun z => absurd z (by decide)⟩)
    · rw [hy] at hQ; exact hQ s' h' hf
    · obtain ⟨hi, rfl⟩ := num_lt (by omega) hy
      rw [hy] at hQ
      dsimp only at hQ
      have e21 := h'.2.2.2.2.2.1.1
      by_cases c : S.2.2.2.2.2.1.length < 6
      · rw [if_pos c] at hQ
        have c2 : ¬ S.2.2.2.2.2.1.length = 6 := by omega
        have r1 : ∀ j w, (stI s' (x + 11) j w).1 x 21 = nI S.2.2.2.2.2.1.length := fun j w => by rw [rI_ne (by omega)]; exact e21
        have r2 : ∀ j w j' w', (stI (stI s' (x + 11) j w) (x + 12) j' w').1 x 21 = nI S.2.2.2.2.2.1.length := fun j w j' w' => by rw [rI_ne (by omega)]; exact r1 j w
        have r3 : ∀ u w, (stI u x 21 w).1 x 21 = w := fun u w => rI_eq
        simp (disch := omega) only [e21, c2, r1, r2, r3, lit_nI, nI_ltI, nI_leI, nI_eq, nI_clamp, vp_in_nI, forall_eq, true_and, and_true, false_and, and_false, true_implies, false_implies, implies_true, not_true, not_false_eq_true, nI_add, pk_mul, nI_sub, shl1, shr1, fa_or, fa_and, nI_m9, nI_m9s]
        generalize hu : stI (stI (stI s' (x + 11) S.2.2.2.2.2.1.length (nI l)) (x + 12) S.2.2.2.2.2.1.length (nI i)) x 21 (nI (S.2.2.2.2.2.1.length + 1)) = u
        have hf2 : Fr (fun k => x ≤ k) s' u := by rw [← hu]; exact ((Fr.rf.I (by omega)).I (by omega)).I (by omega)
        refine hQ u ?_ (hf.tr hf2)
        obtain ⟨a1, a2, a3, a4, a5, a6, a7, a8⟩ := h'
        have ne : ∀ c, 0 < c → c ≠ 11 → c ≠ 12 → u.1 (x + c) = s'.1 (x + c) := fun c h1 h2 h3 => by rw [← hu, rI_ne (by omega), rI_ne (by omega), rI_ne (by omega)]
        have nj : ∀ j, j ≠ 21 → u.1 x j = s'.1 x j := fun j hj => by rw [← hu, rI_nj hj, rI_ne (by omega), rI_ne (by omega)]
        have q11 : ∀ j, u.1 (x + 11) j = if j = S.2.2.2.2.2.1.length then nI l else s'.1 (x + 11) j := fun j => by rw [← hu]; simp [rI]
        have q12 : ∀ j, u.1 (x + 12) j = if j = S.2.2.2.2.2.1.length then nI i else s'.1 (x + 12) j := fun j => by rw [← hu]; simp [rI]
        refine ⟨a1.cg (nj 3 (by omega)) (ne 1 (by omega) (by omega) (by omega)), a2.cg (ne 2 (by omega) (by omega) (by omega)) (ne 3 (by omega) (by omega) (by omega)) (ne 4 (by omega) (by omega) (by omega)) (ne 5 (by omega) (by omega) (by omega)), by rw [ne 7 (by omega) (by omega) (by omega)]; exact a3, a4.cg (nj 18 (by omega)) (ne 10 (by omega) (by omega) (by omega)), a5.cg (ne 8 (by omega) (by omega) (by omega)) (ne 9 (by omega) (by omega) (by omega)), ⟨?_, ?_⟩, a7.cg (nj 26 (by omega)) (ne 13 (by omega) (by omega) (by omega)) (ne 15 (by omega) (by omega) (by omega)) (ne 16 (by omega) (by omega) (by omega)) (congrFun (ne 14 (by omega) (by omega) (by omega)) 0), by rw [hf2.2]; exact a8⟩
        · show _ = nI (S.2.2.2.2.2.1 ++ [(l, i)]).length
          rw [← hu, rI_eq, List.length_append]; rfl
        · intro k l' i' hk
          have hk' : (S.2.2.2.2.2.1 ++ [(l, i)])[k]? = some (l', i') := hk
          rw [q11, q12]
          by_cases ck : k < S.2.2.2.2.2.1.length
          · rw [List.getElem?_append_left ck] at hk'
            rw [if_neg (by omega), if_neg (by omega)]
            exact a6.2 k l' i' hk'
          · have hkk : k < (S.2.2.2.2.2.1 ++ [(l, i)]).length := (List.getElem?_eq_some_iff.mp hk').1
            rw [List.length_append] at hkk
            simp at hkk
            have : k = S.2.2.2.2.2.1.length := by omega
            subst this
            rw [List.getElem?_append_right (Nat.le_refl _)] at hk'
            simp at hk'
            obtain ⟨rfl, rfl⟩ := hk'
            rw [if_pos rfl, if_pos rfl]
            exact ⟨rfl, rfl⟩
      · rw [if_neg c] at hQ
        have c2 : S.2.2.2.2.2.1.length = 6 := by omega
        simp (disch := omega) only [e21, c2, lit_nI, nI_ltI, nI_leI, nI_eq, nI_clamp, vp_in_nI, forall_eq, true_and, and_true, false_and, and_false, true_implies, false_implies, implies_true, not_true, not_false_eq_true, nI_add, pk_mul, nI_sub, shl1, shr1, fa_or, fa_and, nI_m9, nI_m9s]
        exact hQ s' h' hf
theorem kX10_undo {Q : Int32 → St → Prop} (h : RM x S s) (hok : okSp S) (hQ : ∀ t, RM x (cUndo S).2 t → Fr (fun k => x ≤ k) s t → Q (cUndo S).1 t) : wX10_undo x s Q := by
  obtain ⟨o1, o2, o3, o4, o5, o6, -⟩ := hok
  unfold cUndo at hQ
  unfold wX10_undo
  refine thM h (fun s' h' hf => ?_)
  have e18 := h'.2.2.2.1.1
  cases hU : S.2.2.2.1 with
  | nil =>
    rw [hU] at hQ e18
    simp (disch := omega) only [e18, List.length_nil, lit_nI, nI_ltI, nI_leI, nI_eq, nI_clamp, vp_in_nI, forall_eq, true_and, and_true, false_and, and_false, true_implies, false_implies, implies_true, not_true, not_false_eq_true, nI_add, pk_mul, nI_sub, shl1, shr1, fa_or, fa_and, nI_m9, nI_m9s]
    exact hQ s' h' hf
  | cons N U =>
    rw [hU] at hQ e18 o5 o6
    rw [List.length_cons] at e18 o5
    have hW := (o6 N List.mem_cons_self).W o3
    refine ⟨fun _ => ?_, fun z => ?_⟩
    · intro t ht
      subst ht
      rw [e18, show nI (U.length + 1) - 1 = nI U.length from nI_pred _]
      have h0 := h'.2.2.2.1
      rw [hU] at h0
      have key : ∀ d k u, k + d = 38 → Fr (fun k => k = x + 7) (stI s' x 18 (nI U.length)) u → (∀ i, i < k → u.1 (x + 7) i = s'.1 (x + 10) (38 * U.length + i)) → wX10_undo_27 x Q (d + 1) (nI k) u := by
        intro d
        induction d with
        | zero =>
          intro k u hk hfu h1
          unfold wX10_undo_27
          have e : 38 ≤ k := by omega
          have e18' : u.1 x 18 = nI U.length := by rw [hfu.1 x (by omega), rI_eq]
          simp (disch := omega) only [e, e18', lit_nI, nI_ltI, nI_leI, nI_eq, nI_clamp, vp_in_nI, forall_eq, true_and, and_true, false_and, and_false, true_implies, false_implies, implies_true, not_true, not_false_eq_true, nI_add, pk_mul, nI_sub, shl1, shr1, fa_or, fa_and, nI_m9, nI_m9s]
          obtain ⟨a1, a2, a3, a4, a5, a6, a7, a8⟩ := h'
          have ne : ∀ c, 0 < c → c ≠ 7 → u.1 (x + c) = s'.1 (x + c) := fun c h1 h2 => by rw [hfu.1 _ (by omega), rI_ne (by omega)]
          have nj : ∀ j, j ≠ 18 → u.1 x j = s'.1 x j := fun j hj => by rw [hfu.1 _ (by omega), rI_nj hj]
          refine hQ u ⟨a1.cg (nj 3 (by omega)) (ne 1 (by omega) (by omega)), a2.cg (ne 2 (by omega) (by omega)) (ne 3 (by omega) (by omega)) (ne 4 (by omega) (by omega)) (ne 5 (by omega) (by omega)), ?_, ⟨e18', ?_⟩, a5.cg (ne 8 (by omega) (by omega)) (ne 9 (by omega) (by omega)), a6.cg (nj 21 (by omega)) (ne 11 (by omega) (by omega)) (ne 12 (by omega) (by omega)), a7.cg (nj 26 (by omega)) (ne 13 (by omega) (by omega)) (ne 15 (by omega) (by omega)) (ne 16 (by omega) (by omega)) (congrFun (ne 14 (by omega) (by omega)) 0), by rw [hfu.2]; exact a8⟩ ((hf.I (Nat.le_refl _)).tr (hfu.wk (by intro k; omega)))
          · have := h0.2 0 N rfl
            refine this.cp hW (fun i hi => ?_)
            rw [Nat.zero_add, h1 i (by omega), List.length_cons]
            exact congrArg (s'.1 (x + 10)) (by omega)
          · intro j M hM
            rw [ne 10 (by omega) (by omega)]
            have hj : j < U.length := (List.getElem?_eq_some_iff.mp hM).1
            have := h0.2 (j + 1) M (by rw [List.getElem?_cons_succ]; exact hM)
            rw [List.length_cons, show U.length + 1 - 1 - (j + 1) = U.length - 1 - j by omega] at this
            exact this
        | succ d ih =>
          intro k u hk hfu h1
          unfold wX10_undo_27
          have e : ¬ 38 ≤ k := by omega
          have e18' : u.1 x 18 = nI U.length := by rw [hfu.1 x (by omega), rI_eq]
          have e10 : u.1 (x + 10) = s'.1 (x + 10) := by rw [hfu.1 _ (by omega), rI_ne (by omega)]
          simp (disch := omega) only [e, e18', e10, lit_nI, nI_ltI, nI_leI, nI_eq, nI_clamp, vp_in_nI, forall_eq, true_and, and_true, false_and, and_false, true_implies, false_implies, implies_true, not_true, not_false_eq_true, nI_add, pk_mul, nI_sub, shl1, shr1, fa_or, fa_and, nI_m9, nI_m9s]
          refine ih (k + 1) _ (by omega) (Fr.I (k := x + 7) hfu rfl) (fun i hi => ?_)
          by_cases c : i = k
          · subst c; rw [rI_eq]
          · rw [rI_nj c]; exact h1 i (by omega)
      exact ⟨_, key 38 0 _ (by omega) Fr.rf (fun i hi => by omega)⟩
    · rw [e18] at z
      exact absurd z (nI_ne0 (by omega) (by omega))
theorem kX10_keep {v : Int32} {Q : Int32 → St → Prop} (h : RM x S s) (hok : okSp S) (hQ : ∀ t, RM x (cKeep S v).2 t → Fr (fun k => x ≤ k) s t → Q (cKeep S v).1 t) : wX10_keep x v s Q := by
  obtain ⟨o1, o2, o3, o4, o5, o6, o7, o8, -⟩ := hok
  have hW := o4.W o3
  unfold cKeep at hQ
  unfold wX10_keep
  refine thM h (fun s' h' hf => ?_)
  refine sX10_in (n := 2) (by rfl) (by omega) (fun hx => ⟨fun z => absurd rfl z, fun _ => ?_⟩) (fun i hx => ⟨fun _ => ?_, fun z => absurd z (by decide)⟩)
  · rw [hx] at hQ; exact hQ s' h' hf
  · obtain ⟨hi, rfl⟩ := num_lt (by omega) hx
    rw [hx] at hQ
    dsimp only at hQ
    have key : ∀ (K : St → Prop), (∀ u, Fr (fun k => k = x + 8) s' u → (∀ j, u.1 (x + 8) j = if 38 * i ≤ j ∧ j < 38 * i + 38 then s'.1 (x + 7) (j - 38 * i) else s'.1 (x + 8) j) → K u) → ∀ d k u, k + d = 38 → Fr (fun k => k = x + 8) s' u → (∀ j, u.1 (x + 8) j = if 38 * i ≤ j ∧ j < 38 * i + k then s'.1 (x + 7) (j - 38 * i) else s'.1 (x + 8) j) → wX10_keep_18 x (nI i) K Q (d + 1) (nI k) u := by
      intro K hK d
      induction d with
      | zero =>
        intro k u hk hfu h1
        unfold wX10_keep_18
        have e : 38 ≤ k := by omega
        have ek : k = 38 := by omega
        subst ek
        simp (disch := omega) only [e, lit_nI, nI_ltI, nI_leI, nI_eq, nI_clamp, vp_in_nI, forall_eq, true_and, and_true, false_and, and_false, true_implies, false_implies, implies_true, not_true, not_false_eq_true, nI_add, pk_mul, nI_sub, shl1, shr1, fa_or, fa_and, nI_m9, nI_m9s]
        exact hK u hfu h1
      | succ d ih =>
        intro k u hk hfu h1
        unfold wX10_keep_18
        have e : ¬ 38 ≤ k := by omega
        have e7 : u.1 (x + 7) = s'.1 (x + 7) := hfu.1 _ (by omega)
        simp (disch := omega) only [e, e7, lit_nI, nI_ltI, nI_leI, nI_eq, nI_clamp, vp_in_nI, forall_eq, true_and, and_true, false_and, and_false, true_implies, false_implies, implies_true, not_true, not_false_eq_true, nI_add, pk_mul, nI_sub, shl1, shr1, fa_or, fa_and, nI_m9, nI_m9s]
        refine ih (k + 1) _ (by omega) (Fr.I (k := x + 8) hfu rfl) (fun j => ?_)
        by_cases c : j = 38 * i + k
        · subst c
          rw [rI_eq, if_pos (by omega)]
          exact congrArg (s'.1 (x + 7)) (by omega)
        · rw [rI_nj c, h1]
          by_cases c2 : 38 * i ≤ j ∧ j < 38 * i + k
          · rw [if_pos c2, if_pos (by omega)]
          · rw [if_neg c2, if_neg (by omega)]
    refine ⟨_, key _ (fun u hfu h1 => ?_) 38 0 s' (by omega) Fr.rf (fun j => by rw [if_neg (by omega)])⟩
    have e6 : ∀ w, (stI u (x + 9) i w).1 (x + 7) 6 = nI S.2.2.1.2.1.length := fun w => by rw [rI_ne (by omega), hfu.1 _ (by omega)]; exact h'.2.2.1.2.1
    simp (disch := omega) only [e6, lit_nI, nI_ltI, nI_leI, nI_eq, nI_clamp, vp_in_nI, forall_eq, true_and, and_true, false_and, and_false, true_implies, false_implies, implies_true, not_true, not_false_eq_true, nI_add, pk_mul, nI_sub, shl1, shr1, fa_or, fa_and, nI_m9, nI_m9s]
    generalize hw : stI u (x + 9) i (nI 1) = w
    have hf2 : Fr (fun k => x ≤ k) s' w := by rw [← hw]; exact (hfu.wk (by intro k; omega)).I (by omega)
    obtain ⟨a1, a2, a3, a4, ⟨i1, i2, i3, i4⟩, a6, a7, a8⟩ := h'
    have ne : ∀ c, c ≠ 8 → c ≠ 9 → w.1 (x + c) = s'.1 (x + c) := fun c h2 h3 => by rw [← hw, rI_ne (by omega), hfu.1 _ (by omega)]
    have nx : w.1 x = s'.1 x := ne 0 (by omega) (by omega)
    have q9 : ∀ j, w.1 (x + 9) j = if j = i then nI 1 else s'.1 (x + 9) j := fun j => by rw [← hw, rI]; simp; rw [hfu.1 (x + 9) (by omega)]
    have q8 : w.1 (x + 8) = u.1 (x + 8) := by rw [← hw, rI_ne (by omega)]
    refine hQ w ⟨a1.cg (by rw [nx]) (ne 1 (by omega) (by omega)), a2.cg (ne 2 (by omega) (by omega)) (ne 3 (by omega) (by omega)) (ne 4 (by omega) (by omega)) (ne 5 (by omega) (by omega)), by rw [ne 7 (by omega) (by omega)]; exact a3, a4.cg (by rw [nx]) (ne 10 (by omega) (by omega)), ?_, a6.cg (by rw [nx]) (ne 11 (by omega) (by omega)) (ne 12 (by omega) (by omega)), a7.cg (by rw [nx]) (ne 13 (by omega) (by omega)) (ne 15 (by omega) (by omega)) (ne 16 (by omega) (by omega)) (congrFun (ne 14 (by omega) (by omega)) 0), by rw [hf2.2]; exact a8⟩ (hf.tr hf2)
    show ImgM x (setI S i) w
    unfold setI
    rcases (show i = 0 ∨ i = 1 by omega) with rfl | rfl
    · rw [if_pos rfl]
      refine ⟨by rw [q9]; rfl, by rw [q9, if_neg (by omega)]; exact i2, fun N hN => ?_, fun N hN => ?_⟩
      · cases hN
        rw [q8]
        refine a3.cp hW (fun k hk => ?_)
        rw [h1, if_pos (by omega)]
        exact congrArg (s'.1 (x + 7)) (by omega)
      · rw [q8]
        refine (i4 N hN).cp ((o8 N hN).W o3) (fun k hk => ?_)
        rw [h1, if_neg (by omega)]
    · rw [if_neg (by omega)]
      refine ⟨by rw [q9, if_neg (by omega)]; exact i1, by rw [q9]; rfl, fun N hN => ?_, fun N hN => ?_⟩
      · rw [q8]
        refine (i3 N hN).cp ((o7 N hN).W o3) (fun k hk => ?_)
        rw [h1, if_neg (by omega)]
      · cases hN
        rw [q8]
        refine a3.cp hW (fun k hk => ?_)
        rw [h1, if_pos (by omega)]
        exact congrArg (s'.1 (x + 7)) (by omega)
theorem kX10_back {v : Int32} {Q : Int32 → St → Prop} (h : RM x S s) (hok : okSp S) (hQ : ∀ t, RM x (cBack S v).2 t → Fr (fun k => x ≤ k) s t → Q (cBack S v).1 t) : wX10_back x v s Q := by
  obtain ⟨o1, o2, o3, o4, o5, o6, o7, o8, -⟩ := hok
  unfold cBack at hQ
  unfold wX10_back
  refine thM h (fun s' h' hf => ?_)
  refine sX10_in (n := 2) (by rfl) (by omega) (fun hx => ⟨fun z => absurd rfl z, fun _ => ?_⟩) (fun i hx => ⟨fun _ => ?_, fun z => absurd z (by decide)⟩)
  · rw [hx] at hQ; exact hQ s' h' hf
  · obtain ⟨hi, rfl⟩ := num_lt (by omega) hx
    rw [hx] at hQ
    dsimp only at hQ
    have hI := h'.2.2.2.2.1
    obtain ⟨i1, i2, i3, i4⟩ := hI
    have e9 : s'.1 (x + 9) i = (if (imgOf S i).isSome then 1 else 0) := by
      unfold imgOf
      rcases (show i = 0 ∨ i = 1 by omega) with rfl | rfl
      · exact i1
      · exact i2
    refine ⟨vp_in_nI (by omega) (by omega), ?_⟩
    rw [nI_clamp (by omega), e9]
    cases hz : imgOf S i with
    | none =>
      rw [hz] at hQ
      exact ⟨fun z => absurd rfl z, fun _ => hQ s' h' hf⟩
    | some N =>
      rw [hz] at hQ
      dsimp only at hQ
      have hN : NowM (s'.1 (x + 8)) (38 * i) N ∧ okNw S.2.1 N := by
        unfold imgOf at hz
        rcases (show i = 0 ∨ i = 1 by omega) with rfl | rfl
        · rw [if_pos rfl] at hz; exact ⟨i3 N hz, o7 N hz⟩
        · rw [if_neg (by omega)] at hz; exact ⟨i4 N hz, o8 N hz⟩
      have hW := hN.2.W o3
      refine ⟨fun _ => ?_, fun z => absurd z (show ¬ ((1 : Int32) = 0) by decide)⟩
      have key : ∀ (K : St → Prop), (∀ u, Fr (fun k => k = x + 7) s' u → (∀ j, j < 38 → u.1 (x + 7) j = s'.1 (x + 8) (38 * i + j)) → K u) → ∀ d k u, k + d = 38 → Fr (fun k => k = x + 7) s' u → (∀ j, j < k → u.1 (x + 7) j = s'.1 (x + 8) (38 * i + j)) → wX10_back_30 x (nI i) K Q (d + 1) (nI k) u := by
        intro K hK d
        induction d with
        | zero =>
          intro k u hk hfu h1
          unfold wX10_back_30
          have e : 38 ≤ k := by omega
          have ek : k = 38 := by omega
          subst ek
          simp (disch := omega) only [e, lit_nI, nI_ltI, nI_leI, nI_eq, nI_clamp, vp_in_nI, forall_eq, true_and, and_true, false_and, and_false, true_implies, false_implies, implies_true, not_true, not_false_eq_true, nI_add, pk_mul, nI_sub, shl1, shr1, fa_or, fa_and, nI_m9, nI_m9s]
          exact hK u hfu h1
        | succ d ih =>
          intro k u hk hfu h1
          unfold wX10_back_30
          have e : ¬ 38 ≤ k := by omega
          have e8 : u.1 (x + 8) = s'.1 (x + 8) := hfu.1 _ (by omega)
          simp (disch := omega) only [e, e8, lit_nI, nI_ltI, nI_leI, nI_eq, nI_clamp, vp_in_nI, forall_eq, true_and, and_true, false_and, and_false, true_implies, false_implies, implies_true, not_true, not_false_eq_true, nI_add, pk_mul, nI_sub, shl1, shr1, fa_or, fa_and, nI_m9, nI_m9s]
          refine ih (k + 1) _ (by omega) (Fr.I (k := x + 7) hfu rfl) (fun j hj => ?_)
          by_cases c : j = k
          · subst c; rw [rI_eq]
          · rw [rI_nj c]; exact h1 j (by omega)
      refine ⟨_, key _ (fun u hfu h1 => ?_) 38 0 s' (by omega) Fr.rf (fun j hj => by omega)⟩
      have hN2 : NowM (u.1 (x + 7)) 0 N := hN.1.cp hW (fun k hk => by rw [Nat.zero_add]; exact h1 k hk)
      have e6 : ∀ w, (stI u x 18 w).1 (x + 7) 6 = nI N.2.1.length := fun w => by rw [rI_ne (by omega)]; exact hN2.2.1
      simp (disch := omega) only [e6, lit_nI, nI_ltI, nI_leI, nI_eq, nI_clamp, vp_in_nI, forall_eq, true_and, and_true, false_and, and_false, true_implies, false_implies, implies_true, not_true, not_false_eq_true, nI_add, pk_mul, nI_sub, shl1, shr1, fa_or, fa_and, nI_m9, nI_m9s]
      generalize hw : stI u x 18 (nI 0) = w
      have hf2 : Fr (fun k => x ≤ k) s' w := by rw [← hw]; exact (hfu.wk (by intro k; omega)).I (by omega)
      obtain ⟨a1, a2, a3, a4, a5, a6, a7, a8⟩ := h'
      have ne : ∀ c, 0 < c → c ≠ 7 → w.1 (x + c) = s'.1 (x + c) := fun c h2 h3 => by rw [← hw, rI_ne (by omega), hfu.1 _ (by omega)]
      have nj : ∀ j, j ≠ 18 → w.1 x j = s'.1 x j := fun j hj => by rw [← hw, rI_nj hj, hfu.1 x (by omega)]
      exact hQ w ⟨a1.cg (nj 3 (by omega)) (ne 1 (by omega) (by omega)), a2.cg (ne 2 (by omega) (by omega)) (ne 3 (by omega) (by omega)) (ne 4 (by omega) (by omega)) (ne 5 (by omega) (by omega)), by rw [← hw, rI_ne (by omega)]; exact hN2, ⟨by rw [← hw, rI_eq]; rfl, fun j M hM => by simp [setN] at hM⟩, a5.cg (ne 8 (by omega) (by omega)) (ne 9 (by omega) (by omega)), a6.cg (nj 21 (by omega)) (ne 11 (by omega) (by omega)) (ne 12 (by omega) (by omega)), a7.cg (nj 26 (by omega)) (ne 13 (by omega) (by omega)) (ne 15 (by omega) (by omega)) (ne 16 (by omega) (by omega)) (congrFun (ne 14 (by omega) (by omega)) 0), by rw [hf2.2]; exact a8⟩ (hf.tr hf2)
end MK3
