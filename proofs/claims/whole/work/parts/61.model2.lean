/-! the reference: rows, notes -/
theorem NowM.cp {f f' : Nat → Int32} {o o' : Nat} {N : Nw} (h : NowM f o N) (hW : okW N) (hc : ∀ k, k < 38 → f' (o' + k) = f (o + k)) : NowM f' o' N := by
  obtain ⟨h1, h2, h3, h4, h5, h6⟩ := h
  obtain ⟨w1, w2, w3, w4⟩ := hW
  refine ⟨?_, ?_, ?_, ?_, ?_, ?_⟩
  · intro k p hp
    have hk : k < N.1.length := (List.getElem?_eq_some_iff.mp hp).1
    rw [hc k (by omega)]; exact h1 k p hp
  · rw [hc 6 (by omega)]; exact h2
  · intro m w hw
    have hm : m < N.2.1.length := (List.getElem?_eq_some_iff.mp hw).1
    have hl := w3 w (List.mem_of_getElem? hw)
    obtain ⟨e1, e2⟩ := h3 m w hw
    refine ⟨?_, ?_⟩
    · have := hc (7 + m) (by omega)
      rw [show o' + 7 + m = o' + (7 + m) by omega, this, show o + (7 + m) = o + 7 + m by omega]; exact e1
    · intro k p hp
      have hk : k < w.length := (List.getElem?_eq_some_iff.mp hp).1
      have := hc (11 + 5 * m + k) (by omega)
      rw [show o' + 11 + 5 * m + k = o' + (11 + 5 * m + k) by omega, this, show o + (11 + 5 * m + k) = o + 11 + 5 * m + k by omega]; exact e2 k p hp
  · intro k p hp
    have hk : k < N.2.2.1.length := (List.getElem?_eq_some_iff.mp hp).1
    have := hc (31 + k) (by omega)
    rw [show o' + 31 + k = o' + (31 + k) by omega, this, show o + (31 + k) = o + 31 + k by omega]; exact h4 k p hp
  · rw [hc 36 (by omega)]; exact h5
  · rw [hc 37 (by omega)]; exact h6
theorem sX10_notes {x : Nat} {U : List Nw} {N : Nw} {s : St} {Q : St → Prop} (hU : UndoM x U s) (hl : U.length ≤ 10) (hok : ∀ M ∈ U, okW M) (hN : NowM (s.1 (x + 7)) 0 N) (hW : okW N) (hQ : ∀ t, Fr (fun k => k = x ∨ k = x + 10) s t → (∀ j, j ≠ 18 → t.1 x j = s.1 x j) → UndoM x ((N :: U).take 10) t → Q t) : wX10_notes x s Q := by
  have copy : ∀ (V : List Nw) (t : St), V.length < 10 → UndoM x V t → (∀ M ∈ V, okW M) → (N :: U).take 10 = N :: V → Fr (fun k => k = x ∨ k = x + 10) s t → (∀ j, j ≠ 18 → t.1 x j = s.1 x j) → wX10_notes_45 Q x t := by
    intro V t hv hV hVok hVe hf hx
    unfold wX10_notes_45
    have e7 : t.1 (x + 7) = s.1 (x + 7) := hf.1 _ (by omega)
    have key : ∀ (K : St → Prop), (∀ u, Fr (fun k => k = x + 10) t u → (∀ i, (i < 38 * V.length ∨ 38 * V.length + 38 ≤ i) → u.1 (x + 10) i = t.1 (x + 10) i) → (∀ i, i < 38 → u.1 (x + 10) (38 * V.length + i) = s.1 (x + 7) i) → K u) → ∀ d k u, k + d = 38 → Fr (fun k => k = x + 10) t u → (∀ i, (i < 38 * V.length ∨ 38 * V.length + k ≤ i) → u.1 (x + 10) i = t.1 (x + 10) i) → (∀ i, i < k → u.1 (x + 10) (38 * V.length + i) = s.1 (x + 7) i) → wX10_notes_47 x K Q (d + 1) (nI k) u := by
      intro K hK d
      induction d with
      | zero =>
        intro k u hk hfu h1 h2
        unfold wX10_notes_47
        have e : 38 ≤ k := by omega
        have ek : k = 38 := by omega
        subst ek
        simp (disch := omega) only [e, lit_nI, nI_ltI, nI_leI, nI_eq, nI_clamp, vp_in_nI, forall_eq, true_and, and_true, false_and, and_false, true_implies, false_implies, implies_true, not_true, not_false_eq_true, nI_add, pk_mul, nI_sub, shl1, shr1, fa_or, fa_and, nI_m9, nI_m9s]
        exact hK u hfu h1 h2
      | succ d ih =>
        intro k u hk hfu h1 h2
        unfold wX10_notes_47
        have e : ¬ 38 ≤ k := by omega
        have e18 : u.1 x 18 = nI V.length := by rw [hfu.1 x (by omega)]; exact hV.1
        simp (disch := omega) only [e, e18, lit_nI, nI_ltI, nI_leI, nI_eq, nI_clamp, vp_in_nI, forall_eq, true_and, and_true, false_and, and_false, true_implies, false_implies, implies_true, not_true, not_false_eq_true, nI_add, pk_mul, nI_sub, shl1, shr1, fa_or, fa_and, nI_m9, nI_m9s]
        have e72 : u.1 (x + 7) k = s.1 (x + 7) k := by rw [hfu.1 (x + 7) (by omega), e7]
        rw [e72]
        refine ih (k + 1) _ (by omega) (Fr.I (k := x + 10) hfu rfl) (fun i hi => ?_) (fun i hi => ?_)
        · rw [rI_nj (by omega)]; exact h1 i (by omega)
        · by_cases c : i = k
          · subst c; rw [rI_eq]
          · rw [rI_nj (by omega)]; exact h2 i (by omega)
    refine ⟨_, key _ (fun u hfu h1 h2 => ?_) 38 0 t (by omega) Fr.rf (fun _ _ => rfl) (fun i hi => by omega)⟩
    have e18 : u.1 x 18 = nI V.length := by rw [hfu.1 x (by omega)]; exact hV.1
    simp (disch := omega) only [e18, lit_nI, nI_ltI, nI_leI, nI_eq, nI_clamp, vp_in_nI, forall_eq, true_and, and_true, false_and, and_false, true_implies, false_implies, implies_true, not_true, not_false_eq_true, nI_add, pk_mul, nI_sub, shl1, shr1, fa_or, fa_and, nI_m9, nI_m9s]
    refine hQ _ ?_ ?_ ?_
    · exact (hf.tr (hfu.wk (by intro k; omega))).I (by omega)
    · intro j hj
      rw [rI_nj hj, hfu.1 x (by omega)]; exact hx j hj
    · rw [hVe]
      refine ⟨?_, ?_⟩
      · rw [rI_eq, List.length_cons]
      · intro j M hM
        rw [rI_ne (by omega), List.length_cons]
        cases j with
        | zero =>
          simp at hM
          subst hM
          refine hN.cp hW (fun i hi => ?_)
          rw [show 38 * (V.length + 1 - 1 - 0) + i = 38 * V.length + i by omega, h2 i (by omega), Nat.zero_add]
        | succ j =>
          rw [List.getElem?_cons_succ] at hM
          have hj : j < V.length := (List.getElem?_eq_some_iff.mp hM).1
          refine (hV.2 j M hM).cp (hVok M (List.mem_of_getElem? hM)) (fun i hi => ?_)
          have : V.length + 1 - 1 - (j + 1) = V.length - 1 - j := by omega
          rw [this]
          exact h1 _ (by omega)
  unfold wX10_notes
  have e18 := hU.1
  by_cases c : U.length = 10
  · have e18' : s.1 x 18 = nI 10 := by rw [e18, c]
    have key : ∀ (K : St → Prop), (∀ u, Fr (fun k => k = x + 10) s u → (∀ i, u.1 (x + 10) i = if i < 342 then s.1 (x + 10) (i + 38) else s.1 (x + 10) i) → K u) → ∀ d k u, k + d = 342 → Fr (fun k => k = x + 10) s u → (∀ i, u.1 (x + 10) i = if i < k then s.1 (x + 10) (i + 38) else s.1 (x + 10) i) → wX10_notes_11 x K Q (d + 1) (nI k) u := by
      intro K hK d
      induction d with
      | zero =>
        intro k u hk hfu h1
        unfold wX10_notes_11
        have e : 342 ≤ k := by omega
        have ek : k = 342 := by omega
        subst ek
        simp (disch := omega) only [e, lit_nI, nI_ltI, nI_leI, nI_eq, nI_clamp, vp_in_nI, forall_eq, true_and, and_true, false_and, and_false, true_implies, false_implies, implies_true, not_true, not_false_eq_true, nI_add, pk_mul, nI_sub, shl1, shr1, fa_or, fa_and, nI_m9, nI_m9s]
        exact hK u hfu h1
      | succ d ih =>
        intro k u hk hfu h1
        unfold wX10_notes_11
        have e : ¬ 342 ≤ k := by omega
        have er : u.1 (x + 10) (k + 38) = s.1 (x + 10) (k + 38) := by rw [h1, if_neg (by omega)]
        simp (disch := omega) only [e, lit_nI, nI_ltI, nI_leI, nI_eq, nI_clamp, vp_in_nI, forall_eq, true_and, and_true, false_and, and_false, true_implies, false_implies, implies_true, not_true, not_false_eq_true, nI_add, pk_mul, nI_sub, shl1, shr1, fa_or, fa_and, nI_m9, nI_m9s]
        rw [er]
        refine ih (k + 1) _ (by omega) (Fr.I (k := x + 10) hfu rfl) (fun i => ?_)
        by_cases ci : i = k
        · subst ci; rw [rI_eq, if_pos (by omega)]
        · rw [rI_nj ci, h1]
          by_cases c2 : i < k
          · rw [if_pos c2, if_pos (by omega)]
          · rw [if_neg c2, if_neg (by omega)]
    refine ⟨fun z => absurd e18' z, fun _ => ⟨_, key _ (fun u hfu h1 => ?_) 342 0 s (by omega) Fr.rf (fun i => by simp)⟩⟩
    intro v hv
    subst hv
    refine copy (U.take 9) _ (by rw [List.length_take]; omega) ⟨?_, ?_⟩ (fun M hM => hok M (List.mem_of_mem_take hM)) (by rw [List.take_succ_cons]) ((hfu.wk (by intro k; omega)).I (by omega)) (fun j hj => ?_)
    · rw [rI_eq, List.length_take, c]; rfl
    · intro j M hM
      rw [rI_ne (by omega)]
      have hj : j < (U.take 9).length := (List.getElem?_eq_some_iff.mp hM).1
      have ht : (U.take 9).length = 9 := by rw [List.length_take, c]; rfl
      rw [ht] at hj
      rw [List.getElem?_take_of_lt (by omega)] at hM
      refine (hU.2 j M hM).cp (hok M (List.mem_of_getElem? hM)) (fun i hi => ?_)
      rw [h1, ht, if_pos (by omega)]
      exact congrArg (s.1 (x + 10)) (by omega)
    · rw [rI_nj hj, hfu.1 x (by omega)]
  · simp (disch := omega) only [e18, c, lit_nI, nI_ltI, nI_leI, nI_eq, nI_clamp, vp_in_nI, forall_eq, true_and, and_true, false_and, and_false, true_implies, false_implies, implies_true, not_true, not_false_eq_true, nI_add, pk_mul, nI_sub, shl1, shr1, fa_or, fa_and, nI_m9, nI_m9s]
    refine copy U s (by omega) hU hok ?_ Fr.rf (fun _ _ => rfl)
    rw [List.take_of_length_le (by rw [List.length_cons]; omega)]
theorem sX10_canBeNext {x f n1 o n fr p : Nat} {ls : List Lane} {w : List Nat} {s : St} {Q : Int32 → St → Prop} (hl : lanesAt x fr ls s) (hfr : fr + ls.length ≤ 12) (hls : ∀ (l p q sp : Nat), ls[l]? = some (p, q, sp) → p < 100 ∧ q < 100) (hr : rowAt (s.1 f) o w) (hn : n = w.length) (hw : w.length ≤ 5) (ho : o + w.length ≤ n1) (hn1 : n1 < 2 ^ 31) (hwp : ∀ q ∈ w, q < 100) (hp : p < 100) (hQ : Q (if okNext ls w p then 1 else 0) s) : wX10_canBeNext x f n1 (nI o) (nI n) (nI p) (nI fr) (nI ls.length) s Q := by
  subst hn
  have key : ∀ d k (b : Bool), k + d = w.length → Q (if b && !((w.drop k).contains p) then 1 else 0) s → wX10_canBeNext_41 f n1 (nI o) (nI w.length) (nI p) Q (d + 1) (nI (if b then 1 else 0)) (nI k) s := by
    intro d
    induction d with
    | zero =>
      intro k b hk hq
      unfold wX10_canBeNext_41
      have e : w.length ≤ k := by omega
      rw [List.drop_of_length_le e] at hq
      simp (disch := omega) only [e, lit_nI, nI_ltI, nI_leI, nI_eq, nI_clamp, vp_in_nI, forall_eq, true_and, and_true, false_and, and_false, true_implies, false_implies, implies_true, not_true, not_false_eq_true, nI_add, pk_mul, nI_sub, shl1, shr1, fa_or, fa_and, nI_m9, nI_m9s]
      cases b with
      | false => exact ⟨Or.inl rfl, hq⟩
      | true => exact ⟨Or.inr rfl, hq⟩
    | succ d ih =>
      intro k b hk hq
      unfold wX10_canBeNext_41 wX10_canBeNext_67 wX10_canBeNext_68
      have e : ¬ w.length ≤ k := by omega
      rw [drop_getD (by omega), List.contains_cons] at hq
      have hv := hr k (w.getD k 0) (getD_get (by omega))
      have hb := row_lt hwp (show k < w.length by omega)
      have ihf := ih (k + 1) false (by omega)
      have iht := ih (k + 1) true (by omega)
      cases b with
      | false =>
        have i1 := ihf (by simpa using hq)
        simp (disch := omega) only [e, Bool.false_eq_true, if_false, lit_nI, nI_ltI, nI_leI, nI_eq, nI_clamp, vp_in_nI, forall_eq, true_and, and_true, false_and, and_false, true_implies, false_implies, implies_true, not_true, not_false_eq_true, nI_add, pk_mul, nI_sub, shl1, shr1, fa_or, fa_and, nI_m9, nI_m9s]
        simp (disch := omega) only [Bool.false_eq_true, if_false, lit_nI, nI_ltI, nI_leI, nI_eq, nI_clamp, vp_in_nI, forall_eq, true_and, and_true, false_and, and_false, true_implies, false_implies, implies_true, not_true, not_false_eq_true, nI_add, pk_mul, nI_sub, shl1, shr1, fa_or, fa_and, nI_m9, nI_m9s] at i1
        exact i1
      | true =>
        by_cases c : w.getD k 0 = p
        · have c2 : (p == w.getD k 0) = true := by rw [c]; exact beq_self_eq_true p
          rw [c2] at hq
          have i1 := ihf (by simpa using hq)
          simp (disch := omega) only [e, if_true, Nat.one_ne_zero, hv, c, lit_nI, nI_ltI, nI_leI, nI_eq, nI_clamp, vp_in_nI, forall_eq, true_and, and_true, false_and, and_false, true_implies, false_implies, implies_true, not_true, not_false_eq_true, nI_add, pk_mul, nI_sub, shl1, shr1, fa_or, fa_and, nI_m9, nI_m9s]
          simp (disch := omega) only [Bool.false_eq_true, if_false, lit_nI, nI_ltI, nI_leI, nI_eq, nI_clamp, vp_in_nI, forall_eq, true_and, and_true, false_and, and_false, true_implies, false_implies, implies_true, not_true, not_false_eq_true, nI_add, pk_mul, nI_sub, shl1, shr1, fa_or, fa_and, nI_m9, nI_m9s] at i1
          exact i1
        · have c2 : (p == w.getD k 0) = false := beq_eq_false_iff_ne.mpr (fun z => c z.symm)
          rw [c2, Bool.false_or] at hq
          have i1 := iht hq
          simp (disch := omega) only [e, if_true, Nat.one_ne_zero, hv, c, lit_nI, nI_ltI, nI_leI, nI_eq, nI_clamp, vp_in_nI, forall_eq, true_and, and_true, false_and, and_false, true_implies, false_implies, implies_true, not_true, not_false_eq_true, nI_add, pk_mul, nI_sub, shl1, shr1, fa_or, fa_and, nI_m9, nI_m9s]
          simp (disch := omega) only [if_true, lit_nI, nI_ltI, nI_leI, nI_eq, nI_clamp, vp_in_nI, forall_eq, true_and, and_true, false_and, and_false, true_implies, false_implies, implies_true, not_true, not_false_eq_true, nI_add, pk_mul, nI_sub, shl1, shr1, fa_or, fa_and, nI_m9, nI_m9s] at i1
          exact i1
  unfold wX10_canBeNext
  unfold okNext at hQ
  by_cases c0 : w.length = 0
  · have hw0 : w = [] := List.length_eq_zero_iff.mp c0
    subst hw0
    unfold wX10_canBeNext_31 wX10_canBeNext_36
    have := key 0 0 true rfl (by simpa using hQ)
    simp (disch := omega) only [List.length_nil, lit_nI, nI_ltI, nI_leI, nI_eq, nI_clamp, vp_in_nI, forall_eq, true_and, and_true, false_and, and_false, true_implies, false_implies, implies_true, not_true, not_false_eq_true, nI_add, pk_mul, nI_sub, shl1, shr1, fa_or, fa_and, nI_m9, nI_m9s]
    simp (disch := omega) only [if_true, List.length_nil, lit_nI, nI_ltI, nI_leI, nI_eq, nI_clamp, vp_in_nI, forall_eq, true_and, and_true, false_and, and_false, true_implies, false_implies, implies_true, not_true, not_false_eq_true, nI_add, pk_mul, nI_sub, shl1, shr1, fa_or, fa_and, nI_m9, nI_m9s] at this
    exact ⟨_, this⟩
  · have c1 : w.isEmpty = false := by cases w with | nil => simp at c0 | cons => rfl
    rw [c1, Bool.false_or] at hQ
    by_cases c5 : 5 ≤ w.length
    · have : decide (w.length < 5) = false := by simp; omega
      rw [this] at hQ
      unfold wX10_canBeNext_35 wX10_canBeNext_36
      have := key w.length 0 false (by omega) (by simpa using hQ)
      simp (disch := omega) only [c0, c5, lit_nI, nI_ltI, nI_leI, nI_eq, nI_clamp, vp_in_nI, forall_eq, true_and, and_true, false_and, and_false, true_implies, false_implies, implies_true, not_true, not_false_eq_true, nI_add, pk_mul, nI_sub, shl1, shr1, fa_or, fa_and, nI_m9, nI_m9s]
      simp (disch := omega) only [Bool.false_eq_true, if_false, lit_nI, nI_ltI, nI_leI, nI_eq, nI_clamp, vp_in_nI, forall_eq, true_and, and_true, false_and, and_false, true_implies, false_implies, implies_true, not_true, not_false_eq_true, nI_add, pk_mul, nI_sub, shl1, shr1, fa_or, fa_and, nI_m9, nI_m9s] at this
      exact ⟨_, this⟩
    · have : decide (w.length < 5) = true := by simp; omega
      rw [this, Bool.true_and, lastOf_eq] at hQ
      have hv := hr (w.length - 1) (w.getD (w.length - 1) 0) (getD_get (by omega))
      have e1 : o + w.length - 1 = o + (w.length - 1) := by omega
      simp (disch := omega) only [c0, c5, e1, hv, lit_nI, nI_ltI, nI_leI, nI_eq, nI_clamp, vp_in_nI, forall_eq, true_and, and_true, false_and, and_false, true_implies, false_implies, implies_true, not_true, not_false_eq_true, nI_add, pk_mul, nI_sub, shl1, shr1, fa_or, fa_and, nI_m9, nI_m9s]
      refine sX10_laneOf hl hfr hls (row_lt hwp (by omega)) hp ?_
      unfold lnI
      unfold wX10_canBeNext_35 wX10_canBeNext_31 wX10_canBeNext_36
      cases hz : lnB ls (w.getD (w.length - 1) 0) p with
      | none =>
        rw [hz] at hQ
        have := key w.length 0 false (by omega) (by simpa using hQ)
        simp (disch := omega) only [lit_nI, nI_ltI, nI_leI, nI_eq, nI_clamp, vp_in_nI, forall_eq, true_and, and_true, false_and, and_false, true_implies, false_implies, implies_true, not_true, not_false_eq_true, nI_add, pk_mul, nI_sub, shl1, shr1, fa_or, fa_and, nI_m9, nI_m9s]
        simp (disch := omega) only [Bool.false_eq_true, if_false, lit_nI, nI_ltI, nI_leI, nI_eq, nI_clamp, vp_in_nI, forall_eq, true_and, and_true, false_and, and_false, true_implies, false_implies, implies_true, not_true, not_false_eq_true, nI_add, pk_mul, nI_sub, shl1, shr1, fa_or, fa_and, nI_m9, nI_m9s] at this
        exact ⟨_, this⟩
      | some l =>
        rw [hz] at hQ
        have hl2 := lnB_lt hz
        have := key w.length 0 true (by omega) (by simpa using hQ)
        simp (disch := omega) only [lit_nI, nI_ltI, nI_leI, nI_eq, nI_clamp, vp_in_nI, forall_eq, true_and, and_true, false_and, and_false, true_implies, false_implies, implies_true, not_true, not_false_eq_true, nI_add, pk_mul, nI_sub, shl1, shr1, fa_or, fa_and, nI_m9, nI_m9s]
        simp (disch := omega) only [if_true, lit_nI, nI_ltI, nI_leI, nI_eq, nI_clamp, vp_in_nI, forall_eq, true_and, and_true, false_and, and_false, true_implies, false_implies, implies_true, not_true, not_false_eq_true, nI_add, pk_mul, nI_sub, shl1, shr1, fa_or, fa_and, nI_m9, nI_m9s] at this
        exact ⟨_, this⟩
