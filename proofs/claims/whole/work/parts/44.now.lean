/-! Now -/
theorem lastOf_eq : ∀ (w : List Nat), lastOf w = w.getD (w.length - 1) 0
  | [] => rfl
  | [a] => rfl
  | a :: b :: r => by
    rw [lastOf, lastOf_eq (b :: r)]
    · simp
    · simp
theorem plI_lt {w : List Nat} {k : Nat} (h : k < w.length) : plI w k = nI (w.getD k 0) := by unfold plI; rw [getD_get h]
theorem row_lt {n : Nat} {w : List Nat} (h : ∀ p ∈ w, p < n) {k : Nat} (hk : k < w.length) : w.getD k 0 < n := h _ (List.mem_of_getElem? (getD_get hk))
theorem drop_getD {w : List Nat} {k : Nat} (h : k < w.length) : w.drop k = w.getD k 0 :: w.drop (k + 1) := by
  rw [List.drop_eq_getElem_cons h, List.getD_eq_getElem?_getD, List.getElem?_eq_getElem h]; rfl
theorem sX2_fits {n g m p : Nat} {la : Land} {w : List Nat} {s : St} {Q : Int32 → St → Prop} (hG : GroundC g la s) (h5 : la.1 ≤ 5) (hl6 : la.2.length ≤ 6) (hr : rowC n m w s) (hm : m ≤ 4) (hw : w.length ≤ 5) (hwp : ∀ q ∈ w, q < la.1) (hp : p < la.1) (hQ : Q (if okNext la.2 w p then 1 else 0) s) : wX2_fits n g (nI m) (nI p) s Q := by
  have key : ∀ d k, k + d = w.length → Q (if (w.drop k).contains p then 0 else 1) s → wX2_fits_45 n (nI m) (nI p) (nI w.length) Q (d + 1) (nI k) s := by
    intro d
    induction d with
    | zero =>
      intro k hd hq
      unfold wX2_fits_45
      have e : w.length ≤ k := by omega
      simp (disch := omega) only [e, lit_nI, nI_ltI, nI_leI, nI_eq, nI_clamp, vp_in_nI, forall_eq, true_and, and_true, false_and, and_false, true_implies, false_implies, implies_true, not_true, not_false_eq_true, nI_add, pk_mul, nI_sub, shl1, shr1, fa_or, fa_and, nI_m9, nI_m9s]
      rw [List.drop_of_length_le e] at hq
      exact hq
    | succ d ih =>
      intro k hd hq
      unfold wX2_fits_45
      have e : ¬ w.length ≤ k := by omega
      simp (disch := omega) only [e, lit_nI, nI_ltI, nI_leI, nI_eq, nI_clamp, vp_in_nI, forall_eq, true_and, and_true, false_and, and_false, true_implies, false_implies, implies_true, not_true, not_false_eq_true, nI_add, pk_mul, nI_sub, shl1, shr1, fa_or, fa_and, nI_m9, nI_m9s]
      refine sX2_placeAt hr hm hw (by omega) ?_
      rw [plI_lt (by omega)]
      have hv := row_lt hwp (show k < w.length by omega)
      rw [drop_getD (by omega), List.contains_cons] at hq
      by_cases c : w.getD k 0 = p
      · have c2 : (p == w.getD k 0) = true := by rw [c]; exact beq_self_eq_true p
        rw [c2, Bool.true_or, if_pos rfl] at hq
        simp (disch := omega) only [c, lit_nI, nI_ltI, nI_leI, nI_eq, nI_clamp, vp_in_nI, forall_eq, true_and, and_true, false_and, and_false, true_implies, false_implies, implies_true, not_true, not_false_eq_true, nI_add, pk_mul, nI_sub, shl1, shr1, fa_or, fa_and, nI_m9, nI_m9s]
        exact hq
      · have c2 : (p == w.getD k 0) = false := beq_eq_false_iff_ne.mpr (fun z => c z.symm)
        rw [c2, Bool.false_or] at hq
        simp (disch := omega) only [c, lit_nI, nI_ltI, nI_leI, nI_eq, nI_clamp, vp_in_nI, forall_eq, true_and, and_true, false_and, and_false, true_implies, false_implies, implies_true, not_true, not_false_eq_true, nI_add, pk_mul, nI_sub, shl1, shr1, fa_or, fa_and, nI_m9, nI_m9s]
        exact ih (k + 1) (by omega) hq
  unfold wX2_fits
  unfold okNext at hQ
  have h0 := hr.1
  by_cases c0 : w.length = 0
  · have : w = [] := List.length_eq_zero_iff.mp c0
    subst this
    simp at hQ
    simp (disch := omega) only [h0, List.length_nil, lit_nI, nI_ltI, nI_leI, nI_eq, nI_clamp, vp_in_nI, forall_eq, true_and, and_true, false_and, and_false, true_implies, false_implies, implies_true, not_true, not_false_eq_true, nI_add, pk_mul, nI_sub, shl1, shr1, fa_or, fa_and, nI_m9, nI_m9s]
    exact hQ
  · have c1 : w.isEmpty = false := by cases w with | nil => simp at c0 | cons => rfl
    rw [c1, Bool.false_or] at hQ
    by_cases c5 : 5 ≤ w.length
    · have : decide (w.length < 5) = false := by simp; omega
      rw [this] at hQ
      simp (disch := omega) only [h0, c0, c5, lit_nI, nI_ltI, nI_leI, nI_eq, nI_clamp, vp_in_nI, forall_eq, true_and, and_true, false_and, and_false, true_implies, false_implies, implies_true, not_true, not_false_eq_true, nI_add, pk_mul, nI_sub, shl1, shr1, fa_or, fa_and, nI_m9, nI_m9s]
      exact hQ
    · have : decide (w.length < 5) = true := by simp; omega
      rw [this, Bool.true_and] at hQ
      simp (disch := omega) only [h0, c0, c5, lit_nI, nI_ltI, nI_leI, nI_eq, nI_clamp, vp_in_nI, forall_eq, true_and, and_true, false_and, and_false, true_implies, false_implies, implies_true, not_true, not_false_eq_true, nI_add, pk_mul, nI_sub, shl1, shr1, fa_or, fa_and, nI_m9, nI_m9s]
      refine sX2_placeAt hr hm hw (by omega) ?_
      rw [plI_lt (by omega)]
      refine sX1_laneBetween hG h5 (row_lt hwp (by omega)) hp ?_
      rw [lastOf_eq] at hQ
      unfold lnI
      cases hz : lnB la.2 (w.getD (w.length - 1) 0) p with
      | none =>
        rw [hz] at hQ
        simp at hQ
        simp (disch := omega) only [lit_nI, nI_ltI, nI_leI, nI_eq, nI_clamp, vp_in_nI, forall_eq, true_and, and_true, false_and, and_false, true_implies, false_implies, implies_true, not_true, not_false_eq_true, nI_add, pk_mul, nI_sub, shl1, shr1, fa_or, fa_and, nI_m9, nI_m9s]
        exact hQ
      | some l =>
        rw [hz] at hQ
        have hl := lnB_lt hz
        simp only [Option.isSome_some, Bool.true_and] at hQ
        simp (disch := omega) only [lit_nI, nI_ltI, nI_leI, nI_eq, nI_clamp, vp_in_nI, forall_eq, true_and, and_true, false_and, and_false, true_implies, false_implies, implies_true, not_true, not_false_eq_true, nI_add, pk_mul, nI_sub, shl1, shr1, fa_or, fa_and, nI_m9, nI_m9s]
        refine ⟨_, key w.length 0 (by omega) ?_⟩
        rw [List.drop_zero]
        cases hc : w.contains p with
        | false => rw [hc] at hQ; exact hQ
        | true => rw [hc] at hQ; exact hQ
theorem sX2_append {n m p : Nat} {w : List Nat} {s : St} {Q : St → Prop} (hr : rowC n m w s) (hm : m ≤ 4) (hw : w.length < 5) (hQ : ∀ t, Fr (fun k => k = n + 2 ∨ k = n + 3) s t → rowC n m (w ++ [p]) t → (∀ m' w', m' ≠ m → w'.length ≤ 5 → rowC n m' w' s → rowC n m' w' t) → Q t) : wX2_append n (nI m) (nI p) s Q := by
  unfold wX2_append
  have h0 := hr.1
  have e3 : (stI s (n + 3) (m * 5 + w.length) (nI p)).1 (n + 2) m = nI w.length := by rw [rI_ne (by omega)]; exact h0
  simp (disch := omega) only [h0, hw, e3, lit_nI, nI_ltI, nI_leI, nI_eq, nI_clamp, vp_in_nI, forall_eq, true_and, and_true, false_and, and_false, true_implies, false_implies, implies_true, not_true, not_false_eq_true, nI_add, pk_mul, nI_sub, shl1, shr1, fa_or, fa_and, nI_m9, nI_m9s]
  refine hQ _ ((Fr.rf.I (Or.inr rfl)).I (Or.inl rfl)) ⟨?_, ?_⟩ ?_
  · rw [rI_eq, List.length_append]; rfl
  · rw [rI_ne (by omega)]
    refine hr.2.app (fun k hk => ?_) rI_eq
    exact rI_nj (by omega)
  · intro m' w' h1 h2 h3
    refine ⟨?_, ?_⟩
    · rw [rI_nj h1, rI_ne (by omega)]; exact h3.1
    · rw [rI_ne (by omega)]
      refine h3.2.cg (fun k hk => rI_nj ?_)
      omega
theorem lb_lt {ls : List Lane} (h : ls.length ≤ 6) (a b : Nat) : lb ls a b < 64 := by
  unfold lb
  split
  · rename_i l hl
    have := lnB_lt hl
    calc 2 ^ l < 2 ^ 6 := Nat.pow_lt_pow_right (by omega) (by omega)
      _ = 64 := rfl
  · omega
theorem or_lt64 {a b : Nat} (ha : a < 64) (hb : b < 64) : a ||| b < 64 := Nat.or_lt_two_pow (n := 6) ha hb
theorem bitsP_lt {ls : List Lane} (h : ls.length ≤ 6) (w : List Nat) : ∀ k, bitsP ls w k < 64
  | 0 => by unfold bitsP; decide
  | 1 => by unfold bitsP; decide
  | k + 2 => or_lt64 (bitsP_lt h w (k + 1)) (lb_lt h _ _)
theorem sX2_lanesOf {n g m : Nat} {la : Land} {w : List Nat} {s : St} {Q : Int32 → St → Prop} (hG : GroundC g la s) (h5 : la.1 ≤ 5) (hl6 : la.2.length ≤ 6) (hr : rowC n m w s) (hm : m ≤ 4) (hw : isRow la.1 la.2 w) (hQ : Q (nI (bitsOf la.2 w)) s) : wX2_lanesOf n g (nI m) s Q := by
  have h0 := hr.1
  have hw5 := hw.2.1
  have key : ∀ d k, k + d = w.length → wX2_lanesOf_5 n g (nI m) Q (d + 1) (nI (bitsP la.2 w k)) (nI k) s ∨ k = 0 := by
    intro d
    induction d with
    | zero =>
      intro k hd
      left
      unfold wX2_lanesOf_5
      have e : w.length ≤ k := by omega
      have ek : k = w.length := by omega
      simp (disch := omega) only [h0, e, lit_nI, nI_ltI, nI_leI, nI_eq, nI_clamp, vp_in_nI, forall_eq, true_and, and_true, false_and, and_false, true_implies, false_implies, implies_true, not_true, not_false_eq_true, nI_add, pk_mul, nI_sub, shl1, shr1, fa_or, fa_and, nI_m9, nI_m9s]
      rw [ek]; exact hQ
    | succ d ih =>
      intro k hd
      by_cases hk0 : k = 0
      · exact Or.inr hk0
      left
      obtain ⟨j, rfl⟩ : ∃ j, k = j + 1 := ⟨k - 1, by omega⟩
      have ih2 := ih (j + 2) (by omega)
      have ih3 := ih2.resolve_right (by omega)
      unfold wX2_lanesOf_5 wX2_lanesOf_52
      have e : ¬ w.length ≤ j + 1 := by omega
      have e2 : j + 1 - 1 = j := by omega
      simp (disch := omega) only [h0, e, e2, lit_nI, nI_ltI, nI_leI, nI_eq, nI_clamp, vp_in_nI, forall_eq, true_and, and_true, false_and, and_false, true_implies, false_implies, implies_true, not_true, not_false_eq_true, nI_add, pk_mul, nI_sub, shl1, shr1, fa_or, fa_and, nI_m9, nI_m9s]
      refine sX2_placeAt hr hm hw5 (by omega) ?_
      refine sX2_placeAt hr hm hw5 (by omega) ?_
      rw [plI_lt (show j < w.length by omega), plI_lt (show j + 1 < w.length by omega)]
      refine sX1_laneBetween hG h5 (row_lt hw.1 (by omega)) (row_lt hw.1 (by omega)) ?_
      have hs := hw.2.2.1 j (by omega)
      unfold bitsP lb at ih3
      unfold lnI
      cases hz : lnB la.2 (w.getD j 0) (w.getD (j + 1) 0) with
      | none => rw [hz] at hs; cases hs
      | some l =>
        rw [hz] at ih3
        have hl := lnB_lt hz
        simp (disch := omega) only [lit_nI, nI_ltI, nI_leI, nI_eq, nI_clamp, vp_in_nI, forall_eq, true_and, and_true, false_and, and_false, true_implies, false_implies, implies_true, not_true, not_false_eq_true, nI_add, pk_mul, nI_sub, shl1, shr1, fa_or, fa_and, nI_m9, nI_m9s]
        exact ih3
  unfold wX2_lanesOf
  by_cases hz : w.length = 0
  · have hw0 : w = [] := List.length_eq_zero_iff.mp hz
    subst hw0
    refine ⟨1, ?_⟩
    unfold wX2_lanesOf_5
    simp (disch := omega) only [h0, List.length_nil, Nat.zero_le, lit_nI, nI_ltI, nI_leI, nI_eq, nI_clamp, vp_in_nI, forall_eq, true_and, and_true, false_and, and_false, true_implies, false_implies, implies_true, not_true, not_false_eq_true, nI_add, pk_mul, nI_sub, shl1, shr1, fa_or, fa_and, nI_m9, nI_m9s]
    exact hQ
  · have := (key (w.length - 1) 1 (by omega)).resolve_right (by omega)
    exact ⟨_, this⟩
theorem cpy_in {f g : Nat → Int32} {sp dp n j : Nat} (h : dp ≤ j) (h2 : j < dp + n) : va_cpy f g sp dp n j = f (sp + (j - dp)) := pk_cpy_in h h2
theorem cpy_out {f g : Nat → Int32} {sp dp n j : Nat} (h : j < dp ∨ dp + n ≤ j) : va_cpy f g sp dp n j = g j := pk_cpy_out h
theorem cpOk_nI {sp dp n n0 n1 : Nat} (h0 : sp + n ≤ n0) (h1 : dp + n ≤ n1) (h2 : n0 < 2 ^ 31) (h3 : n1 < 2 ^ 31) : cpOk (nI sp) (nI dp) (nI n) n0 n1 := by
  refine ⟨nI_pos (by omega), nI_pos (by omega), nI_pos (by omega), ?_, ?_⟩
  · rw [nI_clamp (by omega), nI_clamp (by omega)]; exact h0
  · rw [nI_clamp (by omega), nI_clamp (by omega)]; exact h1
/-- a row of a Now is written over another -/
theorem sX2_copyRow {n a b : Nat} {w : List Nat} {s : St} {Q : St → Prop} (hr : rowC n a w s) (ha : a ≤ 4) (hb : b ≤ 4) (hw : w.length ≤ 5) (hQ : ∀ t, Fr (fun k => k = n + 2 ∨ k = n + 3) s t → rowC n b w t → (∀ m' w', m' ≠ b → w'.length ≤ 5 → rowC n m' w' s → rowC n m' w' t) → Q t) : wX2_copyRow n (nI a) (nI b) s Q := by
  unfold wX2_copyRow
  have h0 := hr.1
  have e3 : (stC s (n + 3) (n + 3) (a * 5) (b * 5) 5).1 (n + 2) a = nI w.length := by rw [rC_ne (by omega)]; exact h0
  have ok : cpOk (nI (a * 5)) (nI (b * 5)) (nI 5) 25 25 := cpOk_nI (by omega) (by omega) (by omega) (by omega)
  simp (disch := omega) only [h0, e3, ok, lit_nI, nI_ltI, nI_leI, nI_eq, nI_clamp, vp_in_nI, forall_eq, true_and, and_true, false_and, and_false, true_implies, false_implies, implies_true, not_true, not_false_eq_true, nI_add, pk_mul, nI_sub, shl1, shr1, fa_or, fa_and, nI_m9, nI_m9s]
  refine hQ _ ((Fr.rf.C (Or.inr rfl)).I (Or.inl rfl)) ⟨?_, ?_⟩ ?_
  · rw [rI_eq]
  · rw [rI_ne (by omega), rC_eq]
    intro k p hp
    have hk : k < w.length := (List.getElem?_eq_some_iff.mp hp).1
    rw [cpy_in (by omega) (by omega)]
    have := hr.2 k p hp
    rw [show a * 5 + (b * 5 + k - b * 5) = a * 5 + k by omega]
    exact this
  · intro m' w' h1 h2 h3
    refine ⟨?_, ?_⟩
    · rw [rI_nj h1, rC_ne (by omega)]; exact h3.1
    · rw [rI_ne (by omega), rC_eq]
      refine h3.2.cg (fun k hk => cpy_out ?_)
      omega
theorem sX2_draftToMap {n : Nat} {L : List Nat} {maps : List (List Nat)} {d : List Nat} {g : Nat} {s : St} {Q : St → Prop} (h : NowC n (L, maps, d, g) s) (hm : maps.length < 4) (hd : d.length ≤ 5) (hmw : ∀ w ∈ maps, w.length ≤ 5) (hQ : ∀ t, Fr (fun k => n ≤ k ∧ k ≤ n + 3) s t → NowC n (L, maps ++ [d], [], g) t → Q t) : wX2_draftToMap n s Q := by
  obtain ⟨h1, h2, h3, h4, h5⟩ := h
  dsimp only at h1 h2 h3 h4 h5
  unfold wX2_draftToMap
  simp (disch := omega) only [h2, hm, lit_nI, nI_ltI, nI_leI, nI_eq, nI_clamp, vp_in_nI, forall_eq, true_and, and_true, false_and, and_false, true_implies, false_implies, implies_true, not_true, not_false_eq_true, nI_add, pk_mul, nI_sub, shl1, shr1, fa_or, fa_and, nI_m9, nI_m9s]
  refine sX2_copyRow h4 (by omega) (by omega) hd (fun t hf hr ho => ?_)
  have e3 : t.1 n 3 = nI maps.length := by rw [hf.1 n (by omega)]; exact h2
  simp (disch := omega) only [e3, lit_nI, nI_ltI, nI_leI, nI_eq, nI_clamp, vp_in_nI, forall_eq, true_and, and_true, false_and, and_false, true_implies, false_implies, implies_true, not_true, not_false_eq_true, nI_add, pk_mul, nI_sub, shl1, shr1, fa_or, fa_and, nI_m9, nI_m9s]
  refine hQ _ ⟨fun k hk => ?_, ?_⟩ ⟨?_, ?_, ?_, ?_, ?_⟩
  · rw [rI_ne (by omega), rI_ne (by omega)]
    exact hf.1 k (by omega)
  · exact hf.2
  · show rowAt _ 0 L
    rw [rI_ne (by omega), rI_ne (by omega), hf.1 (n + 1) (by omega)]; exact h1
  · show _ = nI (maps ++ [d]).length
    rw [rI_ne (by omega), rI_eq, List.length_append]; rfl
  · intro m w hw
    dsimp only at hw
    have hm5 : m ≠ 4 := by
      have : m < (maps ++ [d]).length := (List.getElem?_eq_some_iff.mp hw).1
      rw [List.length_append] at this
      simp at this
      omega
    have : rowC n m w t := by
      by_cases hk : m < maps.length
      · rw [List.getElem?_append_left hk] at hw
        exact ho m w (by omega) (hmw w (List.mem_of_getElem? hw)) (h3 m w hw)
      · have hz : m = maps.length := by
          have : m < (maps ++ [d]).length := (List.getElem?_eq_some_iff.mp hw).1
          rw [List.length_append] at this
          simp at this
          omega
        subst hz
        rw [List.getElem?_append_right (Nat.le_refl _)] at hw
        simp at hw
        subst hw
        exact hr
    refine ⟨?_, ?_⟩
    · rw [rI_nj hm5, rI_ne (by omega)]; exact this.1
    · rw [rI_ne (by omega), rI_ne (by omega)]; exact this.2
  · exact ⟨rI_eq, rowAt.nil⟩
  · show _ = nI g
    rw [rI_ne (by omega), rI_nj (by omega), hf.1 n (by omega)]; exact h5
theorem sX2_become {n x : Nat} {N : Nw} {s : St} {Q : St → Prop} (h : NowC x N s) (hL : N.1.length ≤ 6) (hm : N.2.1.length ≤ 4) (hmw : ∀ w ∈ N.2.1, w.length ≤ 5) (hd : N.2.2.1.length ≤ 5) (hx : n + 3 < x ∨ x + 3 < n) (hQ : ∀ t, Fr (fun k => n ≤ k ∧ k ≤ n + 3) s t → NowC n N t → Q t) : wX2_become n x s Q := by
  obtain ⟨h1, h2, h3, h4, h5⟩ := h
  unfold wX2_become
  have ok6 : cpOk (nI 0) (nI 0) (nI 6) 6 6 := cpOk_nI (by omega) (by omega) (by omega) (by omega)
  have ok5 : cpOk (nI 0) (nI 0) (nI 5) 5 5 := cpOk_nI (by omega) (by omega) (by omega) (by omega)
  have ok25 : cpOk (nI 0) (nI 0) (nI 25) 25 25 := cpOk_nI (by omega) (by omega) (by omega) (by omega)
  simp (disch := omega) only [ok6, ok5, ok25, lit_nI, nI_ltI, nI_leI, nI_eq, nI_clamp, vp_in_nI, forall_eq, true_and, and_true, false_and, and_false, true_implies, false_implies, implies_true, not_true, not_false_eq_true, nI_add, pk_mul, nI_sub, shl1, shr1, fa_or, fa_and, nI_m9, nI_m9s]
  refine hQ _ ?_ ⟨?_, ?_, ?_, ?_, ?_⟩
  · exact ((((Fr.rf.C (by omega)).C (by omega)).C (by omega)).I (by omega)).I (by omega)
  · rw [rI_ne (by omega), rI_ne (by omega), rC_ne (by omega), rC_ne (by omega), rC_eq]
    refine h1.cg (fun k hk => ?_)
    rw [cpy_in (by omega) (by omega)]; simp
  · rw [rI_nj (by omega), rI_eq, rC_ne (by omega), rC_ne (by omega), rC_ne (by omega)]; exact h2
  · intro m w hw
    have hr := h3 m w hw
    have hm4 : m < N.2.1.length := (List.getElem?_eq_some_iff.mp hw).1
    have hw5 := hmw w (List.mem_of_getElem? hw)
    refine ⟨?_, ?_⟩
    · rw [rI_ne (by omega), rI_ne (by omega), rC_ne (by omega), rC_eq, rC_ne (by omega), cpy_in (by omega) (by omega)]
      simpa using hr.1
    · rw [rI_ne (by omega), rI_ne (by omega), rC_eq, rC_ne (by omega), rC_ne (by omega)]
      refine hr.2.cg (fun k hk => ?_)
      rw [cpy_in (by omega) (by omega)]; simp
  · refine ⟨?_, ?_⟩
    · rw [rI_ne (by omega), rI_ne (by omega), rC_ne (by omega), rC_eq, rC_ne (by omega), cpy_in (by omega) (by omega)]
      simpa using h4.1
    · rw [rI_ne (by omega), rI_ne (by omega), rC_eq, rC_ne (by omega), rC_ne (by omega)]
      refine h4.2.cg (fun k hk => ?_)
      rw [cpy_in (by omega) (by omega)]; simp
  · rw [rI_eq, rI_ne (by omega), rC_ne (by omega), rC_ne (by omega), rC_ne (by omega)]; exact h5
