/-! ways, on: which are shortest; the class's calls by them -/
theorem way_get {la : Land} {i : Nat} (h : i < (waysL la).length) : (waysL la)[i]? = some ((waysL la).getD i []) := by rw [List.getD_eq_getElem?_getD, List.getElem?_eq_getElem h]; rfl
theorem way_mem {la : Land} {i : Nat} (h : i < (waysL la).length) : (waysL la).getD i [] ∈ waysL la := List.mem_of_getElem? (way_get h)
section SH
variable {la : Land} {L : List Nat} {s : St}
theorem sX8_isShortest {i : Nat} {Q : Int32 → St → Prop} (h3 : okLand la) (hW : WaysC la s) (hlen : (waysL la).length ≤ 33) (hM : MeasC la L s) (hL5 : ∀ y ∈ L, y ≤ 5) (hl : L.length ≤ 6) (hi : i < (waysL la).length) (hQ : Q (if shB la L ((waysL la).getD i []) then 1 else 0) s) : wX8_isShortest 21 (nI i) s Q := by
  obtain ⟨ek, -, -⟩ := ways_end h3.2.1 (way_mem hi)
  obtain ⟨m1, m2, m3, m4⟩ := hW.2 i _ (way_get hi)
  have e26 := hM.1 i _ (way_get hi)
  have e27 := hM.2 _ ek
  have hll := lenOf_le hL5 hl (bitsOf la.2 ((waysL la).getD i []))
  unfold wX8_isShortest
  have c0 : ¬ i < 0 := by omega
  have c1 : ¬ (waysL la).length ≤ i := by omega
  unfold shB at hQ
  cases hz : lsL la L (endK ((waysL la).getD i [])) with
  | none =>
    rw [hz] at e27 hQ
    have e27' : s.1 27 (endK ((waysL la).getD i [])) = -nI 9 := e27
    simp at hQ
    simp (disch := omega) only [hW.1, c0, c1, m3, e26, e27', lit_nI, nI_ltI, nI_leI, nI_eq, nI_clamp, vp_in_nI, forall_eq, true_and, and_true, false_and, and_false, true_implies, false_implies, implies_true, not_true, not_false_eq_true, nI_add, pk_mul, nI_sub, shl1, shr1, fa_or, fa_and, nI_m9, nI_m9s]
    exact hQ
  | some m =>
    rw [hz] at e27 hQ
    have e27' : s.1 27 (endK ((waysL la).getD i [])) = nI m := e27
    have hm := lsP_le hL5 hl hz
    by_cases c : lenOf L (bitsOf la.2 ((waysL la).getD i [])) = m
    · have : decide (some m = some (lenOf L (bitsOf la.2 ((waysL la).getD i [])))) = true := by rw [c]; simp
      rw [this] at hQ
      simp (disch := omega) only [hW.1, c0, c1, m3, e26, e27', c, lit_nI, nI_ltI, nI_leI, nI_eq, nI_clamp, vp_in_nI, forall_eq, true_and, and_true, false_and, and_false, true_implies, false_implies, implies_true, not_true, not_false_eq_true, nI_add, pk_mul, nI_sub, shl1, shr1, fa_or, fa_and, nI_m9, nI_m9s]
      exact hQ
    · have : decide (some m = some (lenOf L (bitsOf la.2 ((waysL la).getD i [])))) = false := by
        simp only [decide_eq_false_iff_not, Option.some.injEq]
        exact fun z => c z.symm
      rw [this] at hQ
      simp (disch := omega) only [hW.1, c0, c1, m3, e26, e27', c, lit_nI, nI_ltI, nI_leI, nI_eq, nI_clamp, vp_in_nI, forall_eq, true_and, and_true, false_and, and_false, true_implies, false_implies, implies_true, not_true, not_false_eq_true, nI_add, pk_mul, nI_sub, shl1, shr1, fa_or, fa_and, nI_m9, nI_m9s]
      exact hQ
theorem wIx_lt {ls : List Lane} {b : Nat} : ∀ {W : List (List Nat)} {i : Nat}, wIx ls b W = some i → i < W.length ∧ bitsOf ls (W.getD i []) = b
  | [], i, h => by simp [wIx] at h
  | w :: r, i, h => by
    unfold wIx at h
    split at h
    · rename_i hc; cases h; exact ⟨by simp, hc⟩
    · cases hq : wIx ls b r with
      | none => rw [hq] at h; cases h
      | some q =>
        rw [hq] at h
        cases h
        have := wIx_lt hq
        refine ⟨by simp; omega, ?_⟩
        simpa using this.2
theorem drop_getDL {W : List (List Nat)} {k : Nat} (h : k < W.length) : W.drop k = W.getD k [] :: W.drop (k + 1) := by
  rw [List.drop_eq_getElem_cons h, List.getD_eq_getElem?_getD, List.getElem?_eq_getElem h]; rfl
theorem sX8_wayBy {b : Nat} {Q : Int32 → St → Prop} (h3 : okLand la) (hW : WaysC la s) (hlen : (waysL la).length ≤ 33) (hb : b < 64) (hQ : Q (oI (wayIx la b)) s) : wX8_wayBy 21 (nI b) s Q := by
  have key : ∀ d k, k + d = (waysL la).length → Q (oI ((wIx la.2 b ((waysL la).drop k)).map (· + k))) s → wX8_wayBy_2 21 (nI b) Q (d + 1) (nI k) s := by
    intro d
    induction d with
    | zero =>
      intro k hk hq
      unfold wX8_wayBy_2
      have e : (waysL la).length ≤ k := by omega
      rw [List.drop_of_length_le e] at hq
      simp (disch := omega) only [hW.1, e, lit_nI, nI_ltI, nI_leI, nI_eq, nI_clamp, vp_in_nI, forall_eq, true_and, and_true, false_and, and_false, true_implies, false_implies, implies_true, not_true, not_false_eq_true, nI_add, pk_mul, nI_sub, shl1, shr1, fa_or, fa_and, nI_m9, nI_m9s]
      exact hq
    | succ d ih =>
      intro k hk hq
      have hk2 : k < (waysL la).length := by omega
      obtain ⟨m1, m2, m3, m4⟩ := hW.2 k _ (way_get hk2)
      have hb64 : bitsOf la.2 ((waysL la).getD k []) < 64 := bitsP_lt h3.2.2.1 _ _
      rw [drop_getDL hk2, wIx] at hq
      unfold wX8_wayBy_2
      have e : ¬ (waysL la).length ≤ k := by omega
      by_cases c : bitsOf la.2 ((waysL la).getD k []) = b
      · rw [if_pos c] at hq
        simp (disch := omega) only [hW.1, e, m4, c, lit_nI, nI_ltI, nI_leI, nI_eq, nI_clamp, vp_in_nI, forall_eq, true_and, and_true, false_and, and_false, true_implies, false_implies, implies_true, not_true, not_false_eq_true, nI_add, pk_mul, nI_sub, shl1, shr1, fa_or, fa_and, nI_m9, nI_m9s]
        have : oI ((some 0).map (· + k)) = nI k := by simp [oI]
        rw [this] at hq
        exact hq
      · rw [if_neg c] at hq
        simp (disch := omega) only [hW.1, e, m4, c, lit_nI, nI_ltI, nI_leI, nI_eq, nI_clamp, vp_in_nI, forall_eq, true_and, and_true, false_and, and_false, true_implies, false_implies, implies_true, not_true, not_false_eq_true, nI_add, pk_mul, nI_sub, shl1, shr1, fa_or, fa_and, nI_m9, nI_m9s]
        refine ih (k + 1) (by omega) ?_
        cases hz : wIx la.2 b ((waysL la).drop (k + 1)) with
        | none => rw [hz] at hq; exact hq
        | some q =>
          rw [hz] at hq
          have e2 : ∀ j, ((some q : Option Nat).map (· + 1)).map (· + j) = (some q : Option Nat).map (· + (j + 1)) := fun j => by simp; omega
          rw [e2] at hq
          exact hq
  unfold wX8_wayBy
  refine ⟨_, key (waysL la).length 0 (by omega) ?_⟩
  rw [List.drop_zero]
  have : (wIx la.2 b (waysL la)).map (· + 0) = wayIx la b := by
    unfold wayIx
    cases wIx la.2 b (waysL la) <;> simp
  rw [this]; exact hQ
end SH
