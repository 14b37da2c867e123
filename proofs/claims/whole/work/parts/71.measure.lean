/-! ways, on: all of them; how long they are -/
theorem WaysC.at {la : Land} {s : St} : WaysC la s ↔ WaysAt la.2 (waysL la) s := Iff.rfl
theorem isRow_one {n : Nat} {ls : List Lane} {p : Nat} (h : p < n) : isRow n ls [p] := ⟨fun q hq => by simp at hq; omega, by simp, fun k hk => by simp at hk, by simp⟩
theorem sX8_find {g : Nat} {la : Land} {s : St} {Q : St → Prop} (hg : g + 4 < 21 ∨ 28 < g) (h3 : okLand la) (hG : GroundC g la s) (hlen : (waysL la).length ≤ 33) (hQ : ∀ u, Fr (fun k => (21 ≤ k ∧ k ≤ 25) ∨ k = 28) s u → WaysC la u → Q u) : wX8_find 21 g s Q := by
  have p5 := h3.2.1
  generalize hF : (fun p => waysFrom la.1 la.2 5 [p]) = F
  have hWL : waysL la = (List.range la.1).flatMap F := by unfold waysL; rw [hF]
  have key : ∀ e p u, p + e = la.1 → Fr (fun k => (21 ≤ k ∧ k ≤ 25) ∨ k = 28) s u → WaysAt la.2 ((List.range p).flatMap F) u → wX8_find_7 21 g Q (e + 1) (nI p) u := by
    intro e
    induction e with
    | zero =>
      intro p u hp hfu hWu
      unfold wX8_find_7
      have ep : p = la.1 := by omega
      subst ep
      have eg : u.1 g 0 = nI la.1 := by rw [hfu.1 g (by omega)]; exact hG.1
      simp (disch := omega) only [eg, Nat.le_refl, lit_nI, nI_ltI, nI_leI, nI_eq, nI_clamp, vp_in_nI, forall_eq, true_and, and_true, false_and, and_false, true_implies, false_implies, implies_true, not_true, not_false_eq_true, nI_add, pk_mul, nI_sub, shl1, shr1, fa_or, fa_and, nI_m9, nI_m9s]
      exact hQ u hfu (WaysC.at.mpr (by rw [hWL]; exact hWu))
    | succ e ih =>
      intro p u hp hfu hWu
      unfold wX8_find_7
      have hGu : GroundC g la u := hG.fr hfu (by intro k; omega)
      have c1 : ¬ la.1 ≤ p := by omega
      simp (disch := omega) only [hGu.1, c1, lit_nI, nI_ltI, nI_leI, nI_eq, nI_clamp, vp_in_nI, forall_eq, true_and, and_true, false_and, and_false, true_implies, false_implies, implies_true, not_true, not_false_eq_true, nI_add, pk_mul, nI_sub, shl1, shr1, fa_or, fa_and, nI_m9, nI_m9s]
      have hf28 : Fr (fun k => (21 ≤ k ∧ k ≤ 25) ∨ k = 28) u (stI u 28 0 (nI p)) := Fr.rf.I (by omega)
      have hlenp := rangeF_len F (show p + 1 ≤ la.1 by omega)
      rw [rangeF_succ, List.length_append, ← hWL] at hlenp
      have hFp : F p = waysFrom la.1 la.2 5 [p] := by rw [← hF]
      refine ⟨5, by omega, ?_⟩
      have hrow : isRow la.1 la.2 [p] := isRow_one (by omega)
      refine sX8_walk hg h3 5 [p] ((List.range p).flatMap F) _ _ (by simp) (by simp) (by simp) hrow ?_ (hGu.fr hf28 (by intro k; omega)) (hWu.fr (M := fun k => k = 28) (Fr.rf.I rfl) (by intro k; omega)) ?_ (by rw [← hFp]; omega) (fun v hfv hkv hWv => ?_)
      · intro k q hq
        cases k with
        | zero => simp at hq; subst hq; exact rI_eq
        | succ k => simp at hq
      · intro w hw
        obtain ⟨p', hpm, hp'⟩ := List.mem_flatMap.mp hw
        rw [← hF] at hp'
        have hp'n : p' < la.1 := by have := List.mem_range.mp hpm; omega
        exact (waysFrom_row 5 [p'] (isRow_one hp'n) (by simp) w hp').1.2.1
      · refine ih (p + 1) v (by omega) ((hfu.tr hf28).tr hfv) ?_
        rw [rangeF_succ, hFp]; exact hWv
  unfold wX8_find
  intro t ht
  subst ht
  have hf0 : Fr (fun k => (21 ≤ k ∧ k ≤ 25) ∨ k = 28) s (stI s 21 0 (0 : Int32)) := Fr.rf.I (by omega)
  exact ⟨_, key la.1 0 _ (by omega) hf0 ⟨rI_eq, fun i w hw => by simp at hw⟩⟩
theorem waysFrom_lt {n : Nat} {ls : List Lane} : ∀ (d : Nat) (t : List Nat), ∀ w ∈ waysFrom n ls d t, w.getD 0 0 < lastOf w
  | 0, t, w, hw => by simp [waysFrom] at hw
  | d + 1, t, w, hw => by
    unfold waysFrom at hw
    rcases List.mem_append.mp hw with h | h
    · split at h
      · rename_i hc; simp at h; subst h; exact hc
      · simp at h
    · split at h
      · obtain ⟨p, hp, hq⟩ := List.mem_flatMap.mp h
        split at hq
        · exact waysFrom_lt d (t ++ [p]) w hq
        · simp at hq
      · simp at h
/-- a way of the land: from its lower end to its higher one -/
theorem ways_row {la : Land} {w : List Nat} (h : w ∈ waysL la) : isRow la.1 la.2 w ∧ 2 ≤ w.length ∧ w.getD 0 0 < lastOf w := by
  unfold waysL at h
  obtain ⟨p, hp, hq⟩ := List.mem_flatMap.mp h
  have h1 := waysFrom_row 5 [p] (isRow_one (List.mem_range.mp hp)) (by simp) w hq
  have h2 := waysFrom_lt 5 [p] w hq
  refine ⟨h1.1, ?_, h2⟩
  by_cases c : w.length = 1
  · rw [lastOf_eq, c] at h2
    simp at h2
  · omega
theorem ways_end {la : Land} (h5 : la.1 ≤ 5) {w : List Nat} (h : w ∈ waysL la) : endK w < 25 ∧ w.getD 0 0 < la.1 ∧ lastOf w < la.1 := by
  obtain ⟨h1, h2, h3⟩ := ways_row h
  have a := row_lt h1.1 (show 0 < w.length by omega)
  have b := row_lt h1.1 (show w.length - 1 < w.length by omega)
  rw [← lastOf_eq] at b
  unfold endK
  omega
theorem lenOf_le {L : List Nat} (hL : ∀ y ∈ L, y ≤ 5) (hl : L.length ≤ 6) (b : Nat) : lenOf L b ≤ 30 := by
  have := lenP_le (b := b) hL L.length
  unfold lenOf
  omega
theorem lsP_le {ls : List Lane} {L : List Nat} {W : List (List Nat)} {k : Nat} (hL : ∀ y ∈ L, y ≤ 5) (hl : L.length ≤ 6) : ∀ {i m : Nat}, lsP ls L W k i = some m → m ≤ 30
  | 0, m, h => by simp [lsP] at h
  | i + 1, m, h => by
    unfold lsP at h
    have hb := lenOf_le hL hl (bitsOf ls (W.getD i []))
    split at h
    · cases hq : lsP ls L W k i with
      | none => rw [hq] at h; cases h; exact hb
      | some q =>
        rw [hq] at h
        have := lsP_le hL hl hq
        cases h
        split <;> omega
    · exact lsP_le hL hl h
def MeasC (la : Land) (L : List Nat) (σ : St) : Prop := (∀ i w, (waysL la)[i]? = some w → σ.1 26 i = nI (lenOf L (bitsOf la.2 w))) ∧ ∀ k, k < 25 → σ.1 27 k = oI (lsL la L k)
theorem sX8_measure {g x2 : Nat} {la : Land} {L : List Nat} {s : St} {Q : St → Prop} (hg : g + 4 < 21 ∨ 28 < g) (hx2 : x2 ≠ 26 ∧ x2 ≠ 27) (h3 : okLand la) (hG : GroundC g la s) (hW : WaysC la s) (hlen : (waysL la).length ≤ 33) (hL : L.length = la.2.length) (hL5 : ∀ y ∈ L, y ≤ 5) (hr : rowAt (s.1 x2) 0 L) (hQ : ∀ u, Fr (fun k => k = 26 ∨ k = 27) s u → MeasC la L u → Q u) : wX8_measure 21 g x2 6 s Q := by
  have p5 := h3.2.1
  have l6 := h3.2.2.1
  have hget : ∀ i, i < (waysL la).length → (waysL la)[i]? = some ((waysL la).getD i []) := fun i hi => by rw [List.getD_eq_getElem?_getD, List.getElem?_eq_getElem hi]; rfl
  have loop2 : ∀ e i u, i + e = (waysL la).length → Fr (fun k => k = 26 ∨ k = 27) s u → (∀ j w, j < i → (waysL la)[j]? = some w → u.1 26 j = nI (lenOf L (bitsOf la.2 w))) → (∀ k, k < 25 → u.1 27 k = oI (lsP la.2 L (waysL la) k i)) → wX8_measure_27 21 g x2 6 Q (e + 1) (nI i) u := by
    intro e
    induction e with
    | zero =>
      intro i u hi hfu h26 h27
      unfold wX8_measure_27
      have ei : i = (waysL la).length := by omega
      subst ei
      have e0 : u.1 21 0 = nI (waysL la).length := by rw [hfu.1 21 (by omega)]; exact hW.1
      simp (disch := omega) only [e0, Nat.le_refl, lit_nI, nI_ltI, nI_leI, nI_eq, nI_clamp, vp_in_nI, forall_eq, true_and, and_true, false_and, and_false, true_implies, false_implies, implies_true, not_true, not_false_eq_true, nI_add, pk_mul, nI_sub, shl1, shr1, fa_or, fa_and, nI_m9, nI_m9s]
      refine hQ u hfu ⟨fun i w hw => h26 i w (List.getElem?_eq_some_iff.mp hw).1 hw, h27⟩
    | succ e ih =>
      intro i u hi hfu h26 h27
      have hi2 : i < (waysL la).length := by omega
      have hg2 := hget i hi2
      have hmem := List.mem_of_getElem? hg2
      obtain ⟨ek, -, -⟩ := ways_end p5 hmem
      obtain ⟨m1, m2, m3, m4⟩ := hW.2 i _ hg2
      have hGu : GroundC g la u := hG.fr hfu (by intro k; omega)
      have e0 : u.1 21 0 = nI (waysL la).length := by rw [hfu.1 21 (by omega)]; exact hW.1
      have e25 : u.1 25 i = nI (bitsOf la.2 ((waysL la).getD i [])) := by rw [hfu.1 25 (by omega)]; exact m4
      have e24 : ∀ w, (stI u 26 i w).1 24 i = nI (endK ((waysL la).getD i [])) := fun w => by rw [rI_ne (by omega), hfu.1 24 (by omega)]; exact m3
      have c : ¬ (waysL la).length ≤ i := by omega
      have hb64 : bitsOf la.2 ((waysL la).getD i []) < 64 := bitsP_lt l6 _ _
      have hll := lenOf_le hL5 (by omega) (bitsOf la.2 ((waysL la).getD i []))
      unfold wX8_measure_27
      simp (disch := omega) only [e0, c, e25, lit_nI, nI_ltI, nI_leI, nI_eq, nI_clamp, vp_in_nI, forall_eq, true_and, and_true, false_and, and_false, true_implies, false_implies, implies_true, not_true, not_false_eq_true, nI_add, pk_mul, nI_sub, shl1, shr1, fa_or, fa_and, nI_m9, nI_m9s]
      refine sX1_lengthOf hGu l6 hb64 hL (by rw [hfu.1 x2 (by omega)]; exact hr) ?_
      rw [← hL, show lenP L (bitsOf la.2 ((waysL la).getD i [])) L.length = lenOf L (bitsOf la.2 ((waysL la).getD i [])) from rfl]
      have e26 : ∀ w, (stI u 26 i w).1 26 i = w := fun w => rI_eq
      have e27 : ∀ w, (stI u 26 i w).1 27 (endK ((waysL la).getD i [])) = oI (lsP la.2 L (waysL la) (endK ((waysL la).getD i [])) i) := fun w => by rw [rI_ne (by omega)]; exact h27 _ ek
      unfold wX8_measure_102
      have fin : ∀ v, nI v = oI (lsP la.2 L (waysL la) (endK ((waysL la).getD i [])) (i + 1)) → wX8_measure_27 21 g x2 6 Q (e + 1) (nI (i + 1)) (stI (stI u 26 i (nI (lenOf L (bitsOf la.2 ((waysL la).getD i []))))) 27 (endK ((waysL la).getD i [])) (nI v)) := by
        intro v hv
        refine ih (i + 1) _ (by omega) ((hfu.I (by omega)).I (by omega)) (fun j w hj hw => ?_) (fun k hk => ?_)
        · rw [rI_ne (by omega)]
          by_cases cj : j = i
          · subst cj
            rw [hg2] at hw
            cases hw
            exact rI_eq
          · rw [rI_nj cj]; exact h26 j w (by omega) hw
        · by_cases ck : k = endK ((waysL la).getD i [])
          · subst ck
            rw [rI_eq]; exact hv
          · rw [rI_nj ck, rI_ne (by omega), h27 k hk, lsP, if_neg (fun z => ck z.symm)]
      cases hz : lsP la.2 L (waysL la) (endK ((waysL la).getD i [])) i with
      | none =>
        rw [hz] at e27
        have e27' : ∀ w, (stI u 26 i w).1 27 (endK ((waysL la).getD i [])) = -nI 9 := e27
        simp (disch := omega) only [e24, e26, e27', lit_nI, nI_ltI, nI_leI, nI_eq, nI_clamp, vp_in_nI, forall_eq, true_and, and_true, false_and, and_false, true_implies, false_implies, implies_true, not_true, not_false_eq_true, nI_add, pk_mul, nI_sub, shl1, shr1, fa_or, fa_and, nI_m9, nI_m9s]
        refine fin _ ?_
        rw [lsP, if_pos rfl, hz]; rfl
      | some m =>
        rw [hz] at e27
        have e27' : ∀ w, (stI u 26 i w).1 27 (endK ((waysL la).getD i [])) = nI m := e27
        have hm := lsP_le hL5 (by omega) hz
        have hv : oI (lsP la.2 L (waysL la) (endK ((waysL la).getD i [])) (i + 1)) = nI (if lenOf L (bitsOf la.2 ((waysL la).getD i [])) < m then lenOf L (bitsOf la.2 ((waysL la).getD i [])) else m) := by
          rw [lsP, if_pos rfl, hz]; rfl
        by_cases cm : lenOf L (bitsOf la.2 ((waysL la).getD i [])) < m
        · rw [if_pos cm] at hv
          simp (disch := omega) only [e24, e26, e27', cm, if_true, lit_nI, nI_ltI, nI_leI, nI_eq, nI_clamp, vp_in_nI, forall_eq, true_and, and_true, false_and, and_false, true_implies, false_implies, implies_true, not_true, not_false_eq_true, nI_add, pk_mul, nI_sub, shl1, shr1, fa_or, fa_and, nI_m9, nI_m9s]
          exact fin _ hv.symm
        · rw [if_neg cm] at hv
          simp (disch := omega) only [e24, e26, e27', cm, if_false, lit_nI, nI_ltI, nI_leI, nI_eq, nI_clamp, vp_in_nI, forall_eq, true_and, and_true, false_and, and_false, true_implies, false_implies, implies_true, not_true, not_false_eq_true, nI_add, pk_mul, nI_sub, shl1, shr1, fa_or, fa_and, nI_m9, nI_m9s]
          exact fin _ hv.symm
  have loop1 : ∀ (K : St → Prop), (∀ u, Fr (fun k => k = 26 ∨ k = 27) s u → (∀ k, k < 25 → u.1 27 k = -9) → K u) → ∀ e j u, j + e = 25 → Fr (fun k => k = 26 ∨ k = 27) s u → (∀ k, k < j → u.1 27 k = -9) → wX8_measure_2 21 g x2 6 K Q (e + 1) (nI j) u := by
    intro K hK e
    induction e with
    | zero =>
      intro j u hj hfu h1
      unfold wX8_measure_2
      have c : 25 ≤ j := by omega
      simp (disch := omega) only [c, lit_nI, nI_ltI, nI_leI, nI_eq, nI_clamp, vp_in_nI, forall_eq, true_and, and_true, false_and, and_false, true_implies, false_implies, implies_true, not_true, not_false_eq_true, nI_add, pk_mul, nI_sub, shl1, shr1, fa_or, fa_and, nI_m9, nI_m9s]
      exact hK u hfu (fun k hk => h1 k (by omega))
    | succ e ih =>
      intro j u hj hfu h1
      unfold wX8_measure_2
      have c : ¬ 25 ≤ j := by omega
      simp (disch := omega) only [c, lit_nI, nI_ltI, nI_leI, nI_eq, nI_clamp, vp_in_nI, forall_eq, true_and, and_true, false_and, and_false, true_implies, false_implies, implies_true, not_true, not_false_eq_true, nI_add, pk_mul, nI_sub, shl1, shr1, fa_or, fa_and, nI_m9, nI_m9s]
      refine ih (j + 1) _ (by omega) (hfu.I (by omega)) (fun k hk => ?_)
      by_cases ck : k = j
      · subst ck; rw [rI_eq]; rfl
      · rw [rI_nj ck]; exact h1 k (by omega)
  unfold wX8_measure
  refine ⟨_, loop1 _ (fun u hfu h1 => ⟨_, loop2 (waysL la).length 0 u (by omega) hfu (fun j w hj => by omega) (fun k hk => ?_)⟩) 25 0 s (by omega) Fr.rf (fun k hk => by omega)⟩
  rw [h1 k hk]; rfl
