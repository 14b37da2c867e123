/-! ways: how the class finds them -/
def WaysAt (ls : List Lane) (W : List (List Nat)) (σ : St) : Prop := σ.1 21 0 = nI W.length ∧ ∀ i w, W[i]? = some w → rowAt (σ.1 22) (i * 5) w ∧ σ.1 23 i = nI w.length ∧ σ.1 24 i = nI (endK w) ∧ σ.1 25 i = nI (bitsOf ls w)
theorem WaysAt.fr {ls : List Lane} {W : List (List Nat)} {s t : St} {M : Nat → Prop} (h : WaysAt ls W s) (hf : Fr M s t) (hd : ∀ k, 21 ≤ k → k ≤ 25 → ¬ M k) : WaysAt ls W t := by
  unfold WaysAt at *; rw [hf.1 21 (hd _ (by omega) (by omega)), hf.1 22 (hd _ (by omega) (by omega)), hf.1 23 (hd _ (by omega) (by omega)), hf.1 24 (hd _ (by omega) (by omega)), hf.1 25 (hd _ (by omega) (by omega))]; exact h
theorem getD_app_lt {w : List Nat} {p k : Nat} (h : k < w.length) : (w ++ [p]).getD k 0 = w.getD k 0 := by
  rw [List.getD_eq_getElem?_getD, List.getD_eq_getElem?_getD, List.getElem?_append_left h]
theorem getD_app_eq (w : List Nat) (p : Nat) : (w ++ [p]).getD w.length 0 = p := by
  rw [List.getD_eq_getElem?_getD, List.getElem?_append_right (Nat.le_refl _)]; simp
theorem lastOf_app (w : List Nat) (p : Nat) : lastOf (w ++ [p]) = p := by
  rw [lastOf_eq, List.length_append, show w.length + [p].length - 1 = w.length from rfl, getD_app_eq]
theorem bitsP_app (ls : List Lane) (w : List Nat) (p : Nat) : ∀ k, k ≤ w.length → bitsP ls (w ++ [p]) k = bitsP ls w k
  | 0, _ => rfl
  | 1, _ => rfl
  | k + 2, h => by
    rw [bitsP, bitsP, bitsP_app ls w p (k + 1) (by omega), getD_app_lt (by omega), getD_app_lt (by omega)]
theorem bitsOf_app (ls : List Lane) (w : List Nat) (p : Nat) (h : 1 ≤ w.length) : bitsOf ls (w ++ [p]) = bitsOf ls w ||| lb ls (lastOf w) p := by
  unfold bitsOf
  rw [List.length_append]
  obtain ⟨k, hk⟩ : ∃ k, w.length = k + 1 := ⟨w.length - 1, by omega⟩
  rw [show w.length + [p].length = k + 2 by simp; omega, bitsP, bitsP_app ls w p (k + 1) (by omega), getD_app_lt (by omega), ← hk, getD_app_eq, lastOf_eq, hk]
  rfl
theorem isRow_app {n : Nat} {ls : List Lane} {w : List Nat} {p : Nat} (h : isRow n ls w) (hl : w.length < 5) (hp : p < n) (hn : 1 ≤ w.length) (hj : (lnB ls (lastOf w) p).isSome = true) (hc : w.contains p = false) : isRow n ls (w ++ [p]) := by
  obtain ⟨h1, h2, h3, h4⟩ := h
  refine ⟨?_, ?_, ?_, ?_⟩
  · intro q hq
    rcases List.mem_append.mp hq with h | h
    · exact h1 q h
    · simp at h; omega
  · rw [List.length_append]; simp; omega
  · intro k hk
    rw [List.length_append] at hk
    simp at hk
    by_cases c : k + 1 < w.length
    · rw [getD_app_lt (by omega), getD_app_lt c]; exact h3 k c
    · have e : k + 1 = w.length := by omega
      rw [getD_app_lt (by omega), e, getD_app_eq]
      rw [lastOf_eq, ← e] at hj
      exact hj
  · rw [List.nodup_append]
    refine ⟨h4, by simp, ?_⟩
    intro a ha b hb
    simp at hb
    subst hb
    intro z
    subst z
    have : w.contains a = true := List.contains_iff_mem.mpr ha
    rw [hc] at this
    cases this
theorem rangeF_len {α : Type} (F : Nat → List α) {p : Nat} : ∀ {n : Nat}, p ≤ n → ((List.range p).flatMap F).length ≤ ((List.range n).flatMap F).length
  | 0, h => by have : p = 0 := by omega
               subst this; exact Nat.le_refl _
  | n + 1, h => by
    by_cases c : p = n + 1
    · subst c; exact Nat.le_refl _
    · have := rangeF_len F (show p ≤ n by omega)
      rw [List.range_succ, List.flatMap_append, List.length_append]
      omega
theorem rangeF_succ {α : Type} (F : Nat → List α) (n : Nat) : (List.range (n + 1)).flatMap F = (List.range n).flatMap F ++ F n := by
  rw [List.range_succ, List.flatMap_append]; simp
theorem sX8_onTrail {p : Nat} {t : List Nat} {s : St} {Q : Int32 → St → Prop} (hr : rowAt (s.1 28) 0 t) (ht : t.length ≤ 5) (htp : ∀ q ∈ t, q < 100) (hp : p < 100) (hQ : Q (if t.contains p then 1 else 0) s) : wX8_onTrail 21 (nI p) (nI t.length) s Q := by
  have key : ∀ d k, k + d = t.length → Q (if (t.drop k).contains p then 1 else 0) s → wX8_onTrail_2 21 (nI p) (nI t.length) Q (d + 1) (nI k) s := by
    intro d
    induction d with
    | zero =>
      intro k hk hq
      unfold wX8_onTrail_2
      have e : t.length ≤ k := by omega
      rw [List.drop_of_length_le e] at hq
      simp (disch := omega) only [e, lit_nI, nI_ltI, nI_leI, nI_eq, nI_clamp, vp_in_nI, forall_eq, true_and, and_true, false_and, and_false, true_implies, false_implies, implies_true, not_true, not_false_eq_true, nI_add, pk_mul, nI_sub, shl1, shr1, fa_or, fa_and, nI_m9, nI_m9s]
      exact hq
    | succ d ih =>
      intro k hk hq
      unfold wX8_onTrail_2
      have e : ¬ t.length ≤ k := by omega
      have hv := hr k (t.getD k 0) (getD_get (by omega))
      rw [Nat.zero_add] at hv
      have hb := row_lt htp (show k < t.length by omega)
      rw [drop_getD (by omega), List.contains_cons] at hq
      by_cases c : t.getD k 0 = p
      · have c2 : (p == t.getD k 0) = true := by rw [c]; exact beq_self_eq_true p
        rw [c2, Bool.true_or, if_pos rfl] at hq
        simp (disch := omega) only [e, hv, c, lit_nI, nI_ltI, nI_leI, nI_eq, nI_clamp, vp_in_nI, forall_eq, true_and, and_true, false_and, and_false, true_implies, false_implies, implies_true, not_true, not_false_eq_true, nI_add, pk_mul, nI_sub, shl1, shr1, fa_or, fa_and, nI_m9, nI_m9s]
        exact hq
      · have c2 : (p == t.getD k 0) = false := beq_eq_false_iff_ne.mpr (fun z => c z.symm)
        rw [c2, Bool.false_or] at hq
        simp (disch := omega) only [e, hv, c, lit_nI, nI_ltI, nI_leI, nI_eq, nI_clamp, vp_in_nI, forall_eq, true_and, and_true, false_and, and_false, true_implies, false_implies, implies_true, not_true, not_false_eq_true, nI_add, pk_mul, nI_sub, shl1, shr1, fa_or, fa_and, nI_m9, nI_m9s]
        exact ih (k + 1) (by omega) hq
  unfold wX8_onTrail
  exact ⟨_, key t.length 0 (by omega) (by rw [List.drop_zero]; exact hQ)⟩
theorem sX8_addTrail {ls : List Lane} {W : List (List Nat)} {t : List Nat} {s : St} {Q : St → Prop} (hW : WaysAt ls W s) (hw : W.length < 33) (hW5 : ∀ w ∈ W, w.length ≤ 5) (hr : rowAt (s.1 28) 0 t) (h1 : 1 ≤ t.length) (h5 : t.length ≤ 5) (htp : ∀ q ∈ t, q < 100) (hQ : ∀ u, Fr (fun k => 21 ≤ k ∧ k ≤ 25) s u → WaysAt ls (W ++ [t]) u → Q u) : wX8_addTrail 21 (nI t.length) (nI (bitsOf ls t)) s Q := by
  unfold wX8_addTrail
  have e0 := hW.1
  have ok : cpOk (nI 0) (nI (W.length * 5)) (nI t.length) 5 165 := cpOk_nI (by omega) (by omega) (by omega) (by omega)
  have v0 := hr 0 (t.getD 0 0) (getD_get (by omega))
  have v1 := hr (t.length - 1) (t.getD (t.length - 1) 0) (getD_get (by omega))
  rw [Nat.zero_add] at v0 v1
  have r1 : (stC s 28 22 0 (W.length * 5) t.length).1 21 0 = nI W.length := by rw [rC_ne (by omega)]; exact e0
  have r2 : ∀ w, (stI (stC s 28 22 0 (W.length * 5) t.length) 23 W.length w).1 21 0 = nI W.length := fun w => by rw [rI_ne (by omega)]; exact r1
  have r3 : ∀ w j, (stI (stC s 28 22 0 (W.length * 5) t.length) 23 W.length w).1 28 j = s.1 28 j := fun w j => by rw [rI_ne (by omega), rC_ne (by omega)]
  have r4 : ∀ w w', (stI (stI (stC s 28 22 0 (W.length * 5) t.length) 23 W.length w) 24 W.length w').1 21 0 = nI W.length := fun w w' => by rw [rI_ne (by omega)]; exact r2 w
  have r5 : ∀ w w' w'', (stI (stI (stI (stC s 28 22 0 (W.length * 5) t.length) 23 W.length w) 24 W.length w') 25 W.length w'').1 21 0 = nI W.length := fun w w' w'' => by rw [rI_ne (by omega)]; exact r4 w w'
  simp (disch := omega) only [e0, hw, ok, r1, r2, r3, r4, r5, v0, v1, lit_nI, nI_ltI, nI_leI, nI_eq, nI_clamp, vp_in_nI, forall_eq, true_and, and_true, false_and, and_false, true_implies, false_implies, implies_true, not_true, not_false_eq_true, nI_add, pk_mul, nI_sub, shl1, shr1, fa_or, fa_and, nI_m9, nI_m9s]
  generalize hu : stI (stI (stI (stI (stC s 28 22 0 (W.length * 5) t.length) 23 W.length (nI t.length)) 24 W.length (nI (t.getD 0 0 * 5 + t.getD (t.length - 1) 0))) 25 W.length (nI (bitsOf ls t))) 21 0 (nI (W.length + 1)) = u
  have hf : Fr (fun k => 21 ≤ k ∧ k ≤ 25) s u := by rw [← hu]; exact ((((Fr.rf.C (by omega)).I (by omega)).I (by omega)).I (by omega)).I (by omega)
  have q22 : u.1 22 = va_cpy (s.1 28) (s.1 22) 0 (W.length * 5) t.length := by rw [← hu, rI_ne (by omega), rI_ne (by omega), rI_ne (by omega), rI_ne (by omega), rC_eq]
  have q23 : ∀ j, u.1 23 j = if j = W.length then nI t.length else s.1 23 j := fun j => by
    rw [← hu, rI_ne (by omega), rI_ne (by omega), rI_ne (by omega), rI, rC_ne (by omega)]; simp
  have q24 : ∀ j, u.1 24 j = if j = W.length then nI (t.getD 0 0 * 5 + t.getD (t.length - 1) 0) else s.1 24 j := fun j => by
    rw [← hu, rI_ne (by omega), rI_ne (by omega), rI, rI_ne (by omega), rC_ne (by omega)]; simp
  have q25 : ∀ j, u.1 25 j = if j = W.length then nI (bitsOf ls t) else s.1 25 j := fun j => by
    rw [← hu, rI_ne (by omega), rI, rI_ne (by omega), rI_ne (by omega), rC_ne (by omega)]; simp
  refine hQ u hf ⟨?_, ?_⟩
  · rw [← hu, rI_eq, List.length_append]; rfl
  · intro i w hi
    rw [q22, q23, q24, q25]
    by_cases c : i < W.length
    · rw [List.getElem?_append_left c] at hi
      obtain ⟨a1, a2, a3, a4⟩ := hW.2 i w hi
      have hw5 := hW5 w (List.mem_of_getElem? hi)
      rw [if_neg (by omega), if_neg (by omega), if_neg (by omega)]
      exact ⟨a1.cg (fun k hk => cpy_out (by omega)), a2, a3, a4⟩
    · have hil : i < (W ++ [t]).length := (List.getElem?_eq_some_iff.mp hi).1
      rw [List.length_append] at hil
      simp at hil
      have e : i = W.length := by omega
      subst e
      rw [List.getElem?_append_right (Nat.le_refl _)] at hi
      simp at hi
      subst hi
      rw [if_pos rfl, if_pos rfl, if_pos rfl]
      refine ⟨fun k p hp => ?_, rfl, ?_, rfl⟩
      · have hk : k < t.length := (List.getElem?_eq_some_iff.mp hp).1
        rw [cpy_in (by omega) (by omega)]
        have := hr k p hp
        rw [show 0 + (W.length * 5 + k - W.length * 5) = 0 + k by omega]
        exact this
      · unfold endK; rw [lastOf_eq]
theorem waysFrom_row {n : Nat} {ls : List Lane} : ∀ (d : Nat) (t : List Nat), isRow n ls t → 1 ≤ t.length → ∀ w ∈ waysFrom n ls d t, isRow n ls w ∧ 1 ≤ w.length
  | 0, t, _, _, w, hw => by simp [waysFrom] at hw
  | d + 1, t, ht, h1, w, hw => by
    unfold waysFrom at hw
    rcases List.mem_append.mp hw with h | h
    · split at h
      · simp at h; subst h; exact ⟨ht, h1⟩
      · simp at h
    · split at h
      · rename_i hl
        obtain ⟨p, hp, hq⟩ := List.mem_flatMap.mp h
        rw [List.mem_range] at hp
        split at hq
        · rename_i hc
          rw [Bool.and_eq_true] at hc
          refine waysFrom_row d (t ++ [p]) (isRow_app ht hl hp h1 hc.1 (by simpa using hc.2)) (by rw [List.length_append]; simp) w hq
        · simp at hq
      · simp at h
theorem sX8_walk {g : Nat} {la : Land} (hg : g + 4 < 21 ∨ 28 < g) (h3 : okLand la) : ∀ (d : Nat) (t : List Nat) (W : List (List Nat)) (s : St) (Q : St → Prop), t.length + d = 6 → 1 ≤ t.length → t.length ≤ 5 → isRow la.1 la.2 t → rowAt (s.1 28) 0 t → GroundC g la s → WaysAt la.2 W s → (∀ w ∈ W, w.length ≤ 5) → W.length + (waysFrom la.1 la.2 d t).length ≤ 33 → (∀ u, Fr (fun k => (21 ≤ k ∧ k ≤ 25) ∨ k = 28) s u → (∀ k, k < t.length → u.1 28 k = s.1 28 k) → WaysAt la.2 (W ++ waysFrom la.1 la.2 d t) u → Q u) → wX8_walk d 21 g (nI t.length) (nI (bitsOf la.2 t)) s Q := by
  intro d
  induction d with
  | zero => intro t W s Q h; omega
  | succ d ih =>
    intro t W s Q hd h1 h5 ht hr hG hW hW5 hlen hQ
    have p5 := h3.2.1
    have l6 := h3.2.2.1
    have tb : ∀ q ∈ t, q < 100 := fun q hq => by have := ht.1 q hq; omega
    have v0 := hr 0 (t.getD 0 0) (getD_get (by omega))
    have v1 := hr (t.length - 1) (t.getD (t.length - 1) 0) (getD_get (by omega))
    rw [Nat.zero_add] at v0 v1
    have b0 := row_lt ht.1 (show 0 < t.length by omega)
    have b1 := row_lt ht.1 (show t.length - 1 < t.length by omega)
    have F0 : ∀ (W' : List (List Nat)) (s' : St), W' = W ++ (if t.getD 0 0 < lastOf t then [t] else []) → Fr (fun k => (21 ≤ k ∧ k ≤ 25) ∨ k = 28) s s' → s'.1 28 = s.1 28 → WaysAt la.2 W' s' → wX8_walk_27 (wX8_walk d) Q 21 g (nI t.length) (nI (bitsOf la.2 t)) (nI (t.getD (t.length - 1) 0)) s' := by
      intro W' s' hW' hf' h28 hWs
      have hW5' : ∀ w ∈ W', w.length ≤ 5 := by
        rw [hW']
        intro w hw
        rcases List.mem_append.mp hw with h | h
        · exact hW5 w h
        · split at h
          · simp at h; subst h; exact h5
          · simp at h
      unfold waysFrom at hlen
      unfold wX8_walk_27
      generalize hF : (fun p => if (lnB la.2 (lastOf t) p).isSome && !(t.contains p) then waysFrom la.1 la.2 d (t ++ [p]) else []) = F at hlen
      have hQ2 : ∀ u, Fr (fun k => (21 ≤ k ∧ k ≤ 25) ∨ k = 28) s' u → (∀ k, k < t.length → u.1 28 k = s'.1 28 k) → WaysAt la.2 (W' ++ (if t.length < 5 then (List.range la.1).flatMap F else [])) u → Q u := by
        intro u hfu hk hWu
        refine hQ u (hf'.tr hfu) (fun k hkk => by rw [hk k hkk, h28]) ?_
        unfold waysFrom
        rw [hF, ← List.append_assoc, ← hW']
        exact hWu
      rw [List.length_append, ← Nat.add_assoc, ← List.length_append, ← hW'] at hlen
      have key : ∀ e p u, p + e = la.1 → Fr (fun k => (21 ≤ k ∧ k ≤ 25) ∨ k = 28) s' u → (∀ k, k < t.length → u.1 28 k = s'.1 28 k) → WaysAt la.2 (W' ++ (if t.length < 5 then (List.range p).flatMap F else [])) u → wX8_walk_30 (wX8_walk d) 21 g (nI t.length) (nI (bitsOf la.2 t)) (nI (t.getD (t.length - 1) 0)) Q (e + 1) (nI p) u := by
        intro e
        induction e with
        | zero =>
          intro p u hp hfu hk hWu
          unfold wX8_walk_30
          have ep : p = la.1 := by omega
          subst ep
          have eg : u.1 g 0 = nI la.1 := by rw [hfu.1 g (by omega), hf'.1 g (by omega)]; exact hG.1
          simp (disch := omega) only [eg, Nat.le_refl, lit_nI, nI_ltI, nI_leI, nI_eq, nI_clamp, vp_in_nI, forall_eq, true_and, and_true, false_and, and_false, true_implies, false_implies, implies_true, not_true, not_false_eq_true, nI_add, pk_mul, nI_sub, shl1, shr1, fa_or, fa_and, nI_m9, nI_m9s]
          exact hQ2 u hfu hk hWu
        | succ e ihe =>
          intro p u hp hfu hk hWu
          have hGu : GroundC g la u := (hG.fr hf' (by intro k; omega)).fr hfu (by intro k; omega)
          have hru : rowAt (u.1 28) 0 t := hr.cg (fun k hkk => by rw [Nat.zero_add, hk k hkk, h28])
          have c1 : ¬ la.1 ≤ p := by omega
          unfold wX8_walk_30 wX8_walk_93
          by_cases c5 : 5 ≤ t.length
          · simp (disch := omega) only [hGu.1, c1, c5, lit_nI, nI_ltI, nI_leI, nI_eq, nI_clamp, vp_in_nI, forall_eq, true_and, and_true, false_and, and_false, true_implies, false_implies, implies_true, not_true, not_false_eq_true, nI_add, pk_mul, nI_sub, shl1, shr1, fa_or, fa_and, nI_m9, nI_m9s]
            refine hQ2 u hfu hk ?_
            rw [if_neg (by omega)] at hWu ⊢
            exact hWu
          · rw [if_pos (by omega)] at hlen hQ2
            have hWu' : WaysAt la.2 (W' ++ (List.range p).flatMap F) u := by rw [if_pos (by omega)] at hWu; exact hWu
            have ihe2 : ∀ v, Fr (fun k => (21 ≤ k ∧ k ≤ 25) ∨ k = 28) s' v → (∀ k, k < t.length → v.1 28 k = s'.1 28 k) → WaysAt la.2 (W' ++ ((List.range p).flatMap F ++ F p)) v → wX8_walk_30 (wX8_walk d) 21 g (nI t.length) (nI (bitsOf la.2 t)) (nI (t.getD (t.length - 1) 0)) Q (e + 1) (nI (p + 1)) v := by
              intro v h1 h2 h3'
              refine ihe (p + 1) v (by omega) h1 h2 ?_
              rw [if_pos (by omega), rangeF_succ]
              exact h3'
            simp (disch := omega) only [hGu.1, c1, c5, lit_nI, nI_ltI, nI_leI, nI_eq, nI_clamp, vp_in_nI, forall_eq, true_and, and_true, false_and, and_false, true_implies, false_implies, implies_true, not_true, not_false_eq_true, nI_add, pk_mul, nI_sub, shl1, shr1, fa_or, fa_and, nI_m9, nI_m9s]
            refine sX1_laneBetween hGu p5 b1 (by omega) ?_
            have hFp : F p = if (lnB la.2 (lastOf t) p).isSome && !(t.contains p) then waysFrom la.1 la.2 d (t ++ [p]) else [] := by rw [← hF]
            unfold lnI
            rw [lastOf_eq] at hFp
            cases hz : lnB la.2 (t.getD (t.length - 1) 0) p with
            | none =>
              rw [hz] at hFp
              simp at hFp
              simp (disch := omega) only [lit_nI, nI_ltI, nI_leI, nI_eq, nI_clamp, vp_in_nI, forall_eq, true_and, and_true, false_and, and_false, true_implies, false_implies, implies_true, not_true, not_false_eq_true, nI_add, pk_mul, nI_sub, shl1, shr1, fa_or, fa_and, nI_m9, nI_m9s]
              refine ihe2 u hfu hk ?_
              rw [hFp, List.append_nil]; exact hWu'
            | some l =>
              rw [hz] at hFp
              have hl := lnB_lt hz
              simp (disch := omega) only [lit_nI, nI_ltI, nI_leI, nI_eq, nI_clamp, vp_in_nI, forall_eq, true_and, and_true, false_and, and_false, true_implies, false_implies, implies_true, not_true, not_false_eq_true, nI_add, pk_mul, nI_sub, shl1, shr1, fa_or, fa_and, nI_m9, nI_m9s]
              refine sX8_onTrail hru h5 tb (by omega) ?_
              cases hc : t.contains p with
              | true =>
                rw [hc] at hFp
                simp at hFp
                simp (disch := omega) only [if_true, Nat.one_ne_zero, lit_nI, nI_ltI, nI_leI, nI_eq, nI_clamp, vp_in_nI, forall_eq, true_and, and_true, false_and, and_false, true_implies, false_implies, implies_true, not_true, not_false_eq_true, nI_add, pk_mul, nI_sub, shl1, shr1, fa_or, fa_and, nI_m9, nI_m9s]
                refine ihe2 u hfu hk ?_
                rw [hFp, List.append_nil]; exact hWu'
              | false =>
                rw [hc] at hFp
                simp at hFp
                simp (disch := omega) only [Bool.false_eq_true, if_false, lit_nI, nI_ltI, nI_leI, nI_eq, nI_clamp, vp_in_nI, forall_eq, true_and, and_true, false_and, and_false, true_implies, false_implies, implies_true, not_true, not_false_eq_true, nI_add, pk_mul, nI_sub, shl1, shr1, fa_or, fa_and, nI_m9, nI_m9s]
                have hbit : bitsOf la.2 t ||| 2 ^ l = bitsOf la.2 (t ++ [p]) := by
                  rw [bitsOf_app la.2 t p h1, lastOf_eq]
                  unfold lb
                  rw [hz]
                have htl : t.length + 1 = (t ++ [p]).length := by rw [List.length_append]; rfl
                rw [hbit, htl]
                have hf28 : Fr (fun k => (21 ≤ k ∧ k ≤ 25) ∨ k = 28) u (stI u 28 t.length (nI p)) := Fr.rf.I (by omega)
                have hlenp := rangeF_len F (show p + 1 ≤ la.1 by omega)
                rw [rangeF_succ, List.length_append] at hlenp
                have hrow : isRow la.1 la.2 (t ++ [p]) := isRow_app ht (by omega) (by omega) h1 (by rw [lastOf_eq, hz]; rfl) hc
                refine ih (t ++ [p]) (W' ++ (List.range p).flatMap F) _ _ (by rw [← htl]; omega) (by omega) (by omega) hrow ?_ (hGu.fr hf28 (by intro k; omega)) (hWu'.fr (M := fun k => k = 28) (Fr.rf.I rfl) (by intro k; omega)) ?_ ?_ (fun v hfv hkv hWv => ?_)
                · refine hru.app (fun k hkk => ?_) ?_
                  · rw [Nat.zero_add]; exact rI_nj (by omega)
                  · rw [Nat.zero_add]; exact rI_eq
                · intro w hw
                  rcases List.mem_append.mp hw with h | h
                  · exact hW5' w h
                  · obtain ⟨p', hpm, hp'⟩ := List.mem_flatMap.mp h
                    rw [← hF] at hp'
                    dsimp only at hp'
                    split at hp'
                    · rename_i hcc
                      rw [Bool.and_eq_true] at hcc
                      have hp'n : p' < la.1 := by have := List.mem_range.mp hpm; omega
                      exact (waysFrom_row d (t ++ [p']) (isRow_app ht (by omega) hp'n h1 hcc.1 (by simpa using hcc.2)) (by rw [List.length_append]; simp) w hp').1.2.1
                    · simp at hp'
                · rw [List.length_append, ← hFp]; omega
                · refine ihe2 v ((hfu.tr hf28).tr hfv) (fun k hkk => ?_) ?_
                  · rw [hkv k (by rw [← htl]; omega), rI_nj (by omega)]; exact hk k hkk
                  · rw [hFp, ← List.append_assoc]; exact hWv
      refine ⟨_, key la.1 0 s' (by omega) Fr.rf (fun _ _ => rfl) ?_⟩
      simp
      exact hWs
    unfold wX8_walk
    by_cases c : t.getD (t.length - 1) 0 ≤ t.getD 0 0
    · simp (disch := omega) only [v0, v1, c, lit_nI, nI_ltI, nI_leI, nI_eq, nI_clamp, vp_in_nI, forall_eq, true_and, and_true, false_and, and_false, true_implies, false_implies, implies_true, not_true, not_false_eq_true, nI_add, pk_mul, nI_sub, shl1, shr1, fa_or, fa_and, nI_m9, nI_m9s]
      refine F0 W s ?_ Fr.rf rfl hW
      rw [lastOf_eq, if_neg (by omega), List.append_nil]
    · simp (disch := omega) only [v0, v1, c, lit_nI, nI_ltI, nI_leI, nI_eq, nI_clamp, vp_in_nI, forall_eq, true_and, and_true, false_and, and_false, true_implies, false_implies, implies_true, not_true, not_false_eq_true, nI_add, pk_mul, nI_sub, shl1, shr1, fa_or, fa_and, nI_m9, nI_m9s]
      have hlt : W.length < 33 := by
        unfold waysFrom at hlen
        rw [lastOf_eq, if_pos (by omega)] at hlen
        simp at hlen
        omega
      refine sX8_addTrail hW hlt hW5 hr h1 h5 tb (fun u hf hu => ?_)
      refine F0 (W ++ [t]) u ?_ (hf.wk (by intro k; omega)) (hf.1 28 (by omega)) hu
      rw [lastOf_eq, if_pos (by omega)]
