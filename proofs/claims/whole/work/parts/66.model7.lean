/-! the reference: burns -/
section MK5
variable {x : Nat} {S : Sp} {s : St}
/-- rows e' of NOW from m on, e of them moved one down -/
def shiftM (f : Nat → Int32) (m e : Nat) : Nat → Int32 := fun j => if 7 + m ≤ j ∧ j < 7 + e then f (j + 1) else if 11 + 5 * m ≤ j ∧ j < 11 + 5 * e then f (j + 5) else f j
theorem kX10_burns {v : Int32} {Q : Int32 → St → Prop} (h : RM x S s) (hok : okSp S) (hQ : ∀ t, RM x (cBurns S v).2 t → Fr (fun k => x ≤ k) s t → Q (cBurns S v).1 t) : wX10_burns x v s Q := by
  have hok' := hok
  obtain ⟨o1, o2, o3, o4, o5, -⟩ := hok
  have hW := o4.W o3
  have h4 := hW.2.1
  unfold cBurns at hQ
  unfold wX10_burns
  refine thM h (fun s' h' hf => ?_)
  refine sX10_isMap h'.2.2.1 h4 (fun hx => ⟨fun z => absurd rfl z, fun _ => ?_⟩) (fun m hx => ⟨fun _ => ?_, fun z => absurd z (by decide)⟩)
  · rw [hx] at hQ; exact hQ s' h' hf
  obtain ⟨hm, rfl⟩ := num_lt (by omega) hx
  rw [hx] at hQ
  dsimp only at hQ
  refine sX10_before h' hok' (fun t hf2 hc hb => ?_)
  have e7 : t.1 (x + 7) = s'.1 (x + 7) := hc 7 (by omega) (by omega)
  have inner : ∀ (e : Nat) (K : St → Prop), e < 3 → m ≤ e → (∀ u, Fr (fun k => k = x + 7) t u → (∀ j, u.1 (x + 7) j = shiftM (t.1 (x + 7)) m (e + 1) j) → K u) → ∀ d k u, k + d = 5 → Fr (fun k => k = x + 7) t u → (∀ j, u.1 (x + 7) j = if j = 7 + e then t.1 (x + 7) (8 + e) else if 11 + 5 * e ≤ j ∧ j < 11 + 5 * e + k then t.1 (x + 7) (j + 5) else shiftM (t.1 (x + 7)) m e j) → wX10_burns_48 x (nI e) K Q (d + 1) (nI k) u := by
    intro e K he hme hK d
    induction d with
    | zero =>
      intro k u hk hfu h1
      unfold wX10_burns_48
      have c : 5 ≤ k := by omega
      have ek : k = 5 := by omega
      subst ek
      simp (disch := omega) only [c, lit_nI, nI_ltI, nI_leI, nI_eq, nI_clamp, vp_in_nI, forall_eq, true_and, and_true, false_and, and_false, true_implies, false_implies, implies_true, not_true, not_false_eq_true, nI_add, pk_mul, nI_sub, shl1, shr1, fa_or, fa_and, nI_m9, nI_m9s]
      refine hK u hfu (fun j => ?_)
      rw [h1]
      unfold shiftM
      by_cases c1 : j = 7 + e
      · rw [if_pos c1, if_pos (by omega)]
        exact congrArg (t.1 (x + 7)) (by omega)
      · rw [if_neg c1]
        by_cases c2 : 11 + 5 * e ≤ j ∧ j < 11 + 5 * e + 5
        · rw [if_pos c2, if_neg (by omega), if_pos (by omega)]
        · rw [if_neg c2]
          by_cases c3 : 7 + m ≤ j ∧ j < 7 + e
          · rw [if_pos c3, if_pos (by omega)]
          · by_cases c4 : 11 + 5 * m ≤ j ∧ j < 11 + 5 * e
            · rw [if_neg c3, if_pos c4, if_neg (by omega), if_pos (by omega)]
            · rw [if_neg c3, if_neg c4, if_neg (by omega), if_neg (by omega)]
    | succ d ih =>
      intro k u hk hfu h1
      unfold wX10_burns_48
      have c : ¬ 5 ≤ k := by omega
      have er : u.1 (x + 7) (11 + 5 * e + 5 + k) = t.1 (x + 7) (11 + 5 * e + 5 + k) := by
        rw [h1, if_neg (by omega), if_neg (by omega)]
        unfold shiftM
        rw [if_neg (by omega), if_neg (by omega)]
      simp (disch := omega) only [c, er, lit_nI, nI_ltI, nI_leI, nI_eq, nI_clamp, vp_in_nI, forall_eq, true_and, and_true, false_and, and_false, true_implies, false_implies, implies_true, not_true, not_false_eq_true, nI_add, pk_mul, nI_sub, shl1, shr1, fa_or, fa_and, nI_m9, nI_m9s]
      refine ih (k + 1) _ (by omega) (Fr.I (k := x + 7) hfu rfl) (fun j => ?_)
      by_cases c1 : j = 11 + 5 * e + k
      · subst c1
        rw [rI_eq, if_neg (by omega), if_pos (by omega)]
        exact congrArg (t.1 (x + 7)) (by omega)
      · rw [rI_nj c1, h1]
        by_cases c2 : j = 7 + e
        · rw [if_pos c2, if_pos c2]
        · rw [if_neg c2, if_neg c2]
          by_cases c3 : 11 + 5 * e ≤ j ∧ j < 11 + 5 * e + k
          · rw [if_pos c3, if_pos (by omega)]
          · rw [if_neg c3, if_neg (by omega)]
  have outer : ∀ (K : St → Prop), (∀ u, Fr (fun k => k = x + 7) t u → (∀ j, u.1 (x + 7) j = shiftM (t.1 (x + 7)) m (Nat.max 3 m) j) → K u) → ∀ d e u, e + d = Nat.max 3 m → m ≤ e → Fr (fun k => k = x + 7) t u → (∀ j, u.1 (x + 7) j = shiftM (t.1 (x + 7)) m e j) → wX10_burns_21 x K Q (d + 1) (nI e) u := by
    intro K hK d
    have hm3 : Nat.max 3 m = 3 := by
      have : m ≤ 3 := by omega
      exact Nat.max_eq_left this
    rw [hm3] at hK ⊢
    induction d with
    | zero =>
      intro e u he hme hfu h1
      unfold wX10_burns_21
      have c : 3 ≤ e := by omega
      have ee : e = 3 := by omega
      subst ee
      simp (disch := omega) only [c, lit_nI, nI_ltI, nI_leI, nI_eq, nI_clamp, vp_in_nI, forall_eq, true_and, and_true, false_and, and_false, true_implies, false_implies, implies_true, not_true, not_false_eq_true, nI_add, pk_mul, nI_sub, shl1, shr1, fa_or, fa_and, nI_m9, nI_m9s]
      exact hK u hfu h1
    | succ d ih =>
      intro e u he hme hfu h1
      unfold wX10_burns_21
      have c : ¬ 3 ≤ e := by omega
      have er : u.1 (x + 7) (7 + e + 1) = t.1 (x + 7) (8 + e) := by
        rw [h1]
        unfold shiftM
        rw [if_neg (by omega), if_neg (by omega)]
        exact congrArg (t.1 (x + 7)) (by omega)
      simp (disch := omega) only [c, er, lit_nI, nI_ltI, nI_leI, nI_eq, nI_clamp, vp_in_nI, forall_eq, true_and, and_true, false_and, and_false, true_implies, false_implies, implies_true, not_true, not_false_eq_true, nI_add, pk_mul, nI_sub, shl1, shr1, fa_or, fa_and, nI_m9, nI_m9s]
      refine ⟨_, inner e _ (by omega) hme (fun u2 hf3 h3 => ih (e + 1) u2 (by omega) (by omega) hf3 h3) 5 0 _ (by omega) (Fr.I (k := x + 7) hfu rfl) (fun j => ?_)⟩
      by_cases c1 : j = 7 + e
      · subst c1
        rw [rI_eq, if_pos rfl]
      · rw [rI_nj c1, if_neg c1, if_neg (by omega)]; exact h1 j
  have hm3 : Nat.max 3 m = 3 := Nat.max_eq_left (by omega)
  refine ⟨_, outer _ (fun u hfu h1 => ?_) (Nat.max 3 m - m) m t (by rw [hm3]; omega) (Nat.le_refl _) Fr.rf (fun j => by unfold shiftM; rw [if_neg (by omega), if_neg (by omega)])⟩
  rw [hm3] at h1
  obtain ⟨n1, n2, n3, n4, n5, n6⟩ := h'.2.2.1
  have w1 := hW.1
  have w4 := hW.2.2.2
  have e6 : u.1 (x + 7) 6 = nI S.2.2.1.2.1.length := by
    rw [h1]; unfold shiftM; rw [if_neg (by omega), if_neg (by omega), e7]; exact n2
  have e6' : ∀ w, (stI u (x + 7) 6 w).1 (x + 7) 6 = w := fun w => rI_eq
  simp (disch := omega) only [e6, e6', lit_nI, nI_ltI, nI_leI, nI_eq, nI_clamp, vp_in_nI, forall_eq, true_and, and_true, false_and, and_false, true_implies, false_implies, implies_true, not_true, not_false_eq_true, nI_add, pk_mul, nI_sub, shl1, shr1, fa_or, fa_and, nI_m9, nI_m9s]
  have hf3 : Fr (fun k => k = x + 7) t (stI u (x + 7) 6 (nI (S.2.2.1.2.1.length - 1))) := Fr.I (k := x + 7) hfu rfl
  have rr : ∀ j, j ≠ 6 → (stI u (x + 7) 6 (nI (S.2.2.1.2.1.length - 1))).1 (x + 7) j = shiftM (s'.1 (x + 7)) m 3 j := fun j hj => by rw [rI_nj hj, h1, e7]
  have out : ∀ j, j ≠ 6 → (j < 7 ∨ 26 ≤ j) → (stI u (x + 7) 6 (nI (S.2.2.1.2.1.length - 1))).1 (x + 7) j = s'.1 (x + 7) j := fun j h2 h3 => by
    rw [rr j h2]; unfold shiftM; rw [if_neg (by omega), if_neg (by omega)]
  refine hQ _ (hb _ _ hf3 ⟨?_, ?_, ?_, ?_, ?_, ?_⟩) ((hf.tr hf2).tr (hf3.wk (by intro k; omega)))
  · exact n1.cg (fun k hk => out _ (by have : k < S.2.2.1.1.length := hk; omega) (by have : k < S.2.2.1.1.length := hk; omega))
  · show _ = nI (S.2.2.1.2.1.eraseIdx m).length
    rw [List.length_eraseIdx, if_pos hm]; exact rI_eq
  · intro i w hw
    have hw' : (S.2.2.1.2.1.eraseIdx m)[i]? = some w := hw
    have hil : i < (S.2.2.1.2.1.eraseIdx m).length := (List.getElem?_eq_some_iff.mp hw').1
    rw [List.length_eraseIdx, if_pos hm] at hil
    rw [List.getElem?_eraseIdx] at hw'
    by_cases c : i < m
    · rw [if_pos c] at hw'
      obtain ⟨e1, e2⟩ := n3 i w hw'
      have hl := hW.2.2.1 w (List.mem_of_getElem? hw')
      refine ⟨?_, e2.cg (fun k hk => ?_)⟩
      · rw [rr _ (by omega)]; unfold shiftM; rw [if_neg (by omega), if_neg (by omega)]; exact e1
      · rw [rr _ (by omega)]; unfold shiftM; rw [if_neg (by omega), if_neg (by omega)]
    · rw [if_neg c] at hw'
      obtain ⟨e1, e2⟩ := n3 (i + 1) w hw'
      have hl := hW.2.2.1 w (List.mem_of_getElem? hw')
      refine ⟨?_, fun k p hp => ?_⟩
      · rw [rr _ (by omega)]; unfold shiftM; rw [if_pos (by omega), ← e1]
        exact congrArg (s'.1 (x + 7)) (by omega)
      · have hk : k < w.length := (List.getElem?_eq_some_iff.mp hp).1
        rw [rr _ (by omega)]; unfold shiftM; rw [if_neg (by omega), if_pos (by omega), ← e2 k p hp]
        exact congrArg (s'.1 (x + 7)) (by omega)
  · exact n4.cg (fun k hk => out _ (by omega) (by omega))
  · rw [out _ (by omega) (by omega)]; exact n5
  · rw [out _ (by omega) (by omega)]; exact n6
end MK5
