/-! the reference's calls that need no ways -/
section MC
variable {x : Nat} {s t : St}
theorem TextM.cg {T : List Nat} (h : TextM x T s) (h1 : t.1 x 3 = s.1 x 3) (h2 : t.1 (x + 1) = s.1 (x + 1)) : TextM x T t := by unfold TextM at *; rw [h1, h2]; exact h
theorem LandM.cg {la : Land} (h : LandM x la s) (h2 : t.1 (x + 2) = s.1 (x + 2)) (h3 : t.1 (x + 3) = s.1 (x + 3)) (h4 : t.1 (x + 4) = s.1 (x + 4)) (h5 : t.1 (x + 5) = s.1 (x + 5)) : LandM x la t := by unfold LandM at *; rw [h2, h3, h4, h5]; exact h
theorem UndoM.cg {U : List Nw} (h : UndoM x U s) (h1 : t.1 x 18 = s.1 x 18) (h2 : t.1 (x + 10) = s.1 (x + 10)) : UndoM x U t := by unfold UndoM at *; rw [h1, h2]; exact h
theorem ImgM.cg {I : Option Nw × Option Nw} (h : ImgM x I s) (h1 : t.1 (x + 8) = s.1 (x + 8)) (h2 : t.1 (x + 9) = s.1 (x + 9)) : ImgM x I t := by unfold ImgM at *; rw [h1, h2]; exact h
theorem TookM.cg {T : List (Nat × Nat)} (h : TookM x T s) (h1 : t.1 x 21 = s.1 x 21) (h2 : t.1 (x + 11) = s.1 (x + 11)) (h3 : t.1 (x + 12) = s.1 (x + 12)) : TookM x T t := by unfold TookM at *; rw [h1, h2, h3]; exact h
theorem WaysM.cg {la : Land} (h : WaysM x la s) (h1 : t.1 x 26 = s.1 x 26) (h2 : t.1 (x + 13) = s.1 (x + 13)) (h3 : t.1 (x + 15) = s.1 (x + 15)) (h4 : t.1 (x + 16) = s.1 (x + 16)) (h5 : t.1 (x + 14) 0 = s.1 (x + 14) 0) : WaysM x la t := by unfold WaysM at *; rw [h1, h2, h3, h4, h5]; exact h
theorem RM.cg {S : Sp} (h : RM x S s) (e3 : t.1 x 3 = s.1 x 3) (e18 : t.1 x 18 = s.1 x 18) (e21 : t.1 x 21 = s.1 x 21) (e26 : t.1 x 26 = s.1 x 26) (ec : ∀ c, c ∈ [1, 2, 3, 4, 5, 7, 8, 9, 10, 11, 12, 13, 15, 16] → t.1 (x + c) = s.1 (x + c)) (e14 : t.1 (x + 14) 0 = s.1 (x + 14) 0) (etr : t.2.1 x = s.2.1 x) : RM x S t := by
  obtain ⟨a1, a2, a3, a4, a5, a6, a7, a8⟩ := h
  exact ⟨a1.cg e3 (ec 1 (by simp)), a2.cg (ec 2 (by simp)) (ec 3 (by simp)) (ec 4 (by simp)) (ec 5 (by simp)), by rw [ec 7 (by simp)]; exact a3, a4.cg e18 (ec 10 (by simp)), a5.cg (ec 8 (by simp)) (ec 9 (by simp)), a6.cg e21 (ec 11 (by simp)) (ec 12 (by simp)), a7.cg e26 (ec 13 (by simp)) (ec 15 (by simp)) (ec 16 (by simp)) e14, by rw [etr]; exact a8⟩
theorem thM {S : Sp} {P : St → Prop} (h : RM x S s) (k : ∀ s', RM x S s' → Fr (fun k => x ≤ k) s s' → P s') : ∀ s_2 : St, s_2 = stI s x 0 (0 : Int32) → P s_2 := by
  intro s2 e
  subst e
  refine k _ (h.cg (rI_nj (by omega)) (rI_nj (by omega)) (rI_nj (by omega)) (rI_nj (by omega)) (fun c hc => ?_) (by rw [rI_ne (by omega)]) rfl) (Fr.rf.I (Nat.le_refl _))
  exact rI_ne (by simp at hc; omega)
end MC
section MK
variable {x : Nat} {S : Sp} {s : St}
theorem kX10_type {v : Int32} {Q : Int32 → St → Prop} (h : RM x S s) (hok : okSp S) (hQ : ∀ t, RM x (cType S v).2 t → Fr (fun k => x ≤ k) s t → Q (cType S v).1 t) : wX10_type x v s Q := by
  unfold wX10_type
  refine thM h (fun s' h' hf => ?_)
  unfold cType at hQ
  refine sX10_in (n := 256) (by rfl) (by omega) (fun hx => ⟨fun z => absurd rfl z, fun _ => ?_⟩) (fun a hx => ⟨fun _ => ?_, fun z => absurd z (by decide)⟩)
  · rw [hx] at hQ; exact hQ s' h' hf
  · obtain ⟨ha, rfl⟩ := num_lt (by omega) hx
    rw [hx] at hQ
    dsimp only at hQ
    have e3 := h'.1.1
    have hl := hok.1
    by_cases c : S.1.length < 120
    · rw [if_pos c] at hQ
      have c2 : ¬ S.1.length = 120 := by omega
      have r1 : ∀ j w, (stI s' (x + 1) j w).1 x 3 = nI S.1.length := fun j w => by rw [rI_ne (by omega)]; exact e3
      have r2 : ∀ u w, (stI u x 3 w).1 x 3 = w := fun u w => rI_eq
      simp (disch := omega) only [e3, c2, r1, r2, lit_nI, nI_ltI, nI_leI, nI_eq, nI_clamp, vp_in_nI, forall_eq, true_and, and_true, false_and, and_false, true_implies, false_implies, implies_true, not_true, not_false_eq_true, nI_add, pk_mul, nI_sub, shl1, shr1, fa_or, fa_and, nI_m9, nI_m9s]
      have hf2 : Fr (fun k => x ≤ k) s' (stI (stI s' (x + 1) S.1.length (nI a)) x 3 (nI (S.1.length + 1))) := (Fr.rf.I (by omega)).I (by omega)
      refine hQ _ ?_ (hf.tr hf2)
      obtain ⟨a1, a2, a3, a4, a5, a6, a7, a8⟩ := h'
      have ne : ∀ c, 1 < c → (stI (stI s' (x + 1) S.1.length (nI a)) x 3 (nI (S.1.length + 1))).1 (x + c) = s'.1 (x + c) := fun c hc => by rw [rI_ne (by omega), rI_ne (by omega)]
      have nj : ∀ j, j ≠ 3 → (stI (stI s' (x + 1) S.1.length (nI a)) x 3 (nI (S.1.length + 1))).1 x j = s'.1 x j := fun j hj => by rw [rI_nj hj, rI_ne (by omega)]
      refine ⟨⟨?_, ?_⟩, a2.cg (ne 2 (by omega)) (ne 3 (by omega)) (ne 4 (by omega)) (ne 5 (by omega)), by rw [ne 7 (by omega)]; exact a3, a4.cg (nj 18 (by omega)) (ne 10 (by omega)), a5.cg (ne 8 (by omega)) (ne 9 (by omega)), a6.cg (nj 21 (by omega)) (ne 11 (by omega)) (ne 12 (by omega)), a7.cg (nj 26 (by omega)) (ne 13 (by omega)) (ne 15 (by omega)) (ne 16 (by omega)) (congrFun (ne 14 (by omega)) 0), a8⟩
      · show _ = nI (S.1 ++ [a]).length
        rw [rI_eq, List.length_append]; rfl
      · show rowAt _ 0 (S.1 ++ [a])
        rw [rI_ne (by omega)]
        refine a1.2.app (fun k hk => rI_nj (by omega)) ?_
        rw [Nat.zero_add, rI_eq]
    · rw [if_neg c] at hQ
      have c2 : S.1.length = 120 := by omega
      simp (disch := omega) only [e3, c2, lit_nI, nI_ltI, nI_leI, nI_eq, nI_clamp, vp_in_nI, forall_eq, true_and, and_true, false_and, and_false, true_implies, false_implies, implies_true, not_true, not_false_eq_true, nI_add, pk_mul, nI_sub, shl1, shr1, fa_or, fa_and, nI_m9, nI_m9s]
      exact hQ s' h' hf
theorem kX10_clear {Q : Int32 → St → Prop} (h : RM x S s) (hQ : ∀ t, RM x (cClear S).2 t → Fr (fun k => x ≤ k) s t → Q (cClear S).1 t) : wX10_clear x s Q := by
  unfold wX10_clear
  refine thM h (fun s' h' hf => ?_)
  intro t ht
  subst ht
  rw [h'.1.1]
  refine hQ _ ?_ (hf.I (Nat.le_refl _))
  obtain ⟨a1, a2, a3, a4, a5, a6, a7, a8⟩ := h'
  have ne : ∀ c, 0 < c → (stI s' x 3 (0 : Int32)).1 (x + c) = s'.1 (x + c) := fun c hc => by rw [rI_ne (by omega)]
  have nj : ∀ j, j ≠ 3 → (stI s' x 3 (0 : Int32)).1 x j = s'.1 x j := fun j hj => by rw [rI_nj hj]
  exact ⟨⟨rI_eq, rowAt.nil⟩, a2.cg (ne 2 (by omega)) (ne 3 (by omega)) (ne 4 (by omega)) (ne 5 (by omega)), by rw [ne 7 (by omega)]; exact a3, a4.cg (nj 18 (by omega)) (ne 10 (by omega)), a5.cg (ne 8 (by omega)) (ne 9 (by omega)), a6.cg (nj 21 (by omega)) (ne 11 (by omega)) (ne 12 (by omega)), a7.cg (nj 26 (by omega)) (ne 13 (by omega)) (ne 15 (by omega)) (ne 16 (by omega)) (congrFun (ne 14 (by omega)) 0), a8⟩
theorem kX10_count {v : Int32} {Q : Int32 → St → Prop} (h : RM x S s) (hQ : ∀ t, RM x S t → Fr (fun k => x ≤ k) s t → Q (cCount S v) t) : wX10_count x v s Q := by
  unfold wX10_count
  refine thM h (fun s' h' hf => ?_)
  have q := hQ s' h' hf
  unfold cCount at q
  refine sX10_in (n := 2) (by rfl) (by omega) (fun hx => ⟨fun _ => ?_, fun z => absurd rfl z⟩) (fun a hx => ⟨fun z => absurd z (by decide), fun _ => ?_⟩)
  · have n0 : v ≠ 0 := fun z => by rw [z] at hx; cases hx
    have n1 : v ≠ 1 := fun z => by rw [z] at hx; cases hx
    rw [if_neg n0, if_neg n1] at q
    have e6 : s'.1 (x + 7) (6 : Int32).toNatClampNeg = nI S.2.2.1.2.1.length := h'.2.2.1.2.1
    rw [e6, h'.2.2.2.2.2.1.1, h'.1.1]
    refine ⟨fun c2 => ⟨fun c3 => ⟨fun c4 => ?_, fun c4 => ?_⟩, fun c3 => ?_⟩, fun c2 => ⟨vp_in_nI (n := 6) (by omega) (by omega), ?_⟩⟩
    · rw [if_neg c2, if_neg c3, if_neg c4] at q; exact q
    · rw [if_neg c2, if_neg c3, if_pos c4] at q; exact q
    · rw [if_neg c2, if_pos c3] at q; exact q
    · rw [if_pos c2] at q; exact q
  · obtain ⟨ha, rfl⟩ := num_lt (by omega) hx
    refine ⟨vp_in_nI (by omega) (by omega), ?_⟩
    rw [nI_clamp (by omega)]
    rcases (show a = 0 ∨ a = 1 by omega) with rfl | rfl
    · rw [if_pos (show nI 0 = 0 from rfl)] at q
      rw [h'.2.1.1]; exact q
    · rw [if_neg (by decide), if_pos (show nI 1 = 1 from rfl)] at q
      rw [h'.2.1.2.1]; exact q
theorem kX10_trace {Q : Int64 → St → Prop} (h : RM x S s) (hQ : ∀ t, RM x S t → Fr (fun k => x ≤ k) s t → Q S.2.2.2.2.2.2 t) : wX10_trace x s Q := by
  unfold wX10_trace
  refine thM h (fun s' h' hf => ?_)
  rw [h'.2.2.2.2.2.2.2]
  exact hQ s' h' hf
/-- a place of a row of NOW -/
theorem rowM_place {f : Nat → Int32} {o k : Nat} {w : List Nat} (h : rowAt f o w) (hk : k < w.length) : f (o + k) = plI w k := by
  rw [plI_lt hk]; exact h k _ (getD_get hk)
theorem kX10_place {v y : Int32} {Q : Int32 → St → Prop} (h : RM x S s) (hok : okSp S) (hQ : ∀ t, RM x S t → Fr (fun k => x ≤ k) s t → Q (cPlace S v y) t) : wX10_place x v y s Q := by
  obtain ⟨o1, o2, o3, o4, o5, -⟩ := hok
  have hW := o4.W o3
  have h4 := hW.2.1
  unfold wX10_place
  refine thM h (fun s' h' hf => ?_)
  have q := hQ s' h' hf
  unfold cPlace at q
  obtain ⟨n1, n2, n3, n4, n5, n6⟩ := h'.2.2.1
  have go : (num y 5 = none → Q (-1) s') → (∀ k, num y 5 = some k → v = -1 → Q (plI S.2.2.1.2.2.1 k) s') → (∀ k m, num y 5 = some k → v ≠ -1 → num v S.2.2.1.2.1.length = some m → Q (plI (S.2.2.1.2.1.getD m []) k) s') → (v ≠ -1 → ∃ m, num v S.2.2.1.2.1.length = some m) → wX10_place_18 Q x v y s' := by
    intro g1 g2 g3 g4
    unfold wX10_place_18
    refine sX10_in (n := 5) (by rfl) (by omega) (fun hy => ⟨fun z => absurd rfl z, fun _ => g1 hy⟩) (fun k hy => ⟨fun _ => ⟨fun c => ?_, fun c => ?_⟩, fun z => absurd z (by decide)⟩)
    · obtain ⟨m, hm⟩ := g4 c
      have q3 := g3 k m hy c hm
      obtain ⟨hk, rfl⟩ := num_lt (by omega) hy
      obtain ⟨hml, rfl⟩ := num_lt (by omega) hm
      have hg := map_get hml
      obtain ⟨e1, e2⟩ := n3 m _ hg
      have hw5 := hW.2.2.1 _ (List.mem_of_getElem? hg)
      have e1' : s'.1 (x + 7) (7 + m) = nI (S.2.2.1.2.1.getD m []).length := (congrArg (s'.1 (x + 7)) (by omega)).trans e1
      by_cases c2 : (S.2.2.1.2.1.getD m []).length ≤ k
      · simp (disch := omega) only [e1', c2, lit_nI, nI_ltI, nI_leI, nI_eq, nI_clamp, vp_in_nI, forall_eq, true_and, and_true, false_and, and_false, true_implies, false_implies, implies_true, not_true, not_false_eq_true, nI_add, pk_mul, nI_sub, shl1, shr1, fa_or, fa_and, nI_m9, nI_m9s]
        unfold plI at q3
        rw [List.getElem?_eq_none c2] at q3
        exact q3
      · have := rowM_place e2 (show k < (S.2.2.1.2.1.getD m []).length by omega)
        have e3 : s'.1 (x + 7) (11 + 5 * m + k) = plI (S.2.2.1.2.1.getD m []) k := (congrArg (s'.1 (x + 7)) (by omega)).trans this
        simp (disch := omega) only [e1', c2, e3, lit_nI, nI_ltI, nI_leI, nI_eq, nI_clamp, vp_in_nI, forall_eq, true_and, and_true, false_and, and_false, true_implies, false_implies, implies_true, not_true, not_false_eq_true, nI_add, pk_mul, nI_sub, shl1, shr1, fa_or, fa_and, nI_m9, nI_m9s]
        exact q3
    · have q2 := g2 k hy c
      obtain ⟨hk, rfl⟩ := num_lt (by omega) hy
      have n5' : s'.1 (x + 7) 36 = nI S.2.2.1.2.2.1.length := n5
      have h5 := hW.2.2.2
      by_cases c2 : S.2.2.1.2.2.1.length ≤ k
      · simp (disch := omega) only [n5', c2, lit_nI, nI_ltI, nI_leI, nI_eq, nI_clamp, vp_in_nI, forall_eq, true_and, and_true, false_and, and_false, true_implies, false_implies, implies_true, not_true, not_false_eq_true, nI_add, pk_mul, nI_sub, shl1, shr1, fa_or, fa_and, nI_m9, nI_m9s]
        unfold plI at q2
        rw [List.getElem?_eq_none c2] at q2
        exact q2
      · have := rowM_place n4 (show k < S.2.2.1.2.2.1.length by omega)
        have e3 : s'.1 (x + 7) (31 + k) = plI S.2.2.1.2.2.1 k := (congrArg (s'.1 (x + 7)) (by omega)).trans this
        simp (disch := omega) only [n5', c2, e3, lit_nI, nI_ltI, nI_leI, nI_eq, nI_clamp, vp_in_nI, forall_eq, true_and, and_true, false_and, and_false, true_implies, false_implies, implies_true, not_true, not_false_eq_true, nI_add, pk_mul, nI_sub, shl1, shr1, fa_or, fa_and, nI_m9, nI_m9s]
        exact q2
  refine ⟨fun c => ?_, fun c => ?_⟩
  · refine go (fun hy => ?_) (fun k hy _ => ?_) (fun k m _ z => absurd c z) (fun z => absurd c z)
    · rw [hy] at q; exact q
    · rw [hy] at q; dsimp only at q; rw [if_pos c] at q; exact q
  · refine sX10_isMap h'.2.2.1 h4 (fun hm => ⟨fun _ => ?_, fun z => absurd rfl z⟩) (fun m hm => ⟨fun z => absurd z (by decide), fun _ => ?_⟩)
    · cases hk : num y 5 with
      | none => rw [hk] at q; exact q
      | some k => rw [hk] at q; dsimp only at q; rw [if_neg c, hm] at q; exact q
    · refine go (fun hy => ?_) (fun k _ z => absurd z c) (fun k m' hy _ hm' => ?_) (fun _ => ⟨m, hm⟩)
      · rw [hy] at q; exact q
      · rw [hy] at q; dsimp only at q; rw [if_neg c, hm'] at q; exact q
end MK
