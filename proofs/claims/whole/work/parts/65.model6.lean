/-! the reference: lanes of rows, lane, knot, rate, burns -/
section MK4
variable {x : Nat} {S : Sp} {s : St}
/-- the lanes of a row of NOW's numbers -/
theorem sX10_lanesOf {o : Nat} {la : Land} {w : List Nat} {Q : Int32 → St → Prop} (hL : LandM x la s) (h3 : okLand la) (hr : rowAt (s.1 (x + 7)) o w) (ho : o + w.length ≤ 38) (hw : isRow la.1 la.2 w) (hQ : Q (nI (bitsOf la.2 w)) s) : wX10_lanesOf x (nI o) (nI w.length) s Q := by
  have hw5 := hw.2.1
  have l6 := h3.2.2.1
  have p5 := h3.2.1
  have key : ∀ d k, k + d = w.length → wX10_lanesOf_5 x (nI o) (nI w.length) Q (d + 1) (nI (bitsP la.2 w k)) (nI k) s ∨ k = 0 := by
    intro d
    induction d with
    | zero =>
      intro k hd
      left
      unfold wX10_lanesOf_5
      have e : w.length ≤ k := by omega
      have ek : k = w.length := by omega
      simp (disch := omega) only [e, lit_nI, nI_ltI, nI_leI, nI_eq, nI_clamp, vp_in_nI, forall_eq, true_and, and_true, false_and, and_false, true_implies, false_implies, implies_true, not_true, not_false_eq_true, nI_add, pk_mul, nI_sub, shl1, shr1, fa_or, fa_and, nI_m9, nI_m9s]
      rw [ek]; exact hQ
    | succ d ih =>
      intro k hd
      by_cases hk0 : k = 0
      · exact Or.inr hk0
      left
      obtain ⟨j, rfl⟩ : ∃ j, k = j + 1 := ⟨k - 1, by omega⟩
      have ih2 := ih (j + 2) (by omega)
      have ih3 := ih2.resolve_right (by omega)
      unfold wX10_lanesOf_5
      have e : ¬ w.length ≤ j + 1 := by omega
      have e2 : o + (j + 1) - 1 = o + j := by omega
      have v1 := hr j (w.getD j 0) (getD_get (by omega))
      have v2 := hr (j + 1) (w.getD (j + 1) 0) (getD_get (by omega))
      have el : s.1 (x + 2) 1 = nI la.2.length := hL.2.1
      simp (disch := omega) only [e, e2, v1, v2, el, lit_nI, nI_ltI, nI_leI, nI_eq, nI_clamp, vp_in_nI, forall_eq, true_and, and_true, false_and, and_false, true_implies, false_implies, implies_true, not_true, not_false_eq_true, nI_add, pk_mul, nI_sub, shl1, shr1, fa_or, fa_and, nI_m9, nI_m9s]
      have b1 := row_lt hw.1 (show j < w.length by omega)
      have b2 := row_lt hw.1 (show j + 1 < w.length by omega)
      refine sX10_laneOf (o := 0) hL.lanes (by omega) (lanes100 h3) (by omega) (by omega) ?_
      have hs := hw.2.2.1 j (by omega)
      unfold bitsP lb at ih3
      unfold lnI
      cases hz : lnB la.2 (w.getD j 0) (w.getD (j + 1) 0) with
      | none => rw [hz] at hs; cases hs
      | some l =>
        rw [hz] at ih3
        have hl := lnB_lt hz
        simp (disch := omega) only [lit_nI, nI_ltI, nI_leI, nI_eq, nI_clamp, vp_in_nI, forall_eq, true_and, and_true, false_and, and_false, true_implies, false_implies, implies_true, not_true, not_false_eq_true, nI_add, pk_mul, nI_sub, shl1, shr1, fa_or, fa_and, nI_m9, nI_m9s]
        exact ih3
  unfold wX10_lanesOf
  by_cases hz : w.length = 0
  · have hw0 : w = [] := List.length_eq_zero_iff.mp hz
    subst hw0
    refine ⟨1, ?_⟩
    unfold wX10_lanesOf_5
    simp (disch := omega) only [List.length_nil, Nat.zero_le, lit_nI, nI_ltI, nI_leI, nI_eq, nI_clamp, vp_in_nI, forall_eq, true_and, and_true, false_and, and_false, true_implies, false_implies, implies_true, not_true, not_false_eq_true, nI_add, pk_mul, nI_sub, shl1, shr1, fa_or, fa_and, nI_m9, nI_m9s]
    exact hQ
  · have := (key (w.length - 1) 1 (by omega)).resolve_right (by omega)
    exact ⟨_, this⟩
theorem sX10_mapLanes {la : Land} {N : Nw} {m : Nat} {Q : Int32 → St → Prop} (hL : LandM x la s) (h3 : okLand la) (hN : NowM (s.1 (x + 7)) 0 N) (hok : okNw la N) (hm : m < N.2.1.length) (hQ : Q (nI (bitsOf la.2 (N.2.1.getD m []))) s) : wX10_mapLanes x (nI m) s Q := by
  have h4 := hok.2.2.1
  have hg := map_get hm
  have hw := hok.2.2.2.1 _ (List.mem_of_getElem? hg)
  obtain ⟨e1, e2⟩ := hN.2.2.1 m _ hg
  have e1' : s.1 (x + 7) (7 + m) = nI (N.2.1.getD m []).length := (congrArg (s.1 (x + 7)) (by omega)).trans e1
  unfold wX10_mapLanes
  have h5 := hw.1.2.1
  simp (disch := omega) only [e1', lit_nI, nI_ltI, nI_leI, nI_eq, nI_clamp, vp_in_nI, forall_eq, true_and, and_true, false_and, and_false, true_implies, false_implies, implies_true, not_true, not_false_eq_true, nI_add, pk_mul, nI_sub, shl1, shr1, fa_or, fa_and, nI_m9, nI_m9s]
  refine sX10_lanesOf hL h3 ?_ (by omega) hw.1 hQ
  rw [Nat.zero_add] at e2
  exact e2
theorem sX10_mapsBy {l : Nat} {Q : Int32 → St → Prop} (hL : LandM x S.2.1 s) (hN : NowM (s.1 (x + 7)) 0 S.2.2.1) (o3 : okLand S.2.1) (o4 : okNw S.2.1 S.2.2.1) (hl : l < 6) (hQ : Q (nI (mapsBy S l)) s) : wX10_mapsBy x (nI l) s Q := by
  have h4 := o4.2.2.1
  have e3 : s.1 (x + 7) 6 = nI S.2.2.1.2.1.length := hN.2.1
  have key : ∀ d m, m + d = S.2.2.1.2.1.length → wX10_mapsBy_4 x (nI l) Q (d + 1) (nI (byP S.2.1 S.2.2.1.2.1 l m)) (nI m) s := by
    intro d
    induction d with
    | zero =>
      intro m hm
      unfold wX10_mapsBy_4
      have e : S.2.2.1.2.1.length ≤ m := by omega
      have em : m = S.2.2.1.2.1.length := by omega
      simp (disch := omega) only [e3, e, lit_nI, nI_ltI, nI_leI, nI_eq, nI_clamp, vp_in_nI, forall_eq, true_and, and_true, false_and, and_false, true_implies, false_implies, implies_true, not_true, not_false_eq_true, nI_add, pk_mul, nI_sub, shl1, shr1, fa_or, fa_and, nI_m9, nI_m9s]
      rw [em]; exact hQ
    | succ d ih =>
      intro m hm
      unfold wX10_mapsBy_4
      have e : ¬ S.2.2.1.2.1.length ≤ m := by omega
      simp (disch := omega) only [e3, e, lit_nI, nI_ltI, nI_leI, nI_eq, nI_clamp, vp_in_nI, forall_eq, true_and, and_true, false_and, and_false, true_implies, false_implies, implies_true, not_true, not_false_eq_true, nI_add, pk_mul, nI_sub, shl1, shr1, fa_or, fa_and, nI_m9, nI_m9s]
      refine sX10_mapLanes hL o3 hN o4 (by omega) ?_
      have ih2 := ih (m + 1) (by omega)
      unfold byP at ih2
      have hb2 : bitsOf S.2.1.2 (S.2.2.1.2.1.getD m []) < 64 := bitsP_lt o3.2.2.1 _ _
      by_cases ht : (bitsOf S.2.1.2 (S.2.2.1.2.1.getD m [])).testBit l
      · rw [if_pos ht] at ih2
        simp (disch := omega) only [ht, if_true, lit_nI, nI_ltI, nI_leI, nI_eq, nI_clamp, vp_in_nI, forall_eq, true_and, and_true, false_and, and_false, true_implies, false_implies, implies_true, not_true, not_false_eq_true, nI_add, pk_mul, nI_sub, shl1, shr1, fa_or, fa_and, nI_m9, nI_m9s]
        exact ih2
      · rw [if_neg ht, Nat.add_zero] at ih2
        simp (disch := omega) only [ht, Bool.false_eq_true, if_false, Nat.add_zero, lit_nI, nI_ltI, nI_leI, nI_eq, nI_clamp, vp_in_nI, forall_eq, true_and, and_true, false_and, and_false, true_implies, false_implies, implies_true, not_true, not_false_eq_true, nI_add, pk_mul, nI_sub, shl1, shr1, fa_or, fa_and, nI_m9, nI_m9s]
        exact ih2
  unfold wX10_mapsBy
  exact ⟨_, key S.2.2.1.2.1.length 0 (by omega)⟩
theorem NowM.len {l : Nat} {N : Nw} (h : NowM (s.1 (x + 7)) 0 N) (hl : l < N.1.length) : s.1 (x + 7) l = nI (N.1.getD l 0) := by
  have := h.1 l _ (getD_get hl)
  rw [Nat.zero_add] at this
  exact this
theorem kX10_lane {v y : Int32} {Q : Int32 → St → Prop} (h : RM x S s) (hok : okSp S) (hQ : ∀ t, RM x S t → Fr (fun k => x ≤ k) s t → Q (cLane S v y) t) : wX10_lane x v y s Q := by
  obtain ⟨o1, o2, o3, o4, -⟩ := hok
  have l6 := o3.2.2.1
  unfold wX10_lane
  refine thM h (fun s' h' hf => ?_)
  have q := hQ s' h' hf
  unfold cLane at q
  refine sX10_isLane h'.2.1 l6 (fun hx => ⟨fun _ => ?_, fun z => absurd rfl z⟩) (fun l hx => ⟨fun z => absurd z (by decide), fun _ => ?_⟩)
  · rw [hx] at q; exact q
  · obtain ⟨hl, rfl⟩ := num_lt (by omega) hx
    rw [hx] at q
    dsimp only at q
    have hc := h'.2.1.2.2 l _ _ _ (lane_get hl)
    have ev := h'.2.2.1.len (show l < S.2.2.1.1.length by rw [o4.1]; exact hl)
    have hc1 : s'.1 (x + 3) l = nI (laneAt S.2.1 l).1 := hc.1
    have hc2 : s'.1 (x + 4) l = nI (laneAt S.2.1 l).2.1 := hc.2.1
    refine sX10_in (n := 5) (by rfl) (by omega) (fun hy => ⟨fun z => absurd rfl z, fun _ => ?_⟩) (fun i hy => ⟨fun _ => ?_, fun z => absurd z (by decide)⟩)
    · have n0 : y ≠ 0 := fun z => by rw [z] at hy; cases hy
      have n1 : y ≠ 1 := fun z => by rw [z] at hy; cases hy
      have n2 : y ≠ 2 := fun z => by rw [z] at hy; cases hy
      have n3 : y ≠ 3 := fun z => by rw [z] at hy; cases hy
      have n4 : y ≠ 4 := fun z => by rw [z] at hy; cases hy
      rw [if_neg n0, if_neg n1, if_neg n2, if_neg n3, if_neg n4] at q
      exact q
    · have vi : vp_in (nI l) 12 := vp_in_nI (by omega) (by omega)
      have vz : (0 : Int32) + nI l = nI l := by rw [show (0 : Int32) = nI 0 from rfl, nI_add, Nat.zero_add]
      rw [vz, nI_clamp (by omega), hc1, hc2, hc.2.2, ev]
      refine ⟨fun c0 => ⟨fun c1 => ⟨fun c2 => ⟨fun c3 => ?_, fun c3 => ⟨vi, ?_⟩⟩, fun c2 => ⟨vp_in_nI (by omega) (by omega), ?_⟩⟩, fun c1 => ⟨vi, ?_⟩⟩, fun c0 => ⟨vi, ?_⟩⟩
      · have c4 : y = 4 := by
          obtain ⟨hi, rfl⟩ := num_lt (by omega) hy
          rcases (show i = 0 ∨ i = 1 ∨ i = 2 ∨ i = 3 ∨ i = 4 by omega) with rfl | rfl | rfl | rfl | rfl
          · exact absurd rfl c0
          · exact absurd rfl c1
          · exact absurd rfl c2
          · exact absurd rfl c3
          · rfl
        rw [if_neg c0, if_neg c1, if_neg c2, if_neg c3, if_pos c4] at q
        exact sX10_mapsBy h'.2.1 h'.2.2.1 o3 o4 (by omega) q
      · rw [if_neg c0, if_neg c1, if_neg c2, if_pos c3] at q; exact q
      · rw [if_neg c0, if_neg c1, if_pos c2] at q; exact q
      · rw [if_neg c0, if_pos c1] at q; exact q
      · rw [if_pos c0] at q; exact q
theorem kX10_knot {v : Int32} {Q : Int32 → St → Prop} (h : RM x S s) (hok : okSp S) (hQ : ∀ t, RM x S t → Fr (fun k => x ≤ k) s t → Q (cKnot S v) t) : wX10_knot x v s Q := by
  obtain ⟨o1, o2, o3, o4, -⟩ := hok
  have l6 := o3.2.2.1
  have p5 := o3.2.1
  unfold wX10_knot
  refine thM h (fun s' h' hf => ?_)
  have q := hQ s' h' hf
  unfold cKnot at q
  refine sX10_isPlace h'.2.1 p5 (fun hx => ⟨fun z => absurd rfl z, fun _ => ?_⟩) (fun p hx => ⟨fun _ => ?_, fun z => absurd z (by decide)⟩)
  · rw [hx] at q; exact q
  · obtain ⟨hp, rfl⟩ := num_lt (by omega) hx
    rw [hx] at q
    dsimp only at q
    have e1 : s'.1 (x + 2) 1 = nI S.2.1.2.length := h'.2.1.2.1
    have key : ∀ d l, l + d = S.2.1.2.length → wX10_knot_19 x (nI p) Q (d + 1) (nI (knP S p l)) (nI l) s' := by
      intro d
      induction d with
      | zero =>
        intro l hl
        unfold wX10_knot_19
        have e : S.2.1.2.length ≤ l := by omega
        have el : l = S.2.1.2.length := by omega
        simp (disch := omega) only [e1, e, lit_nI, nI_ltI, nI_leI, nI_eq, nI_clamp, vp_in_nI, forall_eq, true_and, and_true, false_and, and_false, true_implies, false_implies, implies_true, not_true, not_false_eq_true, nI_add, pk_mul, nI_sub, shl1, shr1, fa_or, fa_and, nI_m9, nI_m9s]
        rw [el]; exact q
      | succ d ih =>
        intro l hl
        have hl2 : l < S.2.1.2.length := by omega
        have hc := h'.2.1.2.2 l _ _ _ (lane_get hl2)
        have ev := h'.2.2.1.len (show l < S.2.2.1.1.length by rw [o4.1]; exact hl2)
        have ok := o3.2.2.2.1 l _ _ _ (lane_get hl2)
        have ih2 := ih (l + 1) (by omega)
        unfold knP at ih2
        unfold wX10_knot_19 wX10_knot_50 wX10_knot_69
        have e : ¬ S.2.1.2.length ≤ l := by omega
        have z0 : 0 + l = l := Nat.zero_add l
        have hc1 : s'.1 (x + 3) l = nI (laneAt S.2.1 l).1 := hc.1
        have hc2 : s'.1 (x + 4) l = nI (laneAt S.2.1 l).2.1 := hc.2.1
        have hc3 := hc.2.2
        have ok1 : (laneAt S.2.1 l).1 < S.2.1.1 := ok.1
        have ok2 : (laneAt S.2.1 l).2.1 < S.2.1.1 := ok.2.1
        by_cases c1 : (laneAt S.2.1 l).1 = p
        · rw [if_pos (Or.inl c1)] at ih2
          simp (disch := omega) only [e1, e, z0, hc1, hc2, hc3, ev, c1, lit_nI, nI_ltI, nI_leI, nI_eq, nI_clamp, vp_in_nI, forall_eq, true_and, and_true, false_and, and_false, true_implies, false_implies, implies_true, not_true, not_false_eq_true, nI_add, pk_mul, nI_sub, shl1, shr1, fa_or, fa_and, nI_m9, nI_m9s]
          exact ih2
        · by_cases c2 : (laneAt S.2.1 l).2.1 = p
          · rw [if_pos (Or.inr c2)] at ih2
            simp (disch := omega) only [e1, e, z0, hc1, hc2, hc3, ev, c1, c2, lit_nI, nI_ltI, nI_leI, nI_eq, nI_clamp, vp_in_nI, forall_eq, true_and, and_true, false_and, and_false, true_implies, false_implies, implies_true, not_true, not_false_eq_true, nI_add, pk_mul, nI_sub, shl1, shr1, fa_or, fa_and, nI_m9, nI_m9s]
            exact ih2
          · rw [if_neg (by omega), Nat.add_zero] at ih2
            simp (disch := omega) only [e1, e, z0, hc1, hc2, hc3, ev, c1, c2, Nat.add_zero, lit_nI, nI_ltI, nI_leI, nI_eq, nI_clamp, vp_in_nI, forall_eq, true_and, and_true, false_and, and_false, true_implies, false_implies, implies_true, not_true, not_false_eq_true, nI_add, pk_mul, nI_sub, shl1, shr1, fa_or, fa_and, nI_m9, nI_m9s]
            exact ih2
    exact ⟨_, key S.2.1.2.length 0 (by omega)⟩
/-- the reference's trace is a long: the ints stay -/
theorem RM.L (h : RM x S s) (v : Int64) : RM x (setR S v) (stL s x v) := by
  obtain ⟨a1, a2, a3, a4, a5, a6, a7, a8⟩ := h
  exact ⟨a1, a2, a3, a4, a5, a6, a7, (show va_up s.2.1 x v x = v from up_eq)⟩
/-- cells of the class and its long stay -/
def FrT (x : Nat) (s t : St) : Prop := (∀ k, k < x → t.1 k = s.1 k) ∧ (∀ k, k ≠ x → t.2.1 k = s.2.1 k) ∧ t.2.2 = s.2.2
theorem FrT.of {t : St} (h : Fr (fun k => x ≤ k) s t) : FrT x s t := ⟨fun k hk => h.1 k (by omega), fun k _ => by rw [h.2], by rw [h.2]⟩
theorem kX10_rate {v y : Int32} {Q : Int32 → St → Prop} (h : RM x S s) (hok : okSp S) (hQ : ∀ t, RM x (cRate S v y).2 t → FrT x s t → Q (cRate S v y).1 t) : wX10_rate x v y s Q := by
  obtain ⟨o1, o2, o3, o4, -⟩ := hok
  have l6 := o3.2.2.1
  unfold cRate at hQ
  unfold wX10_rate
  refine thM h (fun s' h' hf => ?_)
  have bad : (num v 6 = none ∨ num y S.2.1.2.length = none) → Q (-1000000) s' := by
    intro hb
    cases hy : num y S.2.1.2.length with
    | none => rw [hy] at hQ; exact hQ s' h' (.of hf)
    | some l =>
      rcases hb with hb | hb
      · rw [hy, hb] at hQ; exact hQ s' h' (.of hf)
      · rw [hy] at hb; cases hb
  refine sX10_in (n := 6) (by rfl) (by omega) (fun hx => ⟨fun _ => bad (Or.inl hx), fun z => absurd rfl z⟩) (fun k hx => ⟨fun z => absurd z (by decide), fun _ => ?_⟩)
  refine sX10_isLane h'.2.1 l6 (fun hy => ⟨fun z => absurd rfl z, fun _ => bad (Or.inr hy)⟩) (fun l hy => ⟨fun _ => ?_, fun z => absurd z (by decide)⟩)
  obtain ⟨hl, rfl⟩ := num_lt (by omega) hy
  rw [hy, hx] at hQ
  dsimp only at hQ
  have hc := (h'.2.1.2.2 l _ _ _ (lane_get hl)).2.2
  have ev := h'.2.2.1.len (show l < S.2.2.1.1.length by rw [o4.1]; exact hl)
  have vz : (0 : Int32) + nI l = nI l := by rw [show (0 : Int32) = nI 0 from rfl, nI_add, Nat.zero_add]
  rw [vz, nI_clamp (by omega), ev, hc]
  refine ⟨vp_in_nI (by omega) (by omega), vp_in_nI (by omega) (by omega), ?_⟩
  refine sX10_mapsBy h'.2.1 h'.2.2.1 o3 o4 (by omega) ?_
  have tr : s'.2.1 x = S.2.2.2.2.2.2 := h'.2.2.2.2.2.2.2
  have e37 : ∀ w, (stL s' x w).1 (x + 7) (37 : Int32).toNatClampNeg = nI S.2.2.1.2.2.2 := fun w => h'.2.2.1.2.2.2.2.2
  rw [tr]
  have fin : ∀ r a, r = rtAns S k l → a = rtAdd k → Q r (stL s' x (S.2.2.2.2.2.2 + a)) := by
    intro r a h1 h2
    rw [h1, h2]
    refine hQ _ (h'.L _) ⟨fun j hj => hf.1 j (by omega), fun j hj => ?_, ?_⟩
    · show va_up s'.2.1 x _ j = _
      rw [up_ne hj, hf.2]
    · show s'.2.2 = _
      rw [hf.2]
  obtain ⟨hk, rfl⟩ := num_lt (by omega) hx
  rcases (show k = 0 ∨ k = 1 ∨ k = 2 ∨ k = 3 ∨ k = 4 ∨ k = 5 by omega) with rfl | rfl | rfl | rfl | rfl | rfl
  · refine ⟨fun z => absurd rfl z, fun _ => ?_⟩
    unfold wX10_rate_113
    intro t ht
    subst ht
    exact ⟨fun z => absurd rfl z, fun _ => fin _ _ rfl rfl⟩
  · refine ⟨fun _ => ⟨fun z => absurd rfl z, fun _ => ?_⟩, fun z => absurd z (by decide)⟩
    unfold wX10_rate_113
    intro t ht
    subst ht
    exact ⟨fun _ => ⟨fun z => absurd rfl z, fun _ => fin _ _ rfl rfl⟩, fun z => absurd z (by decide)⟩
  · refine ⟨fun _ => ⟨fun _ => ⟨fun z => absurd rfl z, fun _ => ?_⟩, fun z => absurd z (by decide)⟩, fun z => absurd z (by decide)⟩
    unfold wX10_rate_113
    intro t ht
    subst ht
    exact ⟨fun _ => ⟨fun _ => ⟨fun z => absurd rfl z, fun _ => fin _ _ rfl rfl⟩, fun z => absurd z (by decide)⟩, fun z => absurd z (by decide)⟩
  · refine ⟨fun _ => ⟨fun _ => ⟨fun _ => ⟨fun z => absurd rfl z, fun _ => ?_⟩, fun z => absurd z (by decide)⟩, fun z => absurd z (by decide)⟩, fun z => absurd z (by decide)⟩
    unfold wX10_rate_113
    intro t ht
    subst ht
    exact ⟨fun _ => ⟨fun _ => ⟨fun _ => ⟨fun z => absurd rfl z, fun _ => fin _ _ rfl rfl⟩, fun z => absurd z (by decide)⟩, fun z => absurd z (by decide)⟩, fun z => absurd z (by decide)⟩
  · refine ⟨fun _ => ⟨fun _ => ⟨fun _ => ⟨fun _ => ⟨fun z => absurd rfl z, fun _ => ?_⟩, fun z => absurd z (by decide)⟩, fun z => absurd z (by decide)⟩, fun z => absurd z (by decide)⟩, fun z => absurd z (by decide)⟩
    unfold wX10_rate_113
    intro t ht
    subst ht
    exact ⟨fun _ => ⟨fun _ => ⟨fun _ => ⟨fun _ => ⟨fun z => absurd rfl z, fun _ => fin _ _ rfl rfl⟩, fun z => absurd z (by decide)⟩, fun z => absurd z (by decide)⟩, fun z => absurd z (by decide)⟩, fun z => absurd z (by decide)⟩
  · refine ⟨fun _ => ⟨fun _ => ⟨fun _ => ⟨fun _ => ⟨fun _ => ?_, fun z => absurd z (by decide)⟩, fun z => absurd z (by decide)⟩, fun z => absurd z (by decide)⟩, fun z => absurd z (by decide)⟩, fun z => absurd z (by decide)⟩
    unfold wX10_rate_113
    intro t ht
    subst ht
    refine ⟨fun _ => ⟨fun _ => ⟨fun _ => ⟨fun _ => ⟨fun _ => ⟨vp_in_nI (n := 37) (by omega) (by omega), ?_⟩, fun z => absurd z (by decide)⟩, fun z => absurd z (by decide)⟩, fun z => absurd z (by decide)⟩, fun z => absurd z (by decide)⟩, fun z => absurd z (by decide)⟩
    rw [e37]
    exact fin _ _ rfl rfl
end MK4
