/-! the class's search: begin, leastCost, findFirst -/
theorem bdsW_succ (la : Land) (w v : Nat) : bdsW la w (v + 1) = bdsW la w v ++ (if v ≠ w ∧ endK ((waysL la).getD v []) = endK ((waysL la).getD w []) then [(andn (wB la w) (wB la v), andn (wB la v) (wB la w))] else []) := rfl
theorem bds_succ (la : Land) (h w : Nat) : bds la h (w + 1) = bds la h w ++ (if h.testBit w then bdsW la w (waysL la).length else []) := rfl
theorem bdsW_le (la : Land) (w : Nat) : ∀ d v, (bdsW la w v).length ≤ (bdsW la w (v + d)).length
  | 0, v => Nat.le_refl _
  | d + 1, v => by
    have := bdsW_le la w d v
    rw [show v + (d + 1) = (v + d) + 1 from rfl, bdsW_succ, List.length_append]
    omega
theorem bds_le (la : Land) (h : Nat) : ∀ d v, (bds la h v).length ≤ (bds la h (v + d)).length
  | 0, v => Nat.le_refl _
  | d + 1, v => by
    have := bds_le la h d v
    have e : bds la h (v + (d + 1)) = bds la h (v + d) ++ (if h.testBit (v + d) then bdsW la (v + d) (waysL la).length else []) := rfl
    rw [e, List.length_append]
    omega
section BEG
variable {la : Land} {L0 : List Nat} {s : St}
theorem SrI.fr0 {ls : List Lane} {B : List (Nat × Nat)} {u : St} (hI : SrI ls L0 B [] s) (n : Nat) (b : Nat × Nat) (hn : n = B.length) (h0 : u.1 72 0 = s.1 72 0) (h1 : u.1 72 1 = nI (n + 1)) (h73 : ∀ j, u.1 73 j = if j = n then nI b.1 else s.1 73 j) (h74 : ∀ j, u.1 74 j = if j = n then nI b.2 else s.1 74 j) (h76 : ∀ j, u.1 76 j = if j = n then zI (exP b [] 0) else s.1 76 j) (h83 : u.1 83 = s.1 83) (h84 : u.1 84 = s.1 84) : SrI ls L0 (B ++ [b]) [] u := by
  obtain ⟨a0, a1, a2, a3, a4, a5⟩ := hI
  refine ⟨by rw [h0]; exact a0, by rw [h1, hn, List.length_append]; rfl, fun i c hc => ?_, by rw [h83]; exact a3, by rw [h84]; exact a4, fun k p hp => by cases hp⟩
  by_cases ci : i < B.length
  · rw [List.getElem?_append_left ci] at hc
    obtain ⟨b1, b2, b3⟩ := a2 i c hc
    refine ⟨by rw [h73, if_neg (by omega)]; exact b1, by rw [h74, if_neg (by omega)]; exact b2, fun j hj => ?_⟩
    have : j = 0 := by simpa using hj
    subst this
    rw [Nat.add_zero, h76, if_neg (by omega)]
    exact b3 0 (Nat.le_refl _)
  · have hl := (List.getElem?_eq_some_iff.mp hc).1
    rw [List.length_append] at hl
    simp at hl
    have e : i = B.length := by omega
    subst e
    rw [List.getElem?_append_right (Nat.le_refl _)] at hc
    simp at hc
    subst hc
    refine ⟨by rw [h73, if_pos hn.symm], by rw [h74, if_pos hn.symm], fun j hj => ?_⟩
    have : j = 0 := by simpa using hj
    subst this
    rw [Nat.add_zero, h76, if_pos hn.symm]
theorem sX4_bindWay {B : List (Nat × Nat)} {w : Nat} {Q : St → Prop} (o3 : okLand la) (hW : WaysC la s) (h33 : (waysL la).length ≤ 33) (hw : w < (waysL la).length) (hI : SrI la.2 L0 B [] s) (hlen : B.length + (bdsW la w (waysL la).length).length ≤ 20) (hQ : ∀ u, Frs s u → SrI la.2 L0 (B ++ bdsW la w (waysL la).length) [] u → Q u) : wX4_bindWay 72 21 (nI w) s Q := by
  have key : ∀ d v u, v + d = (waysL la).length → Frs s u → SrI la.2 L0 (B ++ bdsW la w v) [] u → wX4_bindWay_2 72 21 (nI w) Q (d + 1) (nI v) u := by
    intro d
    induction d with
    | zero =>
      intro v u hv hfu hIu
      unfold wX4_bindWay_2
      have ev : v = (waysL la).length := by omega
      subst ev
      have e0 : u.1 21 0 = nI (waysL la).length := by rw [hfu.1 21 (by omega)]; exact hW.1
      simp (disch := omega) only [e0, Nat.le_refl, lit_nI, nI_ltI, nI_leI, nI_eq, nI_clamp, vp_in_nI, forall_eq, true_and, and_true, false_and, and_false, true_implies, false_implies, implies_true, not_true, not_false_eq_true, nI_add, pk_mul, nI_sub, shl1, shr1, fa_or, fa_and, nI_m9, nI_m9s]
      exact hQ u hfu hIu
    | succ d ih =>
      intro v u hv hfu hIu
      have hv2 : v < (waysL la).length := by omega
      have hWu : WaysC la u := hW.fr hfu (by intro k; omega)
      obtain ⟨-, -, m3, m4⟩ := hWu.2 v _ (way_get hv2)
      obtain ⟨-, -, n3, n4⟩ := hWu.2 w _ (way_get hw)
      obtain ⟨ek, -, -⟩ := ways_end o3.2.1 (way_mem hv2)
      obtain ⟨ek2, -, -⟩ := ways_end o3.2.1 (way_mem hw)
      have m4' : u.1 25 v = nI (wB la v) := m4
      have n4' : u.1 25 w = nI (wB la w) := n4
      have e : ¬ (waysL la).length ≤ v := by omega
      have hle := bdsW_le la w ((waysL la).length - v) v
      rw [show v + ((waysL la).length - v) = (waysL la).length by omega] at hle
      have hle1 := bdsW_le la w ((waysL la).length - (v + 1)) (v + 1)
      rw [show v + 1 + ((waysL la).length - (v + 1)) = (waysL la).length by omega] at hle1
      have ih2 := ih (v + 1)
      rw [bdsW_succ] at ih2 hle1
      unfold wX4_bindWay_2 wX4_bindWay_140
      by_cases cw : v = w
      · rw [if_neg (fun z => z.1 cw), List.append_nil] at ih2
        have cw' := eq_true cw
        simp (disch := omega) only [hWu.1, e, cw', lit_nI, nI_ltI, nI_leI, nI_eq, nI_clamp, vp_in_nI, forall_eq, true_and, and_true, false_and, and_false, true_implies, false_implies, implies_true, not_true, not_false_eq_true, nI_add, pk_mul, nI_sub, shl1, shr1, fa_or, fa_and, nI_m9, nI_m9s]
        exact cw ▸ ih2 u (by omega) hfu hIu
      · by_cases ce : endK ((waysL la).getD v []) = endK ((waysL la).getD w [])
        · rw [if_pos ⟨cw, ce⟩] at ih2 hle1
          rw [List.length_append] at hle1
          simp only [List.length_cons, List.length_nil] at hle1
          have hbl : u.1 72 1 = nI (B ++ bdsW la w v).length := hIu.2.1
          have hn20 : (B ++ bdsW la w v).length < 20 := by rw [List.length_append]; omega
          generalize hB' : B ++ bdsW la w v = B' at hIu hbl hn20
          have c20 : ¬ 20 ≤ B'.length := by omega
          have cw' := eq_false cw
          have ce' := eq_true ce
          have hm := andn_lt (b := wB la v) (wB_lt o3 w)
          have hr := andn_lt (b := wB la w) (wB_lt o3 v)
          have q1 := andnI (wB_lt o3 w) (wB_lt o3 v)
          have q2 := andnI (wB_lt o3 v) (wB_lt o3 w)
          have r1 : ∀ x, (stI u 73 B'.length x).1 72 1 = nI B'.length := fun x => by rw [rI_ne (by omega)]; exact hbl
          have r2 : ∀ x y, (stI (stI u 73 B'.length x) 74 B'.length y).1 72 1 = nI B'.length := fun x y => by rw [rI_ne (by omega)]; exact r1 x
          have r3 : ∀ x y, (stI (stI u 73 B'.length x) 74 B'.length y).1 73 B'.length = x := fun x y => by rw [rI_ne (by omega), rI_eq]
          have r4 : ∀ x y, (stI (stI u 73 B'.length x) 74 B'.length y).1 74 B'.length = y := fun x y => by rw [rI_eq]
          refine ⟨fun z => absurd z (by rw [hWu.1, nI_leI (by omega) (by omega)]; exact e), fun _ => ⟨fun z => absurd (nI_inj (by omega) (by omega) z) cw, fun _ => ⟨vp_in_nI (by omega) (by omega), vp_in_nI (by omega) (by omega), ?_⟩⟩⟩
          rw [nI_clamp (show v < 2 ^ 31 by omega), nI_clamp (show w < 2 ^ 31 by omega)]
          refine ⟨fun z => absurd (show u.1 (21 + 3) v = u.1 (21 + 3) w by rw [show u.1 (21 + 3) v = nI (endK ((waysL la).getD v [])) from m3, show u.1 (21 + 3) w = nI (endK ((waysL la).getD w [])) from n3, ce]) z, fun _ => ?_⟩
          rw [hbl, show u.1 (21 + 4) v = nI (wB la v) from m4, show u.1 (21 + 4) w = nI (wB la w) from n4, q1, q2, nI_clamp (show B'.length < 2 ^ 31 by omega)]
          refine ⟨fun z => absurd ((nI_leI (a := 20) (by omega) (by omega)).mp z) c20, fun _ => ⟨vp_in_nI (by omega) (by omega), vp_in_nI (by omega) (by omega), vp_in_nI (by omega) (by omega), ?_⟩⟩
          intro t1 ht1
          have k1 : t1.1 72 1 = nI B'.length := by rw [ht1]; exact r1 _
          rw [k1, nI_clamp (show B'.length < 2 ^ 31 by omega)]
          refine ⟨vp_in_nI (by omega) (by omega), ?_⟩
          intro t2 ht2
          have k2 : t2.1 72 1 = nI B'.length := by rw [ht2, ht1]; exact r2 _ _
          have k3 : t2.1 73 B'.length = nI (andn (wB la w) (wB la v)) := by rw [ht2, ht1]; exact r3 _ _
          have k4 : t2.1 74 B'.length = nI (andn (wB la v) (wB la w)) := by rw [ht2, ht1]; exact r4 _ _
          rw [k2, nI_clamp (show B'.length < 2 ^ 31 by omega)]
          refine ⟨vp_in_nI (n := 0) (by omega) (by omega), vp_in_nI (by omega) (by omega), ?_⟩
          rw [show t2.1 (72 + 1) B'.length = _ from k3]
          refine sJ6 hm ?_
          rw [k2, nI_clamp (show B'.length < 2 ^ 31 by omega)]
          refine ⟨vp_in_nI (by omega) (by omega), ?_⟩
          rw [show t2.1 (72 + 2) B'.length = _ from k4]
          refine sJ6 hr ⟨vp_in_nI (by omega) (by omega), ?_⟩
          intro t3 ht3
          rw [show (1 : Int32) * nI (pc (andn (wB la w) (wB la v))) - 5 * nI (pc (andn (wB la v) (wB la w))) = zI (exP (andn (wB la w) (wB la v), andn (wB la v) (wB la w)) [] 0) by
            unfold exP
            rw [show (1 : Int32) = zI 1 from rfl, show (5 : Int32) = zI 5 from rfl, nI_z, nI_z, zI_mul, zI_mul, zI_sub]
            congr 1
            dsimp only
            omega] at ht3
          have ht3' : t3 = stI t2 76 B'.length (zI (exP (andn (wB la w) (wB la v), andn (wB la v) (wB la w)) [] 0)) := ht3
          have k5 : t3.1 72 1 = nI B'.length := by rw [ht3', rI_ne (by omega)]; exact k2
          rw [k5, show nI B'.length + (1 : Int32) = nI (B'.length + 1) from (nI_succ _).symm]
          intro t4 ht4
          rw [show nI v + (1 : Int32) = nI (v + 1) from (nI_succ _).symm]
          have hf4 : Frs u t4 := by rw [ht4, ht3', ht2, ht1]; exact (((Fr.rf.I (by omega)).I (by omega)).I (by omega)).I (by omega)
          refine ih2 t4 (by omega) (hfu.tr hf4) ?_
          rw [← List.append_assoc, hB']
          refine SrI.fr0 hIu B'.length _ rfl ?_ ?_ (fun j => ?_) (fun j => ?_) (fun j => ?_) ?_ ?_
          · rw [ht4, rI_nj (by omega), ht3', rI_ne (by omega), ht2, rI_ne (by omega), ht1, rI_ne (by omega)]
          · rw [ht4, rI_eq]
          · rw [ht4, rI_ne (by omega), ht3', rI_ne (by omega), ht2, rI_ne (by omega), ht1, rI]; simp
          · rw [ht4, rI_ne (by omega), ht3', rI_ne (by omega), ht2, rI, ht1, rI_ne (by omega)]; simp
          · rw [ht4, rI_ne (by omega), ht3', rI, ht2, rI_ne (by omega), ht1, rI_ne (by omega)]; simp
          · rw [ht4, rI_ne (by omega), ht3', rI_ne (by omega), ht2, rI_ne (by omega), ht1, rI_ne (by omega)]
          · rw [ht4, rI_ne (by omega), ht3', rI_ne (by omega), ht2, rI_ne (by omega), ht1, rI_ne (by omega)]
        · rw [if_neg (fun z => ce z.2), List.append_nil] at ih2
          have cw' := eq_false cw
          have ce' := eq_false ce
          simp (disch := omega) only [hWu.1, e, cw', m3, n3, ce', lit_nI, nI_ltI, nI_leI, nI_eq, nI_clamp, vp_in_nI, forall_eq, true_and, and_true, false_and, and_false, true_implies, false_implies, implies_true, not_true, not_false_eq_true, nI_add, pk_mul, nI_sub, shl1, shr1, fa_or, fa_and, nI_m9, nI_m9s]
          exact ih2 u (by omega) hfu hIu
  unfold wX4_bindWay
  refine ⟨_, key (waysL la).length 0 s (by omega) Fr.rf ?_⟩
  unfold bdsW
  rw [List.append_nil]
  exact hI
theorem sX4_begin {g held : Nat} {Q : St → Prop} (hg : g = 3 ∨ g = 8) (o3 : okLand la) (hG : GroundC g la s) (hW : WaysC la s) (h33 : (waysL la).length ≤ 33) (hL : L0.length = la.2.length) (hr : rowAt (s.1 14) 0 L0) (hh : held < 2 ^ 33) (hlen : (bds la held (waysL la).length).length ≤ 20) (hQ : ∀ u, Frs s u → SrI la.2 L0 (bds la held (waysL la).length) [] u → Q u) : wX4_begin 72 g 21 14 6 (lI held) s Q := by
  have l6 := o3.2.2.1
  have key : ∀ d v u, v + d = (waysL la).length → Frs s u → SrI la.2 L0 (bds la held v) [] u → wX4_begin_43 72 21 (lI held) Q (d + 1) (nI v) u := by
    intro d
    induction d with
    | zero =>
      intro v u hv hfu hIu
      unfold wX4_begin_43
      have ev : v = (waysL la).length := by omega
      subst ev
      have e0 : u.1 21 0 = nI (waysL la).length := by rw [hfu.1 21 (by omega)]; exact hW.1
      simp (disch := omega) only [e0, Nat.le_refl, lit_nI, nI_ltI, nI_leI, nI_eq, nI_clamp, vp_in_nI, forall_eq, true_and, and_true, false_and, and_false, true_implies, false_implies, implies_true, not_true, not_false_eq_true, nI_add, pk_mul, nI_sub, shl1, shr1, fa_or, fa_and, nI_m9, nI_m9s]
      exact hQ u hfu hIu
    | succ d ih =>
      intro v u hv hfu hIu
      have hv2 : v < (waysL la).length := by omega
      have hWu : WaysC la u := hW.fr hfu (by intro k; omega)
      have e : ¬ (waysL la).length ≤ v := by omega
      have hle1 := bds_le la held ((waysL la).length - (v + 1)) (v + 1)
      rw [show v + 1 + ((waysL la).length - (v + 1)) = (waysL la).length by omega] at hle1
      have ih2 := ih (v + 1)
      rw [bds_succ] at ih2 hle1
      unfold wX4_begin_43 wX4_begin_71
      refine ⟨fun z => absurd z (by rw [hWu.1, nI_leI (by omega) (by omega)]; exact e), fun _ => ?_⟩
      rw [show nI v + (1 : Int32) = nI (v + 1) from (nI_succ _).symm]
      refine ⟨fun z => ?_, fun z => ?_⟩
      · rw [lI_tb (by omega) (by omega)] at z
        rw [if_neg z, List.append_nil] at ih2
        exact ih2 u (by omega) hfu hIu
      · rw [lI_tb (by omega) (by omega)] at z
        rw [if_pos z] at ih2 hle1
        rw [List.length_append] at hle1
        exact sX4_bindWay o3 hWu h33 hv2 hIu (by omega) (fun w hfw hIw => ih2 w (by omega) (hfu.tr hfw) hIw)
  unfold wX4_begin
  intro t1 ht1
  refine ⟨cpOk_nI (sp := 0) (dp := 0) (n := 6) (by omega) (by omega) (by omega) (by omega), ?_⟩
  intro t2 ht2
  refine ⟨cpOk_nI (sp := 0) (dp := 0) (n := 6) (by omega) (by omega) (by omega) (by omega), ?_⟩
  intro t3 ht3 t4 ht4
  have ht2' : t2 = stC t1 14 83 0 0 6 := ht2
  have ht3' : t3 = stC t2 (g + 3) 84 0 0 6 := ht3
  have hf1 : Frs s t1 := by rw [ht1]; exact Fr.rf.I (by omega)
  have hf2 : Frs s t2 := by rw [ht2']; exact hf1.C (by omega)
  have hf3 : Frs s t3 := by rw [ht3']; exact hf2.C (by omega)
  have hf4 : Frs s t4 := by rw [ht4]; exact hf3.I (by omega)
  refine ⟨_, key (waysL la).length 0 t4 (by omega) hf4 ⟨?_, ?_, fun i b hb => by simp [bds] at hb, ?_, ?_, fun k p hp => by cases hp⟩⟩
  · rw [ht4, rI_nj (by omega), ht3', rC_ne (by omega), ht2', rC_ne (by omega), ht1, rI_eq]; exact hG.2.1
  · rw [ht4, rI_eq]; rfl
  · intro k p hp
    have hk := (List.getElem?_eq_some_iff.mp hp).1
    rw [ht4, rI_ne (by omega), ht3', rC_ne (by omega), ht2', rC_eq, cpy_in (by omega) (by omega), hf1.1 14 (by omega)]
    rw [show 0 + (0 + k - 0) = 0 + k by omega]
    exact hr k p hp
  · intro k p hp
    have hk := (List.getElem?_eq_some_iff.mp hp).1
    rw [List.length_map] at hk
    rw [List.getElem?_map, laneG hk] at hp
    cases hp
    rw [ht4, rI_ne (by omega), ht3', rC_eq, cpy_in (by omega) (by omega), hf2.1 _ (by omega)]
    rw [show 0 + (0 + k - 0) = k by omega]
    exact (hG.2.2.1 k _ _ _ (laneG hk)).2.2
end BEG
