/-! the reference: asks, clash, fire, odds -/
section ASM
variable {x : Nat} {S : Sp} {s : St}
theorem sX10_digsFor {dug c : Nat} {Q : St → Prop} (e37 : s.1 (x + 7) 37 = nI dug) (hd : dug ≤ 99999) (hc : c ≤ 100000) (hQ : ∀ u, u = stI s (x + 7) 37 (nI (Nat.min 99999 (dug + c))) → Q u) : wX10_digsFor x (nI c) s Q := by
  unfold wX10_digsFor wX10_digsFor_34
  rw [show s.1 (x + 7) ((37 : Int32).toNatClampNeg) = nI dug from e37, nI_add]
  refine ⟨vp_in_nI (n := 37) (by omega) (by omega), fun z => ⟨vp_in_nI (n := 37) (by omega) (by omega), vp_in_nI (n := 37) (by omega) (by omega), fun u hu => hQ u ?_⟩, fun z => ⟨vp_in_nI (n := 37) (by omega) (by omega), fun u hu => hQ u ?_⟩⟩
  · have z' := (nI_leI (b := 99999) (by omega) (by omega)).mp z
    rw [show Nat.min 99999 (dug + c) = dug + c from Nat.min_eq_right (by omega)]
    exact hu
  · have z' : 99999 < dug + c := by
      rcases Nat.lt_or_ge 99999 (dug + c) with y | y
      · exact y
      · exact absurd ((nI_leI (b := 99999) (by omega) (by omega)).mpr y) z
    rw [show Nat.min 99999 (dug + c) = 99999 from Nat.min_eq_left (by omega)]
    exact hu
theorem kX10_asks {Q : Int32 → St → Prop} (h : RM x S s) (hok : okSp S) (hQ : ∀ t, RM x (cAsks S).2 t → Fr (fun k => x ≤ k) s t → Q (cAsks S).1 t) : wX10_asks x s Q := by
  obtain ⟨-, -, o3, o4, -⟩ := id hok
  have l6 := o3.2.2.1
  have h4 := o4.2.2.1
  have h5 : S.2.2.1.2.2.1.length ≤ 5 := o4.2.2.2.2.1.2.1
  have hdg := o4.2.2.2.2.2
  unfold cAsks at hQ
  unfold wX10_asks
  refine thM h (fun s' h' hf => ?_)
  have e36 : s'.1 (x + 7) ((36 : Int32).toNatClampNeg) = nI S.2.2.1.2.2.1.length := h'.2.2.1.2.2.2.2.1
  have e6 : s'.1 (x + 7) ((6 : Int32).toNatClampNeg) = nI S.2.2.1.2.1.length := h'.2.2.1.2.1
  refine ⟨vp_in_nI (n := 36) (by omega) (by omega), ?_⟩
  rw [e36, e6]
  refine ⟨fun c => ?_, fun c => ⟨vp_in_nI (n := 6) (by omega) (by omega), fun c2 => ?_, fun c2 => ?_⟩⟩
  · have c' := (nI_ltI (b := 2) (by omega) (by omega)).mp c
    rw [if_pos (Or.inl c')] at hQ
    exact hQ s' h' hf
  rotate_left
  · have c' : S.2.2.1.2.1.length = 4 := nI_inj (b := 4) (by omega) (by omega) c2
    rw [if_pos (Or.inr (by omega))] at hQ
    exact hQ s' h' hf
  have c' : 2 ≤ S.2.2.1.2.2.1.length := by
    rcases Nat.lt_or_ge S.2.2.1.2.2.1.length 2 with y | y
    · exact absurd ((nI_ltI (b := 2) (by omega) (by omega)).mpr y) c
    · exact y
  have c2' : S.2.2.1.2.1.length < 4 := by
    rcases Nat.lt_or_ge S.2.2.1.2.1.length 4 with y | y
    · exact y
    · exact absurd (by rw [show S.2.2.1.2.1.length = 4 by omega]; rfl) c2
  rw [if_neg (by omega)] at hQ
  refine sX10_dsc h' hok (fun u hRu hfu hS => ?_)
  refine sX10_askC hRu hok hS ?_
  have hfsu := hf.tr hfu
  cases hz : ask S.2.1 S.2.2.1 with
  | none =>
    rw [hz] at hQ
    exact ⟨fun z => absurd rfl z, fun _ => hQ u hRu hfsu⟩
  | some q =>
    rw [hz] at hQ
    dsimp only at hQ
    have hq216 := ask_216 hok hz
    have hrow := hS.2.1 q (by rw [← ask_P]; exact hz)
    have hq15 : q.2.length = S.2.1.2.length := by
      rw [ask_P] at hz
      exact (allL_in.mp (bestP_ex hz).1).1
    refine ⟨fun _ => ?_, fun y => ?_⟩
    rotate_left
    · have := nI_inj (a := q.1) (b := 1000000) (by omega) (by omega) y
      omega
    refine sX10_before hRu hok (fun t hft hc hb => ?_)
    obtain ⟨n1, n2, n3, n4, n5, n6⟩ := hRu.2.2.1
    rw [← hc 7 (by omega) (by omega)] at n1 n2 n3 n4 n5 n6
    simp only [Nat.zero_add] at n2 n3 n4 n5 n6
    have e21 : t.1 (x + 21) = u.1 (x + 21) := hc 21 (by omega) (by omega)
    have e2 : t.1 (x + 2) 1 = nI S.2.1.2.length := by rw [hc 2 (by omega) (by omega)]; exact hRu.2.1.2.1
    have lp1 : ∀ (K : St → Prop), (∀ v, Fr (fun k => k = x + 7) t v → (∀ j, v.1 (x + 7) j = if j < S.2.1.2.length then u.1 (x + 21) j else t.1 (x + 7) j) → K v) → ∀ d l v, l + d = 6 → Fr (fun k => k = x + 7) t v → (∀ j, v.1 (x + 7) j = if j < l ∧ j < S.2.1.2.length then u.1 (x + 21) j else t.1 (x + 7) j) → wX10_asks_62 x (nI q.1) K Q (d + 1) (nI l) v := by
      intro K hK d
      induction d with
      | zero =>
        intro l v hl hfv hv
        have el : l = 6 := by omega
        subst el
        unfold wX10_asks_62
        refine ⟨fun _ => hK v hfv (fun j => ?_), fun z => absurd (Int32.le_refl _) z⟩
        rw [hv j]
        by_cases cj : j < S.2.1.2.length
        · rw [if_pos ⟨by omega, cj⟩, if_pos cj]
        · rw [if_neg (fun z => cj z.2), if_neg cj]
      | succ d ih =>
        intro l v hl hfv hv
        have ev2 : v.1 (x + 2) ((1 : Int32).toNatClampNeg) = nI S.2.1.2.length := by rw [hfv.1 _ (by omega)]; exact e2
        have ev21 : v.1 (x + 21) = u.1 (x + 21) := by rw [hfv.1 _ (by omega)]; exact e21
        unfold wX10_asks_62 wX10_asks_102
        rw [ev2, ev21, show (0 : Int32) + nI l = nI l from by rw [show (0 : Int32) = nI 0 from rfl, nI_add, Nat.zero_add], nI_clamp (show l < 2 ^ 31 by omega), show nI l + (1 : Int32) = nI (l + 1) from (nI_succ _).symm]
        refine ⟨fun z => absurd ((nI_leI (a := 6) (by omega) (by omega)).mp z) (by omega), fun _ => ⟨vp_in_nI (n := 1) (by omega) (by omega), fun z => ⟨vp_in_nI (by omega) (by omega), vp_in_nI (by omega) (by omega), fun w hw => ?_⟩, fun z => ⟨vp_in_nI (by omega) (by omega), vp_in_nI (by omega) (by omega), fun w hw => ?_⟩⟩⟩
        · have z' := (nI_leI (by omega) (by omega)).mp z
          refine ih (l + 1) w (by omega) (by rw [hw]; exact hfv.I rfl) (fun j => ?_)
          rw [hw]
          by_cases cj : j = l
          · subst cj
            rw [rI_eq, hv j, if_neg (by omega), if_neg (by omega)]
          · rw [rI_nj cj, hv j]
            by_cases cj2 : j < l ∧ j < S.2.1.2.length
            · rw [if_pos cj2, if_pos ⟨by omega, cj2.2⟩]
            · rw [if_neg cj2, if_neg (fun y => cj2 ⟨by omega, y.2⟩)]
        · have z' : l < S.2.1.2.length := by
            rcases Nat.lt_or_ge l S.2.1.2.length with y | y
            · exact y
            · exact absurd ((nI_leI (by omega) (by omega)).mpr y) z
          refine ih (l + 1) w (by omega) (by rw [hw]; exact hfv.I rfl) (fun j => ?_)
          rw [hw]
          by_cases cj : j = l
          · subst cj
            rw [rI_eq, if_pos ⟨by omega, z'⟩]
          · rw [rI_nj cj, hv j]
            by_cases cj2 : j < l ∧ j < S.2.1.2.length
            · rw [if_pos cj2, if_pos ⟨by omega, cj2.2⟩]
            · rw [if_neg cj2, if_neg (fun y => cj2 ⟨by omega, y.2⟩)]
    refine ⟨_, lp1 _ ?_ 6 0 t rfl Fr.rf (fun j => by rw [if_neg (by omega)])⟩
    intro v hfv hv
    have v37 : v.1 (x + 7) 37 = nI S.2.2.1.2.2.2 := by rw [hv, if_neg (by omega)]; exact n6
    refine sX10_digsFor (c := q.1) v37 hdg (by omega) (fun w hw => ?_)
    have hfw : Fr (fun k => k = x + 7) t w := by rw [hw]; exact hfv.I rfl
    have w6 : w.1 (x + 7) 6 = nI S.2.2.1.2.1.length := by rw [hw, rI_nj (by omega), hv, if_neg (by omega)]; exact n2
    have w36 : w.1 (x + 7) 36 = nI S.2.2.1.2.2.1.length := by rw [hw, rI_nj (by omega), hv, if_neg (by omega)]; exact n5
    rw [show w.1 (x + 7) ((6 : Int32).toNatClampNeg) = nI S.2.2.1.2.1.length from w6]
    refine ⟨vp_in_nI (n := 6) (by omega) (by omega), ?_⟩
    have lp2 : ∀ (K : St → Prop), (∀ y, Fr (fun k => k = x + 7) t y → (∀ j, y.1 (x + 7) j = if 11 + 5 * S.2.2.1.2.1.length ≤ j ∧ j < 11 + 5 * S.2.2.1.2.1.length + 5 then (if j - (11 + 5 * S.2.2.1.2.1.length) < S.2.2.1.2.2.1.length then w.1 (x + 7) (31 + (j - (11 + 5 * S.2.2.1.2.1.length))) else 0) else if 31 ≤ j ∧ j < 31 + 5 then 0 else w.1 (x + 7) j) → K y) → ∀ d k y, k + d = 5 → Fr (fun k => k = x + 7) t y → (∀ j, y.1 (x + 7) j = if 11 + 5 * S.2.2.1.2.1.length ≤ j ∧ j < 11 + 5 * S.2.2.1.2.1.length + k then (if j - (11 + 5 * S.2.2.1.2.1.length) < S.2.2.1.2.2.1.length then w.1 (x + 7) (31 + (j - (11 + 5 * S.2.2.1.2.1.length))) else 0) else if 31 ≤ j ∧ j < 31 + k then 0 else w.1 (x + 7) j) → wX10_asks_124 x (nI q.1) (nI S.2.2.1.2.1.length) K Q (d + 1) (nI k) y := by
      intro K hK d
      induction d with
      | zero =>
        intro k y hk hfy hy
        have ek : k = 5 := by omega
        subst ek
        unfold wX10_asks_124
        exact ⟨fun _ => hK y hfy hy, fun z => absurd (Int32.le_refl _) z⟩
      | succ d ih =>
        intro k y hk hfy hy
        have y36 : y.1 (x + 7) ((36 : Int32).toNatClampNeg) = nI S.2.2.1.2.2.1.length := by
          show y.1 (x + 7) 36 = _
          rw [hy, if_neg (by omega), if_neg (by omega)]; exact w36
        have y31 : y.1 (x + 7) (31 + k) = w.1 (x + 7) (31 + k) := by rw [hy, if_neg (by omega), if_neg (by omega)]
        unfold wX10_asks_124 wX10_asks_165
        rw [y36, show (31 : Int32) = nI 31 from rfl, show (11 : Int32) = nI 11 from rfl, show (5 : Int32) = nI 5 from rfl, pk_mul, nI_add, nI_add, nI_add, nI_clamp (show 31 + k < 2 ^ 31 by omega), nI_clamp (show 11 + 5 * S.2.2.1.2.1.length + k < 2 ^ 31 by omega), y31, show nI k + (1 : Int32) = nI (k + 1) from (nI_succ _).symm]
        have go : ∀ (val : Int32), val = (if k < S.2.2.1.2.2.1.length then w.1 (x + 7) (31 + k) else 0) → ∀ a, a = stI y (x + 7) (11 + 5 * S.2.2.1.2.1.length + k) val → ∀ b, b = stI a (x + 7) (31 + k) 0 → wX10_asks_124 x (nI q.1) (nI S.2.2.1.2.1.length) K Q (d + 1) (nI (k + 1)) b := by
          intro val hval a ha b hb'
          refine ih (k + 1) b (by omega) (by rw [hb', ha]; exact (Fr.I (k := x + 7) (hfy.I rfl) rfl)) (fun j => ?_)
          rw [hb']
          by_cases c1 : j = 31 + k
          · subst c1
            rw [rI_eq, if_neg (by omega), if_pos (by omega)]
          · rw [rI_nj c1, ha]
            by_cases c2 : j = 11 + 5 * S.2.2.1.2.1.length + k
            · subst c2
              rw [rI_eq, if_pos (by omega), hval, Nat.add_sub_cancel_left]
            · rw [rI_nj c2, hy]
              by_cases c3 : 11 + 5 * S.2.2.1.2.1.length ≤ j ∧ j < 11 + 5 * S.2.2.1.2.1.length + k
              · rw [if_pos c3, if_pos (show 11 + 5 * S.2.2.1.2.1.length ≤ j ∧ j < 11 + 5 * S.2.2.1.2.1.length + (k + 1) by omega)]
              · rw [if_neg c3, if_neg (show ¬ (11 + 5 * S.2.2.1.2.1.length ≤ j ∧ j < 11 + 5 * S.2.2.1.2.1.length + (k + 1)) by omega)]
                by_cases c4 : 31 ≤ j ∧ j < 31 + k
                · rw [if_pos c4, if_pos (show 31 ≤ j ∧ j < 31 + (k + 1) by omega)]
                · rw [if_neg c4, if_neg (show ¬ (31 ≤ j ∧ j < 31 + (k + 1)) by omega)]
        refine ⟨fun z => absurd ((nI_leI (by omega) (by omega)).mp z) (by omega), fun _ => ⟨vp_in_nI (n := 36) (by omega) (by omega), fun z => ⟨vp_in_nI (by omega) (by omega), fun a ha => ⟨vp_in_nI (by omega) (by omega), go _ ?_ a ha⟩⟩, fun z => ⟨vp_in_nI (by omega) (by omega), vp_in_nI (by omega) (by omega), fun a ha => ⟨vp_in_nI (by omega) (by omega), go _ ?_ a ha⟩⟩⟩⟩
        · have z' := (nI_leI (by omega) (by omega)).mp z
          rw [if_neg (by omega)]
        · have z' : k < S.2.2.1.2.2.1.length := by
            rcases Nat.lt_or_ge k S.2.2.1.2.2.1.length with y | y
            · exact y
            · exact absurd ((nI_leI (by omega) (by omega)).mpr y) z
          rw [if_pos z']
    refine ⟨_, lp2 _ ?_ 5 0 w rfl hfw (fun j => by rw [if_neg (by omega), if_neg (by omega)])⟩
    intro y hfy hy
    have y36 : y.1 (x + 7) ((36 : Int32).toNatClampNeg) = nI S.2.2.1.2.2.1.length := by
      show y.1 (x + 7) 36 = _
      rw [hy, if_neg (by omega), if_neg (by omega)]; exact w36
    rw [y36, show (7 : Int32) = nI 7 from rfl, nI_add, nI_clamp (show 7 + S.2.2.1.2.1.length < 2 ^ 31 by omega)]
    refine ⟨vp_in_nI (n := 36) (by omega) (by omega), vp_in_nI (by omega) (by omega), fun a ha => ⟨vp_in_nI (n := 36) (by omega) (by omega), fun b hb' => ⟨vp_in_nI (n := 6) (by omega) (by omega), vp_in_nI (n := 6) (by omega) (by omega), fun e he => ?_⟩⟩⟩
    have hb2 : b = stI a (x + 7) 36 0 := hb'
    have he2 : e = stI b (x + 7) 6 (b.1 (x + 7) 6 + 1) := he
    have b6 : b.1 (x + 7) 6 = nI S.2.2.1.2.1.length := by
      rw [hb2, rI_nj (by omega), ha, rI_nj (by omega), hy, if_neg (by omega), if_neg (by omega)]
      exact w6
    rw [b6, show nI S.2.2.1.2.1.length + (1 : Int32) = nI (S.2.2.1.2.1.length + 1) from (nI_succ _).symm] at he2
    have hfe : Fr (fun k => k = x + 7) t e := by rw [he2, hb2, ha]; exact ((hfy.I rfl).I rfl).I rfl
    have out : ∀ j, j ≠ 6 → j ≠ 36 → j ≠ 7 + S.2.2.1.2.1.length → e.1 (x + 7) j = y.1 (x + 7) j := fun j j1 j2 j3 => by
      rw [he2, rI_nj j1, hb2, rI_nj j2, ha, rI_nj j3]
    have outw : ∀ j, j ≠ 6 → j ≠ 36 → j ≠ 7 + S.2.2.1.2.1.length → ¬ (11 + 5 * S.2.2.1.2.1.length ≤ j ∧ j < 11 + 5 * S.2.2.1.2.1.length + 5) → ¬ (31 ≤ j ∧ j < 31 + 5) → e.1 (x + 7) j = w.1 (x + 7) j := fun j j1 j2 j3 j4 j5 => by
      rw [out j j1 j2 j3, hy, if_neg j4, if_neg j5]
    have outt : ∀ j, j ≠ 6 → j ≠ 36 → j ≠ 37 → j ≠ 7 + S.2.2.1.2.1.length → ¬ (11 + 5 * S.2.2.1.2.1.length ≤ j ∧ j < 11 + 5 * S.2.2.1.2.1.length + 5) → ¬ (31 ≤ j ∧ j < 31 + 5) → S.2.1.2.length ≤ j → e.1 (x + 7) j = t.1 (x + 7) j := fun j j1 j2 j3 j4 j5 j6 j7 => by
      rw [outw j j1 j2 j4 j5 j6, hw, rI_nj j3, hv, if_neg (by omega)]
    refine hQ e (hb _ e hfe ⟨?_, ?_, ?_, ?_, ?_, ?_⟩) (((hfsu.tr hft)).tr (hfe.wk (by intro k; omega)))
    · intro k p hp
      have hk : k < q.2.length := (List.getElem?_eq_some_iff.mp hp).1
      rw [Nat.zero_add, outw k (by omega) (by omega) (by omega) (by omega) (by omega), hw, rI_nj (by omega), hv, if_pos (by omega)]
      have := hrow k p hp
      rw [Nat.zero_add] at this
      exact this
    · rw [he2, rI_eq]
      show _ = nI (S.2.2.1.2.1 ++ [S.2.2.1.2.2.1]).length
      rw [List.length_append]
      rfl
    · intro m w' hw'
      have hml := (List.getElem?_eq_some_iff.mp hw').1
      have hml2 : m < S.2.2.1.2.1.length + 1 := by
        have : m < (S.2.2.1.2.1 ++ [S.2.2.1.2.2.1]).length := hml
        rw [List.length_append] at this
        simpa using this
      have hw2 : (S.2.2.1.2.1 ++ [S.2.2.1.2.2.1])[m]? = some w' := hw'
      rw [Nat.zero_add, Nat.zero_add]
      by_cases cm : m < S.2.2.1.2.1.length
      · rw [List.getElem?_append_left cm] at hw2
        have hwl := (o4.2.2.2.1 _ (List.mem_of_getElem? hw2)).1.2.1
        obtain ⟨a1, a2⟩ := n3 m w' hw2
        refine ⟨?_, a2.cg (fun k hk => ?_)⟩
        · rw [outt _ (by omega) (by omega) (by omega) (by omega) (by omega) (by omega) (by omega)]; exact a1
        · rw [outt _ (by omega) (by omega) (by omega) (by omega) (by omega) (by omega) (by omega)]
      · have em : m = S.2.2.1.2.1.length := by omega
        subst em
        rw [List.getElem?_append_right (Nat.le_refl _), Nat.sub_self] at hw2
        cases hw2
        refine ⟨?_, fun k p hp => ?_⟩
        · rw [he2, rI_nj (by omega), hb2, rI_nj (by omega), ha, rI_eq]
        · have hk := (List.getElem?_eq_some_iff.mp hp).1
          rw [out _ (by omega) (by omega) (by omega), hy, if_pos (by omega), Nat.add_sub_cancel_left, if_pos hk, hw, rI_nj (by omega), hv, if_neg (by omega)]
          exact n4 k p hp
    · exact rowAt.nil
    · rw [he2, rI_nj (by omega), hb2, rI_eq]; rfl
    · rw [outw _ (by omega) (by omega) (by omega) (by omega) (by omega), hw, rI_eq]
theorem sX10_ones {m : Nat} {Q : Int32 → St → Prop} (hm : m < 64) (hQ : Q (nI (pc m)) s) : wX10_ones (nI m) s Q := by
  have key : ∀ d k, k + d = 6 → wX10_ones_4 (nI m) Q (d + 1) (nI (cnt m k)) (nI k) s := by
    intro d
    induction d with
    | zero =>
      intro k hk
      have ek : k = 6 := by omega
      subst ek
      unfold wX10_ones_4
      rw [cnt6]
      exact ⟨fun _ => hQ, fun z => absurd (Int32.le_refl _) z⟩
    | succ d ih =>
      intro k hk
      have ih2 := ih (k + 1) (by omega)
      unfold cnt at ih2
      have esh : (nI m >>> (nI k &&& 31)) &&& 1 = nI (m.testBit k).toNat := by
        rw [show (1 : Int32) = nI 1 from rfl, show (31 : Int32) = nI 31 from rfl, fa_and, shr1 (by omega) (by omega)]
        cases m.testBit k <;> rfl
      unfold wX10_ones_4
      rw [esh, nI_add, show nI k + (1 : Int32) = nI (k + 1) from (nI_succ _).symm]
      exact ⟨fun z => absurd ((nI_leI (a := 6) (by omega) (by omega)).mp z) (by omega), fun _ => ih2⟩
  unfold wX10_ones
  exact ⟨_, key 6 0 (by omega)⟩
theorem minC_216 (hok : okSp S) {bs : List Nat} {m : Nat} (h : minC S bs = some m) : m ≤ 216 := minC_le hok h
theorem lsI_far {o : Option Nat} (h : ∀ m, o = some m → m ≤ 216) : lsI o = 1000000 ↔ o.isSome = false := by
  cases o with
  | none => exact ⟨fun _ => rfl, fun _ => rfl⟩
  | some m =>
    have := h m rfl
    constructor
    · intro z
      have := nI_inj (a := m) (b := 1000000) (by omega) (by omega) z
      omega
    · intro z; cases z
theorem kX10_clash {Q : Int32 → St → Prop} (h : RM x S s) (hok : okSp S) (hQ : ∀ t, RM x S t → Fr (fun k => x ≤ k) s t → Q (cClash S) t) : wX10_clash x s Q := by
  obtain ⟨-, -, o3, o4, -⟩ := id hok
  have h4 := o4.2.2.1
  have p4 := p2_le h4
  have p0 := Nat.two_pow_pos S.2.2.1.2.1.length
  unfold cClash at hQ
  unfold wX10_clash
  refine thM h (fun s' h' hf => ?_)
  refine sX10_dsc h' hok (fun u hRu hfu hS => ?_)
  have q := hQ u hRu (hf.tr hfu)
  have key : ∀ d i, i + d = 2 ^ S.2.2.1.2.1.length → wX10_clash_17 x Q (d + 1) (nI (clP S i)) (nI i) u := by
    intro d
    induction d with
    | zero =>
      intro i hi
      have ei : i = 2 ^ S.2.2.1.2.1.length := by omega
      unfold wX10_clash_17
      refine sX10_allMaps hRu hok ?_
      refine ⟨fun _ => ?_, fun z => absurd ((nI_ltI (by omega) (by omega)).mpr (by omega)) z⟩
      rw [ei]; exact q
    | succ d ih =>
      intro i hi
      have ih2 := ih (i + 1) (by omega)
      unfold clP at ih2
      have hcl := clP_lt S i
      have q1 := pc_le i
      have q2 := pc_le (clP S i)
      unfold wX10_clash_17
      refine sX10_allMaps hRu hok ?_
      refine ⟨fun z => absurd ((nI_ltI (by omega) (by omega)).mp z) (by omega), fun _ => ?_⟩
      have yes : (decide (clP S i = 0) || decide (pc i < pc (clP S i))) = true → wX10_clash_40 (wX10_clash_17 x Q (d + 1)) Q x (nI (clP S i)) (nI i) u := by
        intro hy
        rw [hy, Bool.and_true] at ih2
        unfold wX10_clash_40 wX10_clash_45 wX10_clash_64 wX10_clash_65
        rw [show nI i + (1 : Int32) = nI (i + 1) from (nI_succ _).symm]
        refine ⟨fun z => absurd z (by decide), fun _ => ?_⟩
        refine sX10_costOf hok hS (by omega) ?_
        have hfar := lsI_far (o := minC S (selB S i ++ dB S.2.1 S.2.2.1)) (fun m hm => minC_216 hok hm)
        have hcb : canB S i = (minC S (selB S i ++ dB S.2.1 S.2.2.1)).isSome := rfl
        refine ⟨fun z => ?_, fun z => ?_⟩
        · have : canB S i = true := by
            cases hz : canB S i with
            | true => rfl
            | false => exact absurd (hfar.mpr (hcb ▸ hz)) z
          rw [this] at ih2
          exact ih2
        · have : canB S i = false := hcb.trans (hfar.mp z)
          rw [this] at ih2
          exact ih2
      refine ⟨fun c0 => ?_, fun c0 => ?_⟩
      · have c0' : clP S i = 0 := nI_inj (b := 0) (by omega) (by omega) c0
        exact yes (by rw [decide_eq_true c0', Bool.true_or])
      · have c0' : ¬ clP S i = 0 := fun z => c0 (by rw [z]; rfl)
        refine sX10_ones (by omega) (sX10_ones (by omega) ?_)
        refine ⟨fun cl => ?_, fun cl => ?_⟩
        · have cl' : pc (clP S i) ≤ pc i := (nI_leI (by omega) (by omega)).mp cl
          rw [decide_eq_false c0', decide_eq_false (show ¬ pc i < pc (clP S i) by omega), Bool.or_self, Bool.and_false, if_neg (by decide)] at ih2
          unfold wX10_clash_45 wX10_clash_64 wX10_clash_65
          rw [show nI i + (1 : Int32) = nI (i + 1) from (nI_succ _).symm]
          exact ⟨fun _ => ih2, fun z => absurd rfl z⟩
        · have cl' : pc i < pc (clP S i) := by
            rcases Nat.lt_or_ge (pc i) (pc (clP S i)) with h | h
            · exact h
            · exact absurd ((nI_leI (by omega) (by omega)).mpr h) cl
          exact yes (by rw [decide_eq_true cl', Bool.or_true])
  exact ⟨_, key (2 ^ S.2.2.1.2.1.length) 0 (by omega)⟩
theorem fiC_216 (hok : okSp S) {m c : Nat} (h : fiC S m = some c) : c ≤ 216 := minC_le hok h
theorem kX10_fire {v : Int32} {Q : Int32 → St → Prop} (h : RM x S s) (hok : okSp S) (hQ : ∀ t, RM x S t → Fr (fun k => x ≤ k) s t → Q (cFire S v) t) : wX10_fire x v s Q := by
  obtain ⟨-, -, o3, o4, -⟩ := id hok
  have h4 := o4.2.2.1
  have p4 := p2_le h4
  have p0 := Nat.two_pow_pos S.2.2.1.2.1.length
  unfold cFire at hQ
  unfold wX10_fire
  refine thM h (fun s' h' hf => ?_)
  refine sX10_in (n := 2) (by rfl) (by omega) (fun hy => ⟨fun z => absurd rfl z, fun _ => ?_⟩) (fun k hy => ⟨fun _ => ?_, fun z => absurd z (by decide)⟩)
  · have n0 : v ≠ 0 := fun z => by rw [z] at hy; cases hy
    have n1 : v ≠ 1 := fun z => by rw [z] at hy; cases hy
    rw [if_neg n0, if_neg n1] at hQ
    exact hQ s' h' hf
  · have e6 : s'.1 (x + 7) ((6 : Int32).toNatClampNeg) = nI S.2.2.1.2.1.length := h'.2.2.1.2.1
    have hv01 : v ≠ 0 → v = 1 := fun n0 => by
      obtain ⟨hk, rfl⟩ := num_lt (by omega) hy
      have : k ≠ 0 := fun z => n0 (by rw [z]; rfl)
      have : k = 1 := by omega
      rw [this]; rfl
    refine ⟨vp_in_nI (n := 6) (by omega) (by omega), ?_⟩
    rw [e6]
    refine ⟨fun c => ?_, fun c => ?_⟩
    rotate_left
    · have c' : S.2.2.1.2.1.length = 0 := nI_inj (b := 0) (by omega) (by omega) c
      rw [c'] at hQ
      have q := hQ s' h' hf
      by_cases n0 : v = 0
      · rw [if_pos n0] at q; exact q
      · rw [if_neg n0, if_pos (hv01 n0)] at q; exact q
    have c' : 0 < S.2.2.1.2.1.length := by
      rcases Nat.eq_zero_or_pos S.2.2.1.2.1.length with y | y
      · exact absurd (by rw [y]; rfl) c
      · exact y
    refine sX10_dsc h' hok (fun u hRu hfu hS => ?_)
    have q := hQ u hRu (hf.tr hfu)
    have e6u : u.1 (x + 7) ((6 : Int32).toNatClampNeg) = nI S.2.2.1.2.1.length := hRu.2.2.1.2.1
    have cost : ∀ (m : Nat) (K : Int32 → St → Prop), m < S.2.2.1.2.1.length → K (lsI (fiC S m)) u → wX10_costOf x (nI (2 ^ S.2.2.1.2.1.length - 1) &&& (((1 : Int32) <<< (nI m &&& 31)) ^^^ -1)) u K := by
      intro m K hm hK
      have pm := p2_le (show m ≤ 3 by omega)
      have e1 : nI (2 ^ S.2.2.1.2.1.length - 1) &&& (((1 : Int32) <<< (nI m &&& 31)) ^^^ -1) = nI (andn (2 ^ S.2.2.1.2.1.length - 1) (2 ^ m)) := by
        rw [show ((1 : Int32) <<< (nI m &&& 31)) = nI (2 ^ m) by rw [show (1 : Int32) = nI 1 from rfl, show (31 : Int32) = nI 31 from rfl, fa_and, shl1 (by omega)]]
        exact andnI (by omega) (by omega)
      rw [e1]
      refine sX10_costOf hok hS ?_ hK
      have := andn_p2 (a := 2 ^ S.2.2.1.2.1.length - 1) (m := m) (by omega) (by rw [Nat.testBit_two_pow_sub_one]; exact decide_eq_true hm)
      omega
    have key : ∀ (K : Int32 → St → Prop), (∀ w c, fiS S S.2.2.1.2.1.length = some (w, c) → K (nI w) u) → ∀ d m w cc, m + d = S.2.2.1.2.1.length → 1 ≤ m → fiS S m = some (w, cc) → wX10_fire_41 x v K Q (d + 1) (nI w) (nI m) u := by
      intro K hK d
      induction d with
      | zero =>
        intro m w cc hm _ hw
        have em : m = S.2.2.1.2.1.length := by omega
        subst em
        unfold wX10_fire_41
        refine ⟨vp_in_nI (n := 6) (by omega) (by omega), ?_⟩
        rw [e6u]
        exact ⟨fun _ => hK w cc hw, fun z => absurd (Int32.le_refl _) z⟩
      | succ d ih =>
        intro m w cc hm h1m hw
        have hle := fiS_le S hw
        have hw2 : w < m := hle.1
        have hcc : cc = fiC S w := hle.2
        have ih2 := ih (m + 1)
        unfold fiS at ih2
        rw [hw] at ih2
        dsimp only at ih2
        unfold wX10_fire_41 wX10_fire_88
        refine ⟨vp_in_nI (n := 6) (by omega) (by omega), ?_⟩
        rw [e6u, show nI m + (1 : Int32) = nI (m + 1) from (nI_succ _).symm]
        refine ⟨fun z => absurd ((nI_leI (by omega) (by omega)).mp z) (by omega), fun _ => ?_⟩
        refine sX10_allMaps hRu hok (cost m _ (by omega) (sX10_allMaps hRu hok (cost w _ (by omega) ?_)))
        have hlt := lsI_lt (a := fiC S w) (b := fiC S m) (fun c hc => fiC_216 hok hc) (fun c hc => fiC_216 hok hc)
        refine ⟨fun z => ?_, fun z => ?_⟩
        · have := hlt.mp z
          rw [hcc, this] at ih2
          exact ih2 w _ (by omega) (by omega) rfl
        · have : ltO (fiC S m) (fiC S w) = true := by
            cases hz : ltO (fiC S m) (fiC S w) with
            | true => rfl
            | false => exact absurd (hlt.mpr hz) z
          rw [hcc, this] at ih2
          exact ih2 m _ (by omega) (by omega) rfl
    refine ⟨_, key _ ?_ (S.2.2.1.2.1.length - 1) 1 0 (fiC S 0) (by omega) (Nat.le_refl _) rfl⟩
    intro w cc hw
    have hle := fiS_le S hw
    have hw2 : w < S.2.2.1.2.1.length := hle.1
    have hcc : cc = fiC S w := hle.2
    rw [hw] at q
    refine sX10_allMaps hRu hok (cost w _ hw2 ?_)
    refine ⟨fun n0 => ?_, fun n0 => ?_⟩
    · rw [if_neg n0, if_pos (hv01 n0)] at q
      dsimp only at q
      rw [hcc] at q
      cases hz : fiC S w with
      | none =>
        rw [hz] at q
        exact ⟨fun z => absurd rfl z, fun _ => q⟩
      | some c =>
        rw [hz] at q
        have := fiC_216 hok hz
        refine ⟨fun _ => q, fun z => ?_⟩
        have := nI_inj (a := c) (b := 1000000) (by omega) (by omega) z
        omega
    · rw [if_pos n0] at q
      exact q
theorem sX10_gcd {Q : Int32 → St → Prop} : ∀ (b a : Nat), a < 2 ^ 30 → b < 2 ^ 30 → Q (nI (Nat.gcd a b)) s → ∃ k, wX10_gcd_4 Q k (nI a) (nI b) s := by
  intro b
  induction b using Nat.strongRecOn with
  | ind b ih =>
    intro a ha hb hq
    by_cases c : b = 0
    · subst c
      rw [Nat.gcd_zero_right] at hq
      refine ⟨1, ?_⟩
      unfold wX10_gcd_4
      exact ⟨fun _ => hq, fun z => absurd rfl z⟩
    · have hr1 : a % b < b := Nat.mod_lt _ (by omega)
      have hg1 : Nat.gcd a b = Nat.gcd b (a % b) := by rw [Nat.gcd_comm a b, Nat.gcd_rec b a, Nat.gcd_comm]
      rw [hg1] at hq
      obtain ⟨k, hk⟩ := ih (a % b) hr1 b hb (by omega) hq
      refine ⟨k + 1, ?_⟩
      unfold wX10_gcd_4
      refine ⟨fun z => absurd (nI_inj (b := 0) (by omega) (by omega) z) c, fun z => ⟨z, ?_⟩⟩
      rw [pk_rem (by omega) (by omega) (by omega)]
      exact hk
theorem kX10_odds {v y : Int32} {Q : Int32 → St → Prop} (h : RM x S s) (hok : okSp S) (hQ : ∀ t, RM x S t → Fr (fun k => x ≤ k) s t → Q (cOdds S v y) t) : wX10_odds x v y s Q := by
  obtain ⟨-, -, o3, o4, -⟩ := id hok
  have h4 := o4.2.2.1
  have p4 := p2_le h4
  have p0 := Nat.two_pow_pos S.2.2.1.2.1.length
  have t4 := p10_le h4
  have t0 := Nat.pow_pos (n := S.2.2.1.2.1.length) (show 0 < 10 by omega)
  unfold cOdds at hQ
  unfold wX10_odds
  refine thM h (fun s' h' hf => ?_)
  refine sX10_in (n := 11) (by rfl) (by omega) (fun hx => ⟨fun _ => ?_, fun z => absurd rfl z⟩) (fun a hx => ⟨fun z => absurd z (by decide), fun _ => ?_⟩)
  · rw [hx] at hQ; exact hQ s' h' hf
  rw [hx] at hQ
  refine sX10_in (n := 2) (by rfl) (by omega) (fun hy => ⟨fun z => absurd rfl z, fun _ => ?_⟩) (fun b hy => ⟨fun _ => ?_, fun z => absurd z (by decide)⟩)
  · rw [hy] at hQ; exact hQ s' h' hf
  rw [hy] at hQ
  obtain ⟨ha, rfl⟩ := num_lt (by omega) hx
  obtain ⟨hb, rfl⟩ := num_lt (by omega) hy
  dsimp only at hQ
  refine sX10_dsc h' hok (fun u hRu hfu hS => ?_)
  have hq := hQ u hRu (hf.tr hfu)
  have e6 : u.1 (x + 7) ((6 : Int32).toNatClampNeg) = nI S.2.2.1.2.1.length := hRu.2.2.1.2.1
  have lp1 : ∀ (K : Int32 → St → Prop) (x3 : Int32), K (nI (10 ^ S.2.2.1.2.1.length)) u → ∀ d m, m + d = S.2.2.1.2.1.length → wX10_odds_42 x (nI a) (nI b) x3 K Q (d + 1) (nI (10 ^ m)) (nI m) u := by
    intro K x3 hK d
    induction d with
    | zero =>
      intro m hm
      have em : m = S.2.2.1.2.1.length := by omega
      subst em
      unfold wX10_odds_42
      refine ⟨vp_in_nI (n := 6) (by omega) (by omega), ?_⟩
      rw [e6]
      exact ⟨fun _ => hK, fun z => absurd (Int32.le_refl _) z⟩
    | succ d ih =>
      intro m hm
      have ih2 := ih (m + 1) (by omega)
      unfold wX10_odds_42
      refine ⟨vp_in_nI (n := 6) (by omega) (by omega), ?_⟩
      rw [e6, show nI m + (1 : Int32) = nI (m + 1) from (nI_succ _).symm, show (10 : Int32) = nI 10 from rfl, pk_mul, ← Nat.pow_succ]
      exact ⟨fun z => absurd ((nI_leI (by omega) (by omega)).mp z) (by omega), fun _ => ih2⟩
  have lp2 : ∀ (K : Int32 → St → Prop) (left : Nat) (x3 x4 : Int32), left < 16 → K (nI (chP left a S.2.2.1.2.1.length)) u → ∀ d m, m + d = S.2.2.1.2.1.length → wX10_odds_85 x (nI a) (nI b) x3 x4 (nI left) K Q (d + 1) (nI (chP left a m)) (nI m) u := by
    intro K left x3 x4 hl hK d
    induction d with
    | zero =>
      intro m hm
      have em : m = S.2.2.1.2.1.length := by omega
      subst em
      unfold wX10_odds_85
      refine ⟨vp_in_nI (n := 6) (by omega) (by omega), ?_⟩
      rw [e6]
      exact ⟨fun _ => hK, fun z => absurd (Int32.le_refl _) z⟩
    | succ d ih =>
      intro m hm
      have ih2 := ih (m + 1) (by omega)
      unfold chP at ih2
      have esh : (nI left >>> (nI m &&& 31)) &&& 1 = nI (if left.testBit m then 1 else 0) := by
        rw [show (1 : Int32) = nI 1 from rfl, show (31 : Int32) = nI 31 from rfl, fa_and, shr1 (by omega) (by omega)]
      unfold wX10_odds_85 wX10_odds_118
      refine ⟨vp_in_nI (n := 6) (by omega) (by omega), ?_⟩
      rw [e6, esh, show nI m + (1 : Int32) = nI (m + 1) from (nI_succ _).symm, show (10 : Int32) = nI 10 from rfl, nI_sub (by omega), pk_mul, pk_mul]
      refine ⟨fun z => absurd ((nI_leI (by omega) (by omega)).mp z) (by omega), fun _ => ?_⟩
      cases hz : left.testBit m with
      | false =>
        rw [hz] at ih2
        exact ⟨fun _ => ih2, fun z => absurd z (show ¬ (0 : Int32) = 1 by decide)⟩
      | true =>
        rw [hz] at ih2
        exact ⟨fun z => absurd rfl z, fun _ => ih2⟩
  have lp3 : ∀ (K : Int32 → St → Prop) (x4 : Int32), K (nI (upP S a (2 ^ S.2.2.1.2.1.length))) u → ∀ d i, i + d = 2 ^ S.2.2.1.2.1.length → wX10_odds_70 x (nI a) (nI b) x4 K Q (d + 1) (nI (upP S a i)) (nI i) u := by
    intro K x4 hK d
    induction d with
    | zero =>
      intro i hi
      have ei : i = 2 ^ S.2.2.1.2.1.length := by omega
      unfold wX10_odds_70
      refine sX10_allMaps hRu hok ?_
      refine ⟨fun _ => ?_, fun z => absurd ((nI_ltI (by omega) (by omega)).mpr (by omega)) z⟩
      rw [ei]; exact hK
    | succ d ih =>
      intro i hi
      have ih2 := ih (i + 1) (by omega)
      unfold upP at ih2
      unfold wX10_odds_70 wX10_odds_145
      refine sX10_allMaps hRu hok ?_
      refine ⟨fun z => absurd ((nI_ltI (by omega) (by omega)).mp z) (by omega), fun _ => ?_⟩
      refine ⟨_, lp2 _ i _ _ (by omega) ?_ S.2.2.1.2.1.length 0 (by omega)⟩
      refine sX10_costOf hok hS (by omega) ?_
      have hfar := lsI_far (o := minC S (selB S i ++ dB S.2.1 S.2.2.1)) (fun m hm => minC_216 hok hm)
      have hcb : canB S i = (minC S (selB S i ++ dB S.2.1 S.2.2.1)).isSome := rfl
      rw [show nI i + (1 : Int32) = nI (i + 1) from (nI_succ _).symm]
      refine ⟨fun z => ?_, fun z => ?_⟩
      · have : canB S i = true := by
          cases hz : canB S i with
          | true => rfl
          | false => exact absurd (hfar.mpr (hcb ▸ hz)) z
        rw [this, if_pos rfl] at ih2
        rw [nI_add]
        exact ih2
      · have : canB S i = false := hcb.trans (hfar.mp z)
        rw [this, if_neg (by decide)] at ih2
        rw [show (0 : Int32) = nI 0 from rfl, nI_add]
        exact ih2
  have hup := upP_le S (x := a) (by omega) (2 ^ S.2.2.1.2.1.length)
  have hup2 : upP S a (2 ^ S.2.2.1.2.1.length) ≤ 16 * 10000 := Nat.le_trans hup (Nat.mul_le_mul (by omega) t4)
  have hgp : 0 < Nat.gcd (upP S a (2 ^ S.2.2.1.2.1.length)) (10 ^ S.2.2.1.2.1.length) := Nat.gcd_pos_of_pos_right _ t0
  have hgl : Nat.gcd (upP S a (2 ^ S.2.2.1.2.1.length)) (10 ^ S.2.2.1.2.1.length) ≤ 10 ^ S.2.2.1.2.1.length := Nat.gcd_le_right _ t0
  refine ⟨_, lp1 _ _ ⟨_, lp3 _ _ ?_ (2 ^ S.2.2.1.2.1.length) 0 (by omega)⟩ S.2.2.1.2.1.length 0 (by omega)⟩
  unfold wX10_gcd
  refine sX10_gcd _ _ (by omega) (by omega) ?_
  unfold oddsV at hq
  have hz : ¬ nI (Nat.gcd (upP S a (2 ^ S.2.2.1.2.1.length)) (10 ^ S.2.2.1.2.1.length)) = 0 := fun z => by
    have := nI_inj (b := 0) (by omega) (by omega) z
    omega
  refine ⟨fun z => ⟨hz, ?_⟩, fun z => ⟨hz, ?_⟩⟩
  · have : ¬ b = 0 := fun y => z (by rw [y]; rfl)
    rw [if_neg this] at hq
    rw [pk_div (by omega) hgp (by omega)]
    exact hq
  · have : b = 0 := nI_inj (b := 0) (by omega) (by omega) z
    rw [if_pos this] at hq
    rw [pk_div (by omega) hgp (by omega)]
    exact hq
end ASM
