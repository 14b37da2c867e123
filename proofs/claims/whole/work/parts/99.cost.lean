/-! the reference: what asking costs -/
theorem andn_0 {a b : Nat} (ha : a < 64) : andn a b = 0 ↔ ∀ j, a.testBit j = true → b.testBit j = true := by
  constructor
  · intro h j hj
    have := andn_tb (b := b) (j := j) ha
    rw [h, Nat.zero_testBit, hj, Bool.true_and] at this
    cases hb : b.testBit j with
    | true => rfl
    | false => rw [hb] at this; cases this
  · intro h
    apply Nat.eq_of_testBit_eq
    intro j
    rw [andn_tb ha, Nat.zero_testBit]
    cases hj : a.testBit j with
    | false => rfl
    | true => rw [h j hj]; rfl
def cB (S : Sp) (dl : List Nat) (k : Nat) : Option Nat := (best S.2.1 S.2.2.1.1 (pk S dl k)).map (·.1)
def coP (S : Sp) (dl : List Nat) (maps : Nat) : Nat → Option Nat
  | 0 => none
  | k + 1 => if decide (andn maps k = 0) && ltO (cB S dl k) (coP S dl maps k) then cB S dl k else coP S dl maps k
theorem coP_le {S : Sp} {dl : List Nat} {maps : Nat} : ∀ {n k m : Nat}, k < n → andn maps k = 0 → cB S dl k = some m → ∃ m2, coP S dl maps n = some m2 ∧ m2 ≤ m
  | 0, k, m, h, _, _ => by omega
  | n + 1, k, m, h, ha, hc => by
    unfold coP
    by_cases c : k = n
    · subst c
      rw [hc, decide_eq_true ha, Bool.true_and]
      cases hz : coP S dl maps k with
      | none => exact ⟨m, rfl, Nat.le_refl _⟩
      | some q =>
        show ∃ m2, (if decide (m < q) = true then some m else some q) = some m2 ∧ m2 ≤ m
        split
        · exact ⟨m, rfl, Nat.le_refl _⟩
        · rename_i z
          exact ⟨q, rfl, by rw [decide_eq_true_iff] at z; omega⟩
    · obtain ⟨m2, h1, h2⟩ := coP_le (n := n) (by omega) ha hc
      rw [h1]
      split
      · rename_i z
        rw [Bool.and_eq_true] at z
        cases hz : cB S dl n with
        | none => rw [hz] at z; cases z.2
        | some q =>
          rw [hz] at z
          have := of_decide_eq_true z.2
          exact ⟨q, rfl, by omega⟩
      · exact ⟨m2, rfl, h2⟩
theorem coP_ex {S : Sp} {dl : List Nat} {maps : Nat} : ∀ {n m : Nat}, coP S dl maps n = some m → ∃ k, k < n ∧ andn maps k = 0 ∧ cB S dl k = some m
  | 0, m, h => by cases h
  | n + 1, m, h => by
    unfold coP at h
    split at h
    · rename_i z
      rw [Bool.and_eq_true] at z
      exact ⟨n, by omega, of_decide_eq_true z.1, h⟩
    · obtain ⟨k, h1, h2⟩ := coP_ex h
      exact ⟨k, by omega, h2⟩
section CST
variable {x : Nat} {S : Sp} {s : St}
theorem sel_held {maps : Nat} (hm : maps < 64) (hmn : ∀ m, maps.testBit m = true → m < S.2.2.1.2.1.length) {M : List Nat} : (selB S maps).all (hB S.2.1 M) = true ↔ andn maps (heldP S.2.1 M S.2.2.1.2.1 S.2.2.1.2.1.length) = 0 := by
  rw [List.all_eq_true, andn_0 hm]
  constructor
  · intro h j hj
    rw [heldP_bit _ _ _ _ _ (hmn j hj)]
    exact h _ (selP_mem.mpr ⟨j, hmn j hj, hj, rfl⟩)
  · intro h b hb
    obtain ⟨m, h1, h2, h3⟩ := selP_mem.mp hb
    rw [h3, ← heldP_bit _ _ _ _ _ h1]
    exact h m h2
theorem cB_min (dl : List Nat) (k : Nat) : IsMin S.2.1.2 S.2.2.1.1 (pk S dl k) (cB S dl k) := best_min
theorem coP_min (hok : okSp S) {dl : List Nat} {maps : Nat} (hm : maps < 2 ^ S.2.2.1.2.1.length) : coP S dl maps 16 = minC S (selB S maps ++ dl) := by
  obtain ⟨-, -, o3, o4, -⟩ := id hok
  have h4 := o4.2.2.1
  have p4 := p2_le h4
  have hm64 : maps < 64 := by omega
  have hmn : ∀ m, maps.testBit m = true → m < S.2.2.1.2.1.length := fun m h => by
    rcases Nat.lt_or_ge m S.2.2.1.2.1.length with c | c
    · exact c
    · rw [Nat.testBit_lt_two_pow (Nat.lt_of_lt_of_le hm (p2_le c))] at h
      cases h
  have h1 : IsMin S.2.1.2 S.2.2.1.1 (okL S.2.1 (selB S maps ++ dl)) (minC S (selB S maps ++ dl)) := best_min
  refine IsMin.uq (p := okL S.2.1 (selB S maps ++ dl)) ?_ h1
  have hp : ∀ M, okL S.2.1 (selB S maps ++ dl) M = true ↔ pk S dl (heldP S.2.1 M S.2.2.1.2.1 S.2.2.1.2.1.length) M = true ∧ andn maps (heldP S.2.1 M S.2.2.1.2.1 S.2.2.1.2.1.length) = 0 := by
    intro M
    unfold okL pk
    rw [List.all_append, Bool.and_eq_true, sel_held hm64 hmn, beq_self_eq_true, Bool.and_true]
    exact ⟨fun z => ⟨z.2, z.1⟩, fun z => ⟨z.2, z.1⟩⟩
  refine ⟨fun M hM hk => ?_, fun m hz => ?_⟩
  · obtain ⟨a1, a2⟩ := (hp M).mp hk
    have hk16 := heldP_lt S.2.1 M S.2.2.1.2.1 S.2.2.1.2.1.length
    obtain ⟨m, m1, m2⟩ := (cB_min dl _).1 M hM a1
    obtain ⟨m3, m4, m5⟩ := coP_le (n := 16) (show heldP S.2.1 M S.2.2.1.2.1 S.2.2.1.2.1.length < 16 by omega) a2 m1
    exact ⟨m3, m4, by omega⟩
  · obtain ⟨k, k1, k2, k3⟩ := coP_ex hz
    obtain ⟨M, M1, M2, M3⟩ := (cB_min dl k).2 m k3
    refine ⟨M, M1, (hp M).mpr ?_, M3⟩
    have e : heldP S.2.1 M S.2.2.1.2.1 S.2.2.1.2.1.length = k := by
      unfold pk at M2
      rw [Bool.and_eq_true, beq_iff_eq] at M2
      exact M2.2
    rw [e]
    exact ⟨M2, k2⟩
theorem lsI_lt {a b : Option Nat} (ha : ∀ m, a = some m → m ≤ 216) (hb : ∀ m, b = some m → m ≤ 216) : lsI a ≤ lsI b ↔ ltO b a = false := by
  cases a with
  | none =>
    cases b with
    | none => exact ⟨fun _ => rfl, fun _ => Int32.le_refl _⟩
    | some q =>
      have := hb q rfl
      constructor
      · intro h
        have := (nI_leI (a := 1000000) (by omega) (by omega)).mp h
        omega
      · intro h; cases h
  | some p =>
    have := ha p rfl
    cases b with
    | none =>
      constructor
      · intro _; rfl
      · intro _
        exact (nI_leI (b := 1000000) (by omega) (by omega)).mpr (by omega)
    | some q =>
      have := hb q rfl
      show nI p ≤ nI q ↔ decide (q < p) = false
      rw [nI_leI (by omega) (by omega), decide_eq_false_iff_not]
      omega
theorem cB_216 (hok : okSp S) {dl : List Nat} {k m : Nat} (h : cB S dl k = some m) : m ≤ 216 := by
  unfold cB at h
  rw [best_P] at h
  cases hz : bestP S.2.1 S.2.2.1.1 (pk S dl k) (allL S.2.1.2.length) with
  | none => rw [hz] at h; cases h
  | some q =>
    rw [hz] at h
    cases h
    exact best_216 hok (fun M hM => hM) q hz
theorem sX10_costOf {dl : List Nat} {maps : Nat} {Q : Int32 → St → Prop} (hok : okSp S) (hS : ScM x S dl (allL S.2.1.2.length) s) (hm : maps < 2 ^ S.2.2.1.2.1.length) (hQ : Q (lsI (minC S (selB S maps ++ dl))) s) : wX10_costOf x (nI maps) s Q := by
  obtain ⟨-, -, o3, o4, -⟩ := id hok
  have h4 := o4.2.2.1
  have p4 := p2_le h4
  have key : ∀ d k, k + d = 16 → wX10_costOf_5 x (nI maps) Q (d + 1) (lsI (coP S dl maps k)) (nI k) s := by
    intro d
    induction d with
    | zero =>
      intro k hk
      have ek : k = 16 := by omega
      subst ek
      unfold wX10_costOf_5
      rw [coP_min hok hm]
      exact ⟨fun _ => hQ, fun z => absurd (Int32.le_refl _) z⟩
    | succ d ih =>
      intro k hk
      have ih2 := ih (k + 1) (by omega)
      unfold coP at ih2
      have e20 : s.1 (x + 20) k = lsI (cB S dl k) := hS.1 k (by omega)
      have eand : nI maps &&& (nI k ^^^ (-1 : Int32)) = nI (andn maps k) := andnI (by omega) (by omega)
      have hal : andn maps k < 64 := andn_lt (by omega)
      have hlt := lsI_lt (a := coP S dl maps k) (b := cB S dl k) (fun m hm' => by
        obtain ⟨k', -, -, h3⟩ := coP_ex hm'
        exact cB_216 hok h3) (fun m hm' => cB_216 hok hm')
      unfold wX10_costOf_5 wX10_costOf_38 wX10_costOf_39
      rw [eand, nI_clamp (show k < 2 ^ 31 by omega), e20, show nI k + (1 : Int32) = nI (k + 1) from (nI_succ _).symm]
      refine ⟨fun z => absurd ((nI_leI (a := 16) (by omega) (by omega)).mp z) (by omega), fun _ => ⟨fun c => ?_, fun c => ?_⟩⟩
      · have c' : ¬ andn maps k = 0 := fun z => c (by rw [z]; rfl)
        rw [decide_eq_false c', Bool.false_and] at ih2
        exact ih2
      · have c' : andn maps k = 0 := nI_inj (b := 0) (by omega) (by omega) c
        rw [decide_eq_true c', Bool.true_and] at ih2
        refine ⟨vp_in_nI (by omega) (by omega), fun z => ?_, fun z => ⟨vp_in_nI (by omega) (by omega), ?_⟩⟩
        · rw [hlt.mp z] at ih2
          exact ih2
        · have : ltO (cB S dl k) (coP S dl maps k) = true := by
            cases hz : ltO (cB S dl k) (coP S dl maps k) with
            | true => rfl
            | false => exact absurd (hlt.mpr hz) z
          rw [this] at ih2
          exact ih2
  unfold wX10_costOf
  exact ⟨_, key 16 0 (by omega)⟩
theorem sX10_dsc {Q : St → Prop} (h : RM x S s) (hok : okSp S) (hQ : ∀ u, RM x S u → Fr (fun k => x ≤ k) s u → ScM x S (dB S.2.1 S.2.2.1) (allL S.2.1.2.length) u → Q u) : wX10_draftLanes x s (fun r t => wX10_scans x r t Q) := by
  obtain ⟨-, -, o3, o4, -⟩ := id hok
  have h5 : S.2.2.1.2.2.1.length ≤ 5 := o4.2.2.2.2.1.2.1
  have e36 : s.1 (x + 7) ((36 : Int32).toNatClampNeg) = nI S.2.2.1.2.2.1.length := h.2.2.1.2.2.2.2.1
  unfold wX10_draftLanes
  refine ⟨vp_in_nI (n := 36) (by omega) (by omega), ?_⟩
  rw [e36]
  refine ⟨fun c => ⟨vp_in_nI (n := 36) (by omega) (by omega), ?_⟩, fun c => ?_⟩
  · have c' : 2 ≤ S.2.2.1.2.2.1.length := (nI_leI (a := 2) (by omega) (by omega)).mp c
    have hr31 : rowAt (s.1 (x + 7)) 31 S.2.2.1.2.2.1 := by
      have := h.2.2.1.2.2.2.1
      rw [Nat.zero_add] at this
      exact this
    refine sX10_lanesOf (o := 31) h.2.1 o3 hr31 (by omega) o4.2.2.2.2.1 ?_
    have hde : dB S.2.1 S.2.2.1 = [bitsOf S.2.1.2 S.2.2.1.2.2.1] := by
      unfold dB
      rw [if_neg (by omega)]
    refine sX10_scans h hok (Or.inr ⟨hde, ?_⟩) hQ
    have := way_some o4.2.2.2.2.1 c'
    unfold endsN
    cases hz : wayIx S.2.1 (bitsOf S.2.1.2 S.2.2.1.2.2.1) with
    | none => rw [hz] at this; cases this
    | some i => exact Nat.succ_ne_zero _
  · have c' : S.2.2.1.2.2.1.length < 2 := by
      rcases Nat.lt_or_ge S.2.2.1.2.2.1.length 2 with z | z
      · exact z
      · exact absurd ((nI_leI (a := 2) (by omega) (by omega)).mpr z) c
    have hde : dB S.2.1 S.2.2.1 = [] := by
      unfold dB
      rw [if_pos c']
    exact sX10_scans (b := 0) h hok (Or.inl ⟨rfl, hde⟩) hQ
theorem pk_all {dl M : List Nat} : pk S dl (2 ^ S.2.2.1.2.1.length - 1) M = okL S.2.1 (dl ++ mapB S.2.1 S.2.2.1) M := by
  unfold pk okL
  rw [List.all_append]
  congr 1
  rw [Bool.eq_iff_iff, beq_iff_eq, List.all_eq_true]
  have hk := heldP_lt S.2.1 M S.2.2.1.2.1 S.2.2.1.2.1.length
  constructor
  · intro h b hb
    unfold mapB at hb
    obtain ⟨w, hw, rfl⟩ := List.mem_map.mp hb
    obtain ⟨m, hm⟩ := List.getElem?_of_mem hw
    have hml := (List.getElem?_eq_some_iff.mp hm).1
    have := heldP_bit S.2.1 M S.2.2.1.2.1 m _ hml
    rw [h, Nat.testBit_two_pow_sub_one, decide_eq_true hml] at this
    have ew : S.2.2.1.2.1.getD m [] = w := by rw [List.getD_eq_getElem?_getD, hm]; rfl
    rw [ew] at this
    exact this.symm
  · intro h
    apply Nat.eq_of_testBit_eq
    intro m
    rw [Nat.testBit_two_pow_sub_one]
    by_cases c : m < S.2.2.1.2.1.length
    · rw [heldP_bit _ _ _ _ _ c, decide_eq_true c]
      refine h _ ?_
      unfold mapB
      exact List.mem_map.mpr ⟨_, List.mem_of_getElem? (map_get c), rfl⟩
    · rw [decide_eq_false c]
      exact Nat.testBit_lt_two_pow (Nat.lt_of_lt_of_le hk (p2_le (by omega)))
theorem ask_P : ask S.2.1 S.2.2.1 = bestP S.2.1 S.2.2.1.1 (pk S (dB S.2.1 S.2.2.1) (2 ^ S.2.2.1.2.1.length - 1)) (allL S.2.1.2.length) := by
  unfold ask
  rw [best_P]
  exact (bestP_cg _ _ (fun M _ => pk_all)).symm
theorem ask_216 (hok : okSp S) {q : Nat × List Nat} (h : ask S.2.1 S.2.2.1 = some q) : q.1 ≤ 216 := by
  rw [ask_P] at h
  exact best_216 hok (fun M hM => hM) q h
/-- the cost of what is asked now -/
theorem sX10_askC {Q : Int32 → St → Prop} (h : RM x S s) (hok : okSp S) (hS : ScM x S (dB S.2.1 S.2.2.1) (allL S.2.1.2.length) s) (hQ : Q (lsI ((ask S.2.1 S.2.2.1).map (·.1))) s) : wX10_allMaps x s (fun r t => wX10_costOf x r t Q) := by
  refine sX10_allMaps h hok ?_
  refine sX10_costOf hok hS (by have := Nat.two_pow_pos S.2.2.1.2.1.length; omega) ?_
  rw [selB_all, minC_ask]
  exact hQ
theorem kX10_asking {v : Int32} {Q : Int32 → St → Prop} (h : RM x S s) (hok : okSp S) (hQ : ∀ t, RM x S t → Fr (fun k => x ≤ k) s t → Q (cAsking S v) t) : wX10_asking x v s Q := by
  obtain ⟨-, -, o3, o4, -⟩ := id hok
  have l6 := o3.2.2.1
  unfold cAsking at hQ
  unfold wX10_asking
  refine thM h (fun s' h' hf => ?_)
  have main : ∀ (R : Int32), (v = -1 → R = costO (ask S.2.1 S.2.2.1)) → (v ≠ -1 → ∃ l, l < S.2.1.2.length ∧ v = nI l ∧ R = (match ask S.2.1 S.2.2.1 with | none => -9 | some q => nI (q.2.getD l 0))) → (∀ t, RM x S t → Fr (fun k => x ≤ k) s t → Q R t) → wX10_asking_20 Q x v s' := by
    intro R hR1 hR2 hQR
    unfold wX10_asking_20
    refine sX10_dsc h' hok (fun u hRu hfu hS => ?_)
    refine sX10_askC hRu hok hS ?_
    have q := hQR u hRu (hf.tr hfu)
    cases hz : ask S.2.1 S.2.2.1 with
    | none =>
      rw [hz] at hR1 hR2
      refine ⟨fun z => absurd rfl z, fun _ => ?_⟩
      by_cases c : v = -1
      · rw [hR1 c] at q; exact q
      · obtain ⟨l, -, -, h3⟩ := hR2 c
        rw [h3] at q; exact q
    | some z =>
      have hz216 := ask_216 hok hz
      rw [hz] at hR1 hR2
      refine ⟨fun _ => ⟨fun c => ?_, fun c => ?_⟩, fun y => ?_⟩
      · obtain ⟨l, l1, l2, l3⟩ := hR2 c
        rw [l3] at q
        have hrow := hS.2.1 z (by rw [← ask_P]; exact hz)
        rw [ask_P] at hz
        have hlen : z.2.length = S.2.1.2.length := (allL_in.mp (bestP_ex hz).1).1
        have := hrow l _ (getD_get (show l < z.2.length by omega))
        rw [Nat.zero_add] at this
        rw [l2, nI_clamp (by omega), this]
        exact ⟨vp_in_nI (by omega) (by omega), q⟩
      · rw [hR1 c] at q; exact q
      · have := nI_inj (a := z.1) (b := 1000000) (by omega) (by omega) y
        omega
  refine ⟨fun c => ?_, fun c => ?_⟩
  · rw [if_pos c] at hQ
    exact main _ (fun _ => rfl) (fun z => absurd c z) hQ
  · rw [if_neg c] at hQ
    refine sX10_isLane h'.2.1 l6 (fun hx => ⟨fun z => absurd rfl z, fun _ => ?_⟩) (fun l hx => ⟨fun _ => ?_, fun z => absurd z (by decide)⟩)
    · rw [hx] at hQ; exact hQ s' h' hf
    · rw [hx] at hQ
      obtain ⟨hl, rfl⟩ := num_lt (by omega) hx
      exact main _ (fun z => absurd z c) (fun _ => ⟨l, hl, rfl, rfl⟩) hQ
end CST
