/-! the reference: ways that hold; now, map, far, by -/
theorem nF_range (f : Nat → Bool) : ∀ n, nF f n = (List.range n).countP f
  | 0 => rfl
  | n + 1 => by
    rw [List.range_succ, List.countP_append, ← nF_range f n, List.countP_singleton]
    rfl
theorem sets_perm {la : Land} (h : okLand la) : (setsL la).Perm ((waysL la).map (bitsOf la.2)) := by
  have d1 : (setsL la).Nodup := by
    unfold setsL List.Nodup
    exact List.Pairwise.filter _ List.nodup_range
  have d2 : ((waysL la).map (bitsOf la.2)).Nodup := by
    unfold List.Nodup
    rw [List.pairwise_map, List.pairwise_iff_getElem]
    intro i j hi hj hij e
    have e1 : wB la i = wB la j := by
      unfold wB
      rw [List.getD_eq_getElem?_getD, List.getD_eq_getElem?_getD, List.getElem?_eq_getElem hi, List.getElem?_eq_getElem hj]
      exact e
    have h1 := ways_ix h hi
    rw [e1, ways_ix h hj] at h1
    have := Option.some.inj h1
    omega
  rw [List.perm_ext_iff_of_nodup d1 d2]
  intro b
  rw [sets_mem, List.mem_map]
  constructor
  · rintro ⟨h1, h2⟩
    obtain ⟨i, i1, -, i3, -⟩ := ends_inv h2
    exact ⟨_, way_mem i1, i3⟩
  · rintro ⟨w, hw, rfl⟩
    obtain ⟨i, hi⟩ := List.getElem?_of_mem hw
    have hi2 := (List.getElem?_eq_some_iff.mp hi).1
    have e : wB la i = bitsOf la.2 w := by
      unfold wB
      rw [List.getD_eq_getElem?_getD, hi]
      rfl
    rw [← e]
    exact ⟨wB_lt h i, by rw [ends_way h hi2]; omega⟩
/-- the same number of sets as of ways -/
theorem sets_cnt {la : Land} (h : okLand la) (P : Nat → Bool) : nF (fun b => endsN la b != 0 && P b) 64 = nF (fun i => P (wB la i)) (waysL la).length := by
  have e1 : nF (fun b => endsN la b != 0 && P b) 64 = (setsL la).countP P := by
    rw [nF_range]
    unfold setsL
    rw [List.countP_filter]
    refine List.countP_congr (fun b _ => ?_)
    rw [Bool.and_comm]
  rw [e1, (sets_perm h).countP_eq P, List.countP_map]
  have := nF_countP [] (P ∘ bitsOf la.2) (waysL la) _ (Nat.le_refl _)
  rw [List.take_length] at this
  exact this.symm
theorem wB_pos {la : Land} {i : Nat} (hi : i < (waysL la).length) : 1 ≤ wB la i := by
  rcases Nat.eq_zero_or_pos (wB la i) with z | z
  · exfalso
    obtain ⟨r1, r2, r3⟩ := ways_row (way_mem hi)
    have hj2 := r1.2.2.1 0 (by omega)
    cases hl : lnB la.2 (((waysL la).getD i []).getD 0 0) (((waysL la).getD i []).getD (0 + 1) 0) with
    | none => rw [hl] at hj2; cases hj2
    | some l =>
      have := (bits_tb (ls := la.2) (w := (waysL la).getD i []) (l := l)).mpr ⟨0, by omega, hl⟩
      rw [show bitsOf la.2 ((waysL la).getD i []) = 0 from z] at this
      simp at this
  · exact z
theorem ends_0 {la : Land} : endsN la 0 = 0 := by
  by_cases c : endsN la 0 = 0
  · exact c
  · obtain ⟨i, i1, -, i3, -⟩ := ends_inv c
    have := wB_pos i1
    omega
theorem ends_ge {la : Land} {b : Nat} (h : 2 ^ la.2.length ≤ b) : endsN la b = 0 := by
  by_cases c : endsN la b = 0
  · exact c
  · obtain ⟨i, i1, -, i3, -⟩ := ends_inv c
    have := wB_n (la := la) i
    omega
section HDS
variable {x : Nat} {S : Sp} {s : St} {la : Land} {L : List Nat}
theorem sX10_holds {b : Nat} {Q : Int32 → St → Prop} (h3 : okLand la) (hW : WaysM x la s) (hM : MeasM x la L s) (hL5 : ∀ y ∈ L, y ≤ 5) (hl : L.length ≤ 6) (hb : endsN la b ≠ 0) (hQ : Q (if hB la L b then 1 else 0) s) : wX10_holds x (nI b) s Q := by
  obtain ⟨i, i1, i2, i3, i4⟩ := ends_inv hb
  have hb1 : 1 ≤ b := by rw [← i3]; exact wB_pos i1
  have hb2 : b < 64 := by rw [← i3]; exact wB_lt h3 i
  have hb3 : b < 2 ^ la.2.length := by rw [← i3]; exact wB_n i
  have hel := ends_lt h3 b
  have e13 := (hW.1 b hb1 hb2).1
  have e14 := hM.1 b hb3
  have e18 := hM.2 _ hel
  have hBe : hB la L b = decide (lsL la L (endK ((waysL la).getD i [])) = some (lenOf L b)) := by
    unfold hB
    rw [i2]
    show shB la L ((waysL la).getD i []) = _
    unfold shB
    rw [show bitsOf la.2 ((waysL la).getD i []) = b from i3]
  rw [hBe] at hQ
  unfold wX10_holds
  rw [nI_clamp (show b < 2 ^ 31 by omega), e13, nI_clamp (show endsN la b < 2 ^ 31 by omega), e14, e18, i4, lm_eq h3]
  refine ⟨vp_in_nI (by omega) (by omega), vp_in_nI (by omega) (by omega), vp_in_nI (by omega) (by omega), fun c => ?_, fun c => ?_⟩
  · rw [decide_eq_false (fun z => c (by rw [z]; rfl))] at hQ
    exact hQ
  · have hle := lenOf_le hL5 hl b
    have : lsL la L (endK ((waysL la).getD i [])) = some (lenOf L b) := by
      cases hz : lsL la L (endK ((waysL la).getD i [])) with
      | none =>
        rw [hz] at c
        have := nI_inj (b := 1000000) (by omega) (by omega) c
        omega
      | some m =>
        rw [hz] at c
        have hm := lsP_le hL5 hl hz
        have := nI_inj (b := m) (by omega) (by omega) c
        rw [this]
    rw [decide_eq_true this] at hQ
    exact hQ
theorem RM.meas {u : St} (h : RM x S s) (hf : Fr (fun k => k = x + 14 ∨ k = x + 18) s u) (hM : MeasM x S.2.1 L u) : RM x S u := by
  refine h.cg (by rw [hf.1 x (by omega)]) (by rw [hf.1 x (by omega)]) (by rw [hf.1 x (by omega)]) (by rw [hf.1 x (by omega)]) (fun c hc => hf.1 _ (by simp at hc; omega)) ?_ (by rw [hf.2])
  rw [hM.1 0 (Nat.two_pow_pos _), lenOf_0, h.2.2.2.2.2.2.1.2.2.2]
  rfl
theorem sX10_ms {Q : St → Prop} (h : RM x S s) (hok : okSp S) (hQ : ∀ u, RM x S u → Fr (fun k => x ≤ k) s u → MeasM x S.2.1 S.2.2.1.1 u → Q u) : wX10_measures x (x + 7) 38 s Q := by
  obtain ⟨-, -, o3, o4, -⟩ := id hok
  refine sX10_measures o3 ⟨by omega, by omega⟩ (by omega) (by omega) h.2.1.2.1 h.2.2.2.2.2.2.1 o4.1 o4.L5 h.2.2.1.1 (fun u hf hM => ?_)
  exact hQ u (h.meas hf hM) (hf.wk (by intro k; omega)) hM
/-- a map's lanes are a way -/
theorem map_ends (hok : okSp S) {m : Nat} (hm : m < S.2.2.1.2.1.length) : endsN S.2.1 (bitsOf S.2.1.2 (S.2.2.1.2.1.getD m [])) ≠ 0 := by
  obtain ⟨-, -, o3, o4, -⟩ := id hok
  have hr := o4.2.2.2.1 _ (List.mem_of_getElem? (map_get hm))
  have := way_some hr.1 hr.2
  unfold endsN
  cases hz : wayIx S.2.1 (bitsOf S.2.1.2 (S.2.2.1.2.1.getD m [])) with
  | none => rw [hz] at this; cases this
  | some i => exact Nat.succ_ne_zero _
theorem sX10_hm {b : Nat} {Q : Int32 → St → Prop} (h : RM x S s) (hok : okSp S) (hM : MeasM x S.2.1 S.2.2.1.1 s) (hb : endsN S.2.1 b ≠ 0) (hQ : Q (if hB S.2.1 S.2.2.1.1 b then 1 else 0) s) : wX10_holds x (nI b) s Q := by
  obtain ⟨-, -, o3, o4, -⟩ := id hok
  have l6 := o3.2.2.1
  exact sX10_holds o3 h.2.2.2.2.2.2.1 hM o4.L5 (by rw [o4.1]; exact l6) hb hQ
theorem kX10_map {v y : Int32} {Q : Int32 → St → Prop} (h : RM x S s) (hok : okSp S) (hQ : ∀ t, RM x S t → Fr (fun k => x ≤ k) s t → Q (cMap S v y) t) : wX10_map x v y s Q := by
  obtain ⟨-, -, o3, o4, -⟩ := id hok
  have l6 := o3.2.2.1
  have h4 := o4.2.2.1
  unfold cMap at hQ
  unfold wX10_map
  refine thM h (fun s' h' hf => ?_)
  refine sX10_isMap h'.2.2.1 h4 (fun hx => ⟨fun _ => ?_, fun z => absurd rfl z⟩) (fun m hx => ⟨fun z => absurd z (by decide), fun _ => ?_⟩)
  · rw [hx] at hQ; exact hQ s' h' hf
  rw [hx] at hQ
  obtain ⟨hm, rfl⟩ := num_lt (by omega) hx
  dsimp only at hQ
  refine sX10_in (n := 3) (by rfl) (by omega) (fun hy => ⟨fun z => absurd rfl z, fun _ => ?_⟩) (fun k hy => ⟨fun _ => ?_, fun z => absurd z (by decide)⟩)
  · have n0 : y ≠ 0 := fun z => by rw [z] at hy; cases hy
    have n1 : y ≠ 1 := fun z => by rw [z] at hy; cases hy
    have n2 : y ≠ 2 := fun z => by rw [z] at hy; cases hy
    rw [if_neg n0, if_neg n1, if_neg n2] at hQ
    exact hQ s' h' hf
  · refine sX10_ms h' hok (fun u hR hfu hM => ?_)
    have q := hQ u hR (hf.tr hfu)
    refine ⟨fun n0 => ⟨fun n1 => ?_, fun n1 => ?_⟩, fun n0 => ?_⟩
    · rw [if_neg n0, if_neg n1] at q
      have n2 : y = 2 := by
        obtain ⟨hk, rfl⟩ := num_lt (by omega) hy
        have : k ≠ 0 := fun z => n0 (by rw [z]; rfl)
        have : k ≠ 1 := fun z => n1 (by rw [z]; rfl)
        have : k = 2 := by omega
        rw [this]; rfl
      rw [if_pos n2] at q
      refine sX10_mapLanes hR.2.1 o3 hR.2.2.1 o4 hm ?_
      refine sX10_hm hR hok hM (map_ends hok hm) ?_
      cases hz : hB S.2.1 S.2.2.1.1 (bitsOf S.2.1.2 (S.2.2.1.2.1.getD m [])) with
      | false =>
        rw [hz] at q
        exact ⟨fun _ => q, fun z => absurd rfl z⟩
      | true =>
        rw [hz] at q
        exact ⟨fun z => absurd z (show ¬ (1 : Int32) = 0 by decide), fun _ => q⟩
    · rw [if_neg n0, if_pos n1] at q
      refine sX10_mapLanes hR.2.1 o3 hR.2.2.1 o4 hm ?_
      obtain ⟨i, i1, -, i3, -⟩ := ends_inv (map_ends hok hm)
      have hb1 : bitsOf S.2.1.2 (S.2.2.1.2.1.getD m []) < 64 := by rw [← i3]; exact wB_lt o3 i
      have hb2 : bitsOf S.2.1.2 (S.2.2.1.2.1.getD m []) < 2 ^ S.2.1.2.length := by rw [← i3]; exact wB_n i
      refine ⟨vp_in_nI (by omega) (by omega), ?_⟩
      rw [nI_clamp (by omega), hM.1 _ hb2]
      exact q
    · rw [if_pos n0] at q
      have e7 : u.1 (x + 7) (7 + m) = nI (S.2.2.1.2.1.getD m []).length := by
        have := (hR.2.2.1.2.2.1 m _ (map_get hm)).1
        rw [Nat.zero_add] at this
        exact this
      rw [show (7 : Int32) = nI 7 from rfl, nI_add, nI_clamp (by omega), e7]
      exact ⟨vp_in_nI (by omega) (by omega), q⟩
theorem kX10_now {v : Int32} {Q : Int32 → St → Prop} (h : RM x S s) (hok : okSp S) (hQ : ∀ t, RM x S t → Fr (fun k => x ≤ k) s t → Q (cNow S v) t) : wX10_now x v s Q := by
  obtain ⟨-, -, o3, o4, -⟩ := id hok
  have l6 := o3.2.2.1
  have h4 := o4.2.2.1
  unfold cNow at hQ
  unfold wX10_now
  refine thM h (fun s' h' hf => ?_)
  refine sX10_in (n := 4) (by rfl) (by omega) (fun hy => ⟨fun z => absurd rfl z, fun _ => ?_⟩) (fun k hy => ⟨fun _ => ?_, fun z => absurd z (by decide)⟩)
  · have n0 : v ≠ 0 := fun z => by rw [z] at hy; cases hy
    have n1 : v ≠ 1 := fun z => by rw [z] at hy; cases hy
    have n2 : v ≠ 2 := fun z => by rw [z] at hy; cases hy
    have n3 : v ≠ 3 := fun z => by rw [z] at hy; cases hy
    rw [if_neg n0, if_neg n1, if_neg n2, if_neg n3] at hQ
    exact hQ s' h' hf
  · refine sX10_ms h' hok (fun u hR hfu hM => ?_)
    have q := hQ u hR (hf.tr hfu)
    have e6 : u.1 (x + 7) ((6 : Int32).toNatClampNeg) = nI S.2.2.1.2.1.length := hR.2.2.1.2.1
    have key : ∀ (K : Int32 → St → Prop), K (nI (heldM S)) u → ∀ d m, m + d = S.2.2.1.2.1.length → wX10_now_28 x v K Q (d + 1) (nI (heldP S.2.1 S.2.2.1.1 S.2.2.1.2.1 m)) (nI m) u := by
      intro K hK d
      induction d with
      | zero =>
        intro m hm
        have em : m = S.2.2.1.2.1.length := by omega
        subst em
        unfold wX10_now_28
        refine ⟨vp_in_nI (n := 6) (by omega) (by omega), ?_⟩
        rw [e6]
        exact ⟨fun _ => hK, fun z => absurd (Int32.le_refl _) z⟩
      | succ d ih =>
        intro m hm
        have hm2 : m < S.2.2.1.2.1.length := by omega
        have ih2 := ih (m + 1) (by omega)
        unfold heldP at ih2
        unfold wX10_now_28 wX10_now_59
        refine ⟨vp_in_nI (n := 6) (by omega) (by omega), ?_⟩
        rw [e6, show nI m + (1 : Int32) = nI (m + 1) from (nI_succ _).symm]
        refine ⟨fun z => absurd ((nI_leI (by omega) (by omega)).mp z) (by omega), fun _ => ?_⟩
        refine sX10_mapLanes hR.2.1 o3 hR.2.2.1 o4 hm2 ?_
        refine sX10_hm hR hok hM (map_ends hok hm2) ?_
        cases hz : hB S.2.1 S.2.2.1.1 (bitsOf S.2.1.2 (S.2.2.1.2.1.getD m [])) with
        | false =>
          rw [hz, if_neg (by decide), Nat.or_zero] at ih2
          refine ⟨fun _ => ?_, fun z => absurd rfl z⟩
          rw [show (0 : Int32) = nI 0 from rfl, fa_or, Nat.or_zero]
          exact ih2
        | true =>
          rw [hz, if_pos rfl] at ih2
          refine ⟨fun z => absurd z (show ¬ (1 : Int32) = 0 by decide), fun _ => ?_⟩
          rw [show (1 : Int32) = nI 1 from rfl, show (31 : Int32) = nI 31 from rfl, fa_and, shl1 (by omega), fa_or]
          exact ih2
    refine ⟨_, key _ ?_ S.2.2.1.2.1.length 0 (by omega)⟩
    refine ⟨fun n0 => ⟨fun n1 => ⟨fun n2 => ?_, fun n2 => ?_⟩, fun n1 => ?_⟩, fun n0 => ?_⟩
    · rw [if_neg n0, if_neg n1, if_neg n2] at q
      have n3 : v = 3 := by
        obtain ⟨hk, rfl⟩ := num_lt (by omega) hy
        have : k ≠ 0 := fun z => n0 (by rw [z]; rfl)
        have : k ≠ 1 := fun z => n1 (by rw [z]; rfl)
        have : k ≠ 2 := fun z => n2 (by rw [z]; rfl)
        have : k = 3 := by omega
        rw [this]; rfl
      rw [if_pos n3] at q
      rw [hR.2.2.2.1.1]
      exact q
    · rw [if_neg n0, if_neg n1, if_pos n2] at q
      rw [show u.1 (x + 7) ((37 : Int32).toNatClampNeg) = nI S.2.2.1.2.2.2 from hR.2.2.1.2.2.2.2.2]
      exact ⟨vp_in_nI (n := 37) (by omega) (by omega), q⟩
    · rw [if_neg n0, if_pos n1] at q
      rw [show u.1 (x + 7) ((36 : Int32).toNatClampNeg) = nI S.2.2.1.2.2.1.length from hR.2.2.1.2.2.2.2.1]
      exact ⟨vp_in_nI (n := 36) (by omega) (by omega), q⟩
    · rw [if_pos n0] at q
      exact q
theorem sX10_endsBetween {a b : Nat} {Q : Int32 → St → Prop} (ha : a < 5) (hb : b < 5) (hne : a ≠ b) (hQ : Q (nI (endsK a b + 1)) s) : wX10_endsBetween (nI a) (nI b) s Q := by
  unfold endsK at hQ
  unfold wX10_endsBetween
  rw [show (5 : Int32) = nI 5 from rfl, show (1 : Int32) = nI 1 from rfl, pk_mul, pk_mul, nI_add, nI_add, nI_add, nI_add]
  refine ⟨fun c => ?_, fun c => ?_⟩
  · have c' := (nI_leI (by omega) (by omega)).mp c
    rw [if_neg (by omega), Nat.mul_comm b 5] at hQ
    exact hQ
  · have c' : a < b := by
      rcases Nat.lt_or_ge a b with y | y
      · exact y
      · exact absurd ((nI_leI (by omega) (by omega)).mpr y) c
    rw [if_pos c', Nat.mul_comm a 5] at hQ
    exact hQ
theorem endsK_lt {a b : Nat} (ha : a < 5) (hb : b < 5) : endsK a b < 25 := by unfold endsK; split <;> omega
theorem kX10_far {v y : Int32} {Q : Int32 → St → Prop} (h : RM x S s) (hok : okSp S) (hQ : ∀ t, RM x S t → Fr (fun k => x ≤ k) s t → Q (cFar S v y) t) : wX10_far x v y s Q := by
  obtain ⟨-, -, o3, o4, -⟩ := id hok
  have l6 := o3.2.2.1
  have p5 := o3.2.1
  unfold cFar at hQ
  unfold wX10_far
  refine thM h (fun s' h' hf => ?_)
  refine sX10_isPlace h'.2.1 p5 (fun hx => ⟨fun _ => ?_, fun z => absurd rfl z⟩) (fun a hx => ⟨fun z => absurd z (by decide), fun _ => ?_⟩)
  · rw [hx] at hQ; exact hQ s' h' hf
  rw [hx] at hQ
  refine sX10_isPlace h'.2.1 p5 (fun hy => ⟨fun z => absurd rfl z, fun _ => ?_⟩) (fun b hy => ⟨fun _ => ?_, fun z => absurd z (by decide)⟩)
  · rw [hy] at hQ; exact hQ s' h' hf
  rw [hy] at hQ
  obtain ⟨ha, rfl⟩ := num_lt (by omega) hx
  obtain ⟨hb, rfl⟩ := num_lt (by omega) hy
  dsimp only at hQ
  refine sX10_ms h' hok (fun u hR hfu hM => ?_)
  have q := hQ u hR (hf.tr hfu)
  refine ⟨fun c => ?_, fun c => ?_⟩
  · have hne : a ≠ b := fun z => c (by rw [z])
    rw [if_neg hne] at q
    have hk := endsK_lt (show a < 5 by omega) (show b < 5 by omega)
    have e18 := hM.2 (endsK a b + 1) (by omega)
    rw [lm_eq o3] at e18
    refine sX10_endsBetween (by omega) (by omega) hne ⟨vp_in_nI (by omega) (by omega), ?_⟩
    rw [nI_clamp (by omega), e18]
    cases hz : lsL S.2.1 S.2.2.1.1 (endsK a b) with
    | none =>
      rw [hz] at q
      exact ⟨fun z => absurd rfl z, fun _ => q⟩
    | some m =>
      rw [hz] at q e18
      have hm := lsP_le o4.L5 (by rw [o4.1]; exact l6) hz
      refine ⟨fun _ => sX10_endsBetween (by omega) (by omega) hne ⟨vp_in_nI (by omega) (by omega), ?_⟩, fun z => ?_⟩
      · rw [nI_clamp (by omega), e18]
        exact q
      · have := nI_inj (a := m) (b := 1000000) (by omega) (by omega) z
        omega
  · have hne : a = b := nI_inj (by omega) (by omega) c
    rw [if_pos hne] at q
    exact q
theorem by_sum (h3 : okLand la) {k : Nat} : nF (fun b => endsN la b == k + 1 && hB la L b) 64 = byW la L k (waysL la).length := by
  have e1 : nF (fun b => endsN la b == k + 1 && hB la L b) 64 = nF (fun b => endsN la b != 0 && (endsN la b == k + 1 && hB la L b)) 64 := by
    rw [nF_range, nF_range]
    refine List.countP_congr (fun b _ => ?_)
    simp
    intro e
    omega
  rw [e1, sets_cnt h3]
  have e2 : ∀ n, n ≤ (waysL la).length → nF (fun i => endsN la (wB la i) == k + 1 && hB la L (wB la i)) n = byW la L k n := by
    intro n
    induction n with
    | zero => intro _; rfl
    | succ n ih =>
      intro hn
      unfold nF byW
      rw [ih (by omega), ends_way h3 (by omega)]
      congr 1
      unfold hB
      rw [ways_ix h3 (by omega)]
      dsimp only
      by_cases c : endK ((waysL la).getD n []) = k
      · rw [c]
        simp
      · rw [if_neg (fun z => by rw [Bool.and_eq_true, beq_iff_eq] at z; omega), if_neg (fun z => c z.1)]
  exact e2 _ (Nat.le_refl _)
theorem kX10_by {v y : Int32} {Q : Int32 → St → Prop} (h : RM x S s) (hok : okSp S) (hQ : ∀ t, RM x S t → Fr (fun k => x ≤ k) s t → Q (cBy S v y) t) : wX10_by x v y s Q := by
  obtain ⟨-, -, o3, o4, -⟩ := id hok
  have l6 := o3.2.2.1
  have p5 := o3.2.1
  unfold cBy at hQ
  unfold wX10_by
  refine thM h (fun s' h' hf => ?_)
  refine sX10_isPlace h'.2.1 p5 (fun hx => ⟨fun _ => ?_, fun z => absurd rfl z⟩) (fun a hx => ⟨fun z => absurd z (by decide), fun _ => ?_⟩)
  · rw [hx] at hQ; exact hQ s' h' hf
  rw [hx] at hQ
  refine sX10_isPlace h'.2.1 p5 (fun hy => ⟨fun _ => ?_, fun z => absurd rfl z⟩) (fun b hy => ⟨fun z => absurd z (by decide), fun _ => ?_⟩)
  · rw [hy] at hQ; exact hQ s' h' hf
  rw [hy] at hQ
  obtain ⟨ha, rfl⟩ := num_lt (by omega) hx
  obtain ⟨hb, rfl⟩ := num_lt (by omega) hy
  dsimp only at hQ
  refine ⟨fun c => ?_, fun c => ?_⟩
  · have hne : a ≠ b := fun z => c (by rw [z])
    rw [if_neg hne] at hQ
    refine sX10_ms h' hok (fun u hR hfu hM => ?_)
    have q := hQ u hR (hf.tr hfu)
    rw [← by_sum o3] at q
    have hk := endsK_lt (show a < 5 by omega) (show b < 5 by omega)
    generalize hkk : endsK a b = kk at q hk
    have key : ∀ d n, n + d = 64 → 1 ≤ n → wX10_by_41 x (nI a) (nI b) Q (d + 1) (nI (nF (fun b => endsN S.2.1 b == kk + 1 && hB S.2.1 S.2.2.1.1 b) n)) (nI n) u := by
      intro d
      induction d with
      | zero =>
        intro n hn _
        have en : n = 64 := by omega
        subst en
        unfold wX10_by_41
        exact ⟨fun _ => q, fun z => absurd (Int32.le_refl _) z⟩
      | succ d ih =>
        intro n hn h1n
        have ih2 := ih (n + 1) (by omega) (by omega)
        rw [show nF (fun b => endsN S.2.1 b == kk + 1 && hB S.2.1 S.2.2.1.1 b) (n + 1) = nF (fun b => endsN S.2.1 b == kk + 1 && hB S.2.1 S.2.2.1.1 b) n + (if (endsN S.2.1 n == kk + 1 && hB S.2.1 S.2.2.1.1 n) = true then 1 else 0) from rfl] at ih2
        have e13 := (hR.2.2.2.2.2.2.1.1 n h1n (by omega)).1
        have hel := ends_lt o3 n
        unfold wX10_by_41 wX10_by_77 wX10_by_78
        rw [nI_clamp (by omega), e13, show nI n + (1 : Int32) = nI (n + 1) from (nI_succ _).symm]
        refine ⟨fun z => absurd ((nI_leI (a := 64) (by omega) (by omega)).mp z) (by omega), fun _ => ⟨vp_in_nI (by omega) (by omega), ?_⟩⟩
        refine sX10_endsBetween (by omega) (by omega) hne ?_
        rw [hkk]
        have r0 : ∀ z : Nat, nI z + (0 : Int32) = nI z := fun z => nI_add z 0
        have r1 : ∀ z : Nat, nI z + (1 : Int32) = nI (z + 1) := fun z => nI_add z 1
        refine ⟨fun c1 => ?_, fun c1 => ?_⟩
        · have c2 : ¬ endsN S.2.1 n = kk + 1 := fun z => c1 (by rw [z])
          rw [if_neg (fun z => by rw [Bool.and_eq_true, beq_iff_eq] at z; exact c2 z.1), Nat.add_zero] at ih2
          rw [r0]
          exact ih2
        · have c2 : endsN S.2.1 n = kk + 1 := nI_inj (by omega) (by omega) c1
          refine sX10_hm hR hok hM (by omega) ?_
          cases hz : hB S.2.1 S.2.2.1.1 n with
          | false =>
            rw [hz, Bool.and_false, if_neg (by decide), Nat.add_zero] at ih2
            refine ⟨fun _ => ?_, fun z => absurd rfl z⟩
            rw [r0]
            exact ih2
          | true =>
            rw [hz, c2, if_pos (by simp)] at ih2
            refine ⟨fun z => absurd z (show ¬ (1 : Int32) = 0 by decide), fun _ => ?_⟩
            rw [r1]
            exact ih2
    have hk0 := key 63 1 (by omega) (by omega)
    rw [show nF (fun b => endsN S.2.1 b == kk + 1 && hB S.2.1 S.2.2.1.1 b) 1 = 0 from by
      show 0 + (if (endsN S.2.1 0 == kk + 1 && hB S.2.1 S.2.2.1.1 0) = true then 1 else 0) = 0
      rw [ends_0, if_neg]
      intro z
      rw [Bool.and_eq_true, beq_iff_eq] at z
      omega] at hk0
    exact ⟨_, hk0⟩
  · have hne : a = b := nI_inj (by omega) (by omega) c
    rw [if_pos hne] at hQ
    exact hQ s' h' hf
end HDS
