/-! the class's calls by shortest ways: now, map, far, by -/
theorem okNw.L5 {la : Land} {N : Nw} (h : okNw la N) : ∀ y ∈ N.1, y ≤ 5 := fun y hy => (h.2.1 y hy).2
theorem sX9_meas {S : Sp} {s : St} {Q : St → Prop} (h : RC S s) (hok : okSp S) (h33 : (waysL S.2.1).length ≤ 33) (hQ : ∀ u, RC S u → Fr (fun k => k = 26 ∨ k = 27) s u → MeasC S.2.1 S.2.2.1.1 u → Q u) : IsG s.2.2.1 ∧ wX8_measure 21 s.2.2.1 14 6 s Q := by
  obtain ⟨o1, o2, o3, o4, -⟩ := hok
  have g := h.2.1.g
  exact ⟨h.G, sX8_measure (by omega) (by omega) o3 h.2.2.1 h.2.2.2.2.2.2.2.1 h33 o4.1 o4.L5 h.2.2.2.1.1 (fun u hf hm => hQ u (h.fr hf (by intro k; omega)) hf hm)⟩
/-- which of the first m maps hold, as bits -/
def heldP (la : Land) (L : List Nat) (maps : List (List Nat)) : Nat → Nat
  | 0 => 0
  | m + 1 => heldP la L maps m ||| (if hB la L (bitsOf la.2 (maps.getD m [])) then 2 ^ m else 0)
theorem heldP_lt (la : Land) (L : List Nat) (maps : List (List Nat)) : ∀ m, heldP la L maps m < 2 ^ m
  | 0 => by unfold heldP; decide
  | m + 1 => by
    have := heldP_lt la L maps m
    have e : 2 ^ m < 2 ^ (m + 1) := Nat.pow_lt_pow_right (by omega) (by omega)
    unfold heldP
    refine Nat.or_lt_two_pow (by omega) ?_
    split
    · exact e
    · exact Nat.two_pow_pos _
theorem heldP_bit (la : Land) (L : List Nat) (maps : List (List Nat)) (m : Nat) : ∀ n, m < n → (heldP la L maps n).testBit m = hB la L (bitsOf la.2 (maps.getD m []))
  | 0, h => by omega
  | n + 1, h => by
    unfold heldP
    rw [Nat.testBit_or]
    by_cases c : m = n
    · subst c
      rw [Nat.testBit_lt_two_pow (heldP_lt la L maps m), Bool.false_or]
      cases hB la L (bitsOf la.2 (maps.getD m [])) with
      | true => simp
      | false => simp
    · rw [heldP_bit la L maps m n (by omega)]
      have : (if hB la L (bitsOf la.2 (maps.getD n [])) then 2 ^ n else 0).testBit m = false := by
        split
        · rw [Nat.testBit_two_pow]; simp; omega
        · simp
      rw [this, Bool.or_false]
def heldM (S : Sp) : Nat := heldP S.2.1 S.2.2.1.1 S.2.2.1.2.1 S.2.2.1.2.1.length
theorem oI_some (i : Nat) : oI (some i) = nI i := rfl
theorem oI_none : oI none = -9 := rfl
theorem sX9_heldMaps {S : Sp} {s : St} {Q : Int32 → St → Prop} (h : RC S s) (hok : okSp S) (h33 : (waysL S.2.1).length ≤ 33) (hQ : ∀ u, RC S u → Fr (fun k => k = 26 ∨ k = 27) s u → Q (nI (heldM S)) u) : wX9_heldMaps s Q := by
  have hok' := hok
  obtain ⟨o1, o2, o3, o4, -⟩ := hok
  have h4 := o4.2.2.1
  have l6 := o3.2.2.1
  unfold wX9_heldMaps
  refine sX9_meas h hok' h33 (fun u hR hf hM => ?_)
  have e3 := hR.2.2.2.1.2.1
  have key : ∀ d m, m + d = S.2.2.1.2.1.length → wX9_heldMaps_22 Q (d + 1) (nI (heldP S.2.1 S.2.2.1.1 S.2.2.1.2.1 m)) (nI m) u := by
    intro d
    induction d with
    | zero =>
      intro m hm
      unfold wX9_heldMaps_22
      have e : S.2.2.1.2.1.length ≤ m := by omega
      have em : m = S.2.2.1.2.1.length := by omega
      simp (disch := omega) only [e3, e, lit_nI, nI_ltI, nI_leI, nI_eq, nI_clamp, vp_in_nI, forall_eq, true_and, and_true, false_and, and_false, true_implies, false_implies, implies_true, not_true, not_false_eq_true, nI_add, pk_mul, nI_sub, shl1, shr1, fa_or, fa_and, nI_m9, nI_m9s]
      rw [em]; exact hQ u hR hf
    | succ d ih =>
      intro m hm
      unfold wX9_heldMaps_22 wX9_heldMaps_68
      have e : ¬ S.2.2.1.2.1.length ≤ m := by omega
      simp (disch := omega) only [e3, e, lit_nI, nI_ltI, nI_leI, nI_eq, nI_clamp, vp_in_nI, forall_eq, true_and, and_true, false_and, and_false, true_implies, false_implies, implies_true, not_true, not_false_eq_true, nI_add, pk_mul, nI_sub, shl1, shr1, fa_or, fa_and, nI_m9, nI_m9s]
      refine ⟨hR.G, ?_⟩
      have hg := map_get (show m < S.2.2.1.2.1.length by omega)
      have hw := o4.2.2.2.1 _ (List.mem_of_getElem? hg)
      have hlt := heldP_lt S.2.1 S.2.2.1.1 S.2.2.1.2.1 m
      have hp4 : 2 ^ m ≤ 2 ^ 4 := Nat.pow_le_pow_right (by omega) (by omega)
      refine sX2_lanesOf hR.2.2.1 o3.2.1 l6 (hR.2.2.2.1.2.2.1 m _ hg) (by omega) hw.1 ?_
      refine sX8_wayBy o3 hR.2.2.2.2.2.2.2.1 h33 (bitsP_lt l6 _ _) ?_
      have ih2 := ih (m + 1) (by omega)
      unfold heldP at ih2
      cases hz : wayIx S.2.1 (bitsOf S.2.1.2 (S.2.2.1.2.1.getD m [])) with
      | none =>
        have hv : hB S.2.1 S.2.2.1.1 (bitsOf S.2.1.2 (S.2.2.1.2.1.getD m [])) = false := by unfold hB; rw [hz]
        rw [hv] at ih2
        simp at ih2
        rw [oI_none]
        unfold wX8_isShortest
        exact ⟨fun _ => ⟨fun _ => ih2, fun z => absurd rfl z⟩, fun c => absurd (by decide) c⟩
      | some i =>
        have hv : hB S.2.1 S.2.2.1.1 (bitsOf S.2.1.2 (S.2.2.1.2.1.getD m [])) = shB S.2.1 S.2.2.1.1 ((waysL S.2.1).getD i []) := by unfold hB; rw [hz]
        rw [hv] at ih2
        have hi := (wIx_lt hz).1
        rw [oI_some]
        refine sX8_isShortest o3 hR.2.2.2.2.2.2.2.1 h33 hM o4.L5 (by rw [o4.1]; exact l6) hi ?_
        cases hs : shB S.2.1 S.2.2.1.1 ((waysL S.2.1).getD i []) with
        | false =>
          rw [hs] at ih2
          simp at ih2
          exact ⟨fun _ => ih2, fun z => absurd rfl z⟩
        | true =>
          rw [hs] at ih2
          simp at ih2
          exact ⟨fun z => absurd z (by decide), fun _ => ih2⟩
  exact ⟨_, key S.2.2.1.2.1.length 0 (by omega)⟩
def cNow (S : Sp) (x : Int32) : Int32 := if x = 0 then nI (heldM S) else if x = 1 then nI S.2.2.1.2.2.1.length else if x = 2 then nI S.2.2.1.2.2.2 else if x = 3 then nI S.2.2.2.1.length else -1
theorem kX9_now {S : Sp} {s : St} {x : Int32} {Q : Int32 → St → Prop} (h : RC S s) (hok : okSp S) (h33 : (waysL S.2.1).length ≤ 33) (hQ : ∀ t, RC S t → KM s t → Q (cNow S x) t) : wX9_now x s Q := by
  unfold cNow at hQ
  unfold wX9_now
  refine ⟨fun c => ?_, fun c0 => ⟨fun c => ⟨vp_in_nI (n := 4) (by omega) (by omega), ?_⟩, fun c1 => ⟨fun c => ?_, fun c2 => ⟨fun c => ?_, fun c3 => ?_⟩⟩⟩⟩
  · refine sX9_heldMaps h hok h33 (fun u hR hf => ?_)
    have := hQ u hR (KM.of hf (by intro k; omega))
    rw [if_pos c] at this; exact this
  · have := hQ s h (KM.rf s)
    rw [if_neg c0, if_pos c] at this
    have e : s.1 15 (4 : Int32).toNatClampNeg = nI S.2.2.1.2.2.1.length := h.2.2.2.1.2.2.2.1.1
    rw [e]; exact this
  · have := hQ s h (KM.rf s)
    rw [if_neg c0, if_neg c1, if_pos c] at this
    rw [h.2.2.2.1.2.2.2.2]; exact this
  · have := hQ s h (KM.rf s)
    rw [if_neg c0, if_neg c1, if_neg c2, if_pos c] at this
    obtain ⟨y, _, _, h2, _⟩ := h.2.2.2.2.1
    rw [h2]; exact this
  · have := hQ s h (KM.rf s)
    rw [if_neg c0, if_neg c1, if_neg c2, if_neg c3] at this; exact this
def cMap (S : Sp) (x y : Int32) : Int32 := match num x S.2.2.1.2.1.length with
  | none => -1
  | some m => if y = 0 then nI (S.2.2.1.2.1.getD m []).length else if y = 1 then nI (lenOf S.2.2.1.1 (bitsOf S.2.1.2 (S.2.2.1.2.1.getD m []))) else if y = 2 then nI (if hB S.2.1 S.2.2.1.1 (bitsOf S.2.1.2 (S.2.2.1.2.1.getD m [])) then 1 else 0) else -1
theorem kX9_map {S : Sp} {s : St} {x y : Int32} {Q : Int32 → St → Prop} (h : RC S s) (hok : okSp S) (h33 : (waysL S.2.1).length ≤ 33) (hQ : ∀ t, RC S t → KM s t → Q (cMap S x y) t) : wX9_map x y s Q := by
  have hok' := hok
  obtain ⟨o1, o2, o3, o4, -⟩ := hok
  have h4 := o4.2.2.1
  have l6 := o3.2.2.1
  unfold cMap at hQ
  unfold wX9_map
  refine sX9_isMap h h4 (fun hx => ?_) (fun m hx => ?_)
  · rw [hx] at hQ
    exact ⟨fun z => absurd rfl z, fun _ => hQ s h (KM.rf s)⟩
  obtain ⟨hm, rfl⟩ := num_lt (by omega) hx
  rw [hx] at hQ
  dsimp only at hQ
  have hg := map_get hm
  have hw := o4.2.2.2.1 _ (List.mem_of_getElem? hg)
  have hr := h.2.2.2.1.2.2.1 m _ hg
  refine ⟨fun _ => ⟨fun c => ⟨vp_in_nI (by omega) (by omega), ?_⟩, fun c0 => ⟨fun c => ⟨h.G, h.G, ?_⟩, fun c1 => ⟨fun c => ?_, fun c2 => ?_⟩⟩⟩, fun z => absurd z (by decide)⟩
  · have := hQ s h (KM.rf s)
    rw [if_pos c] at this
    rw [nI_clamp (by omega), hr.1]; exact this
  · have := hQ s h (KM.rf s)
    rw [if_neg c0, if_pos c] at this
    refine sX2_lanesOf h.2.2.1 o3.2.1 l6 hr (by omega) hw.1 ?_
    refine sX1_lengthOf h.2.2.1 l6 (bitsP_lt l6 _ _) o4.1 h.2.2.2.1.1 ?_
    unfold lenOf at this
    rw [o4.1] at this
    exact this
  · refine sX9_heldMaps h hok' h33 (fun u hR hf => ?_)
    have := hQ u hR (KM.of hf (by intro k; omega))
    rw [if_neg c0, if_neg c1, if_pos c] at this
    have hlt := heldP_lt S.2.1 S.2.2.1.1 S.2.2.1.2.1 S.2.2.1.2.1.length
    have hp4 : 2 ^ S.2.2.1.2.1.length ≤ 2 ^ 4 := Nat.pow_le_pow_right (by omega) (by omega)
    have hh : heldM S < 16 := by unfold heldM; omega
    have e : (nI (heldM S) >>> (nI m &&& 31)) &&& 1 = nI (if hB S.2.1 S.2.2.1.1 (bitsOf S.2.1.2 (S.2.2.1.2.1.getD m [])) then 1 else 0) := by
      have e1 := shr1 (b := heldM S) (l := m) (by omega) (by omega)
      rw [← fa_and] at e1
      have e2 : (heldM S).testBit m = hB S.2.1 S.2.2.1.1 (bitsOf S.2.1.2 (S.2.2.1.2.1.getD m [])) := heldP_bit _ _ _ m _ hm
      rw [e2] at e1
      exact e1
    rw [e]; exact this
  · have := hQ s h (KM.rf s)
    rw [if_neg c0, if_neg c1, if_neg c2] at this; exact this
/-- the two ends as one number -/
def endsK (a b : Nat) : Nat := if a < b then a * 5 + b else b * 5 + a
theorem mm_nI {a b : Nat} (ha : a < 2 ^ 20) (hb : b < 2 ^ 20) : ((if nI b < nI a then nI b else nI a) * 5) + (if nI a < nI b then nI b else nI a) = nI (endsK a b) := by
  unfold endsK
  rw [show (5 : Int32) = nI 5 from rfl]
  by_cases c : a < b
  · rw [if_neg (by rw [nI_ltI (by omega) (by omega)]; omega), if_pos (nI_lt c (by omega)), pk_mul, nI_add, if_pos c]
  · by_cases c2 : b < a
    · rw [if_pos (nI_lt c2 (by omega)), if_neg (by rw [nI_ltI (by omega) (by omega)]; omega), pk_mul, nI_add, if_neg c]
    · have : a = b := by omega
      subst this
      have nl : ¬ nI a < nI a := by rw [nI_ltI (by omega) (by omega)]; omega
      rw [if_neg nl, pk_mul, nI_add, if_neg c]
def cFar (S : Sp) (x y : Int32) : Int32 := match num x S.2.1.1, num y S.2.1.1 with
  | some a, some b => if a = b then 0 else oI (lsL S.2.1 S.2.2.1.1 (endsK a b))
  | _, _ => -1
theorem kX9_far {S : Sp} {s : St} {x y : Int32} {Q : Int32 → St → Prop} (h : RC S s) (hok : okSp S) (h33 : (waysL S.2.1).length ≤ 33) (hQ : ∀ t, RC S t → KM s t → Q (cFar S x y) t) : wX9_far x y s Q := by
  have p5 := hok.2.2.1.2.1
  unfold cFar at hQ
  unfold wX9_far
  refine sX9_isPlace h p5 (fun hx => ?_) (fun a hx => ?_)
  · rw [hx] at hQ
    exact ⟨fun _ => hQ s h (KM.rf s), fun z => absurd rfl z⟩
  refine ⟨fun z => absurd z (by decide), fun _ => ?_⟩
  obtain ⟨ha, rfl⟩ := num_lt (by omega) hx
  rw [hx] at hQ
  refine sX9_isPlace h p5 (fun hy => ?_) (fun b hy => ?_)
  · rw [hy] at hQ
    exact ⟨fun z => absurd rfl z, fun _ => hQ s h (KM.rf s)⟩
  refine ⟨fun _ => ?_, fun z => absurd z (by decide)⟩
  obtain ⟨hb, rfl⟩ := num_lt (by omega) hy
  rw [hy] at hQ
  dsimp only at hQ
  refine ⟨fun c => ?_, fun c => ?_⟩
  · have c' : ¬ a = b := fun z => c (by rw [z])
    refine sX9_meas h hok h33 (fun u hR hf hM => ?_)
    have q := hQ u hR (KM.of hf (by intro k; omega))
    rw [if_neg c'] at q
    have hk : endsK a b < 25 := by unfold endsK; split <;> omega
    unfold wX8_leastBetween
    rw [mm_nI (by omega) (by omega), nI_clamp (by omega)]
    refine ⟨vp_in_nI hk (by omega), ?_⟩
    have e : u.1 (21 + 6) (endsK a b) = oI (lsL S.2.1 S.2.2.1.1 (endsK a b)) := hM.2 _ hk
    rw [e]; exact q
  · have c' : a = b := nI_inj (by omega) (by omega) c
    have q := hQ s h (KM.rf s)
    rw [if_pos c'] at q; exact q
/-- how many of the first i ways go between some ends and are shortest -/
def byW (la : Land) (L : List Nat) (k : Nat) : Nat → Nat
  | 0 => 0
  | i + 1 => byW la L k i + if endK ((waysL la).getD i []) = k ∧ shB la L ((waysL la).getD i []) = true then 1 else 0
theorem byW_le (la : Land) (L : List Nat) (k : Nat) : ∀ i, byW la L k i ≤ i
  | 0 => Nat.le_refl _
  | i + 1 => by
    have := byW_le la L k i
    unfold byW
    split <;> omega
def cBy (S : Sp) (x y : Int32) : Int32 := match num x S.2.1.1, num y S.2.1.1 with
  | some a, some b => if a = b then -1 else nI (byW S.2.1 S.2.2.1.1 (endsK a b) (waysL S.2.1).length)
  | _, _ => -1
theorem kX9_by {S : Sp} {s : St} {x y : Int32} {Q : Int32 → St → Prop} (h : RC S s) (hok : okSp S) (h33 : (waysL S.2.1).length ≤ 33) (hQ : ∀ t, RC S t → KM s t → Q (cBy S x y) t) : wX9_by x y s Q := by
  obtain ⟨-, -, o3, o4, -⟩ := id hok
  have p5 := o3.2.1
  unfold cBy at hQ
  unfold wX9_by
  refine sX9_isPlace h p5 (fun hx => ?_) (fun a hx => ?_)
  · rw [hx] at hQ
    exact ⟨fun _ => hQ s h (KM.rf s), fun z => absurd rfl z⟩
  refine ⟨fun z => absurd z (by decide), fun _ => ?_⟩
  obtain ⟨ha, rfl⟩ := num_lt (by omega) hx
  rw [hx] at hQ
  refine sX9_isPlace h p5 (fun hy => ?_) (fun b hy => ?_)
  · rw [hy] at hQ
    exact ⟨fun _ => hQ s h (KM.rf s), fun z => absurd rfl z⟩
  refine ⟨fun z => absurd z (by decide), fun _ => ?_⟩
  obtain ⟨hb, rfl⟩ := num_lt (by omega) hy
  rw [hy] at hQ
  dsimp only at hQ
  refine ⟨fun c => ?_, fun c => ?_⟩
  · have c' : ¬ a = b := fun z => c (by rw [z])
    refine sX9_meas h hok h33 (fun u hR hf hM => ?_)
    have q := hQ u hR (KM.of hf (by intro k; omega))
    rw [if_neg c'] at q
    have hk : endsK a b < 25 := by unfold endsK; split <;> omega
    have hW := hR.2.2.2.2.2.2.2.1
    have key : ∀ d i, i + d = (waysL S.2.1).length → wX8_shortestBetween_20 21 (nI (endsK a b)) (fun r_47 s_47 => Q r_47 s_47) (d + 1) (nI (byW S.2.1 S.2.2.1.1 (endsK a b) i)) (nI i) u := by
      intro d
      induction d with
      | zero =>
        intro i hi
        unfold wX8_shortestBetween_20
        have ei : i = (waysL S.2.1).length := by omega
        subst ei
        simp (disch := omega) only [hW.1, Nat.le_refl, lit_nI, nI_ltI, nI_leI, nI_eq, nI_clamp, vp_in_nI, forall_eq, true_and, and_true, false_and, and_false, true_implies, false_implies, implies_true, not_true, not_false_eq_true, nI_add, pk_mul, nI_sub, shl1, shr1, fa_or, fa_and, nI_m9, nI_m9s]
        exact q
      | succ d ih =>
        intro i hi
        have hi2 : i < (waysL S.2.1).length := by omega
        obtain ⟨m1, m2, m3, m4⟩ := hW.2 i _ (way_get hi2)
        obtain ⟨ek, -, -⟩ := ways_end p5 (way_mem hi2)
        have e : ¬ (waysL S.2.1).length ≤ i := by omega
        have ih2 := ih (i + 1) (by omega)
        have hle := byW_le S.2.1 S.2.2.1.1 (endsK a b) i
        unfold byW at ih2
        unfold wX8_shortestBetween_20 wX8_shortestBetween_52
        by_cases ce : endK ((waysL S.2.1).getD i []) = endsK a b
        · simp (disch := omega) only [hW.1, e, m3, ce, lit_nI, nI_ltI, nI_leI, nI_eq, nI_clamp, vp_in_nI, forall_eq, true_and, and_true, false_and, and_false, true_implies, false_implies, implies_true, not_true, not_false_eq_true, nI_add, pk_mul, nI_sub, shl1, shr1, fa_or, fa_and, nI_m9, nI_m9s]
          refine sX8_isShortest o3 hW h33 hM o4.L5 (by rw [o4.1]; exact o3.2.2.1) hi2 ?_
          cases hs : shB S.2.1 S.2.2.1.1 ((waysL S.2.1).getD i []) with
          | false =>
            rw [hs, if_neg (by simp), Nat.add_zero] at ih2
            simp (disch := omega) only [Bool.false_eq_true, if_false, lit_nI, nI_ltI, nI_leI, nI_eq, nI_clamp, vp_in_nI, forall_eq, true_and, and_true, false_and, and_false, true_implies, false_implies, implies_true, not_true, not_false_eq_true, nI_add, pk_mul, nI_sub, shl1, shr1, fa_or, fa_and, nI_m9, nI_m9s]
            exact ih2
          | true =>
            rw [hs, if_pos ⟨ce, rfl⟩] at ih2
            simp (disch := omega) only [if_true, Nat.one_ne_zero, lit_nI, nI_ltI, nI_leI, nI_eq, nI_clamp, vp_in_nI, forall_eq, true_and, and_true, false_and, and_false, true_implies, false_implies, implies_true, not_true, not_false_eq_true, nI_add, pk_mul, nI_sub, shl1, shr1, fa_or, fa_and, nI_m9, nI_m9s]
            exact ih2
        · rw [if_neg (fun z => ce z.1), Nat.add_zero] at ih2
          simp (disch := omega) only [hW.1, e, m3, ce, lit_nI, nI_ltI, nI_leI, nI_eq, nI_clamp, vp_in_nI, forall_eq, true_and, and_true, false_and, and_false, true_implies, false_implies, implies_true, not_true, not_false_eq_true, nI_add, pk_mul, nI_sub, shl1, shr1, fa_or, fa_and, nI_m9, nI_m9s]
          exact ih2
    unfold wX8_shortestBetween
    rw [mm_nI (by omega) (by omega)]
    exact ⟨_, key (waysL S.2.1).length 0 (by omega)⟩
  · have c' : a = b := nI_inj (by omega) (by omega) c
    have q := hQ s h (KM.rf s)
    rw [if_pos c'] at q; exact q
