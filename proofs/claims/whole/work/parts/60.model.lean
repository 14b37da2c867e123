/-! the reference: its small methods -/
theorem sX10_in {v hi : Int32} {n : Nat} {s : St} {Q : Int32 → St → Prop} (hhi : hi.toInt = (n : Int) - 1) (hn : n < 2 ^ 31) (h0 : num v n = none → Q 0 s) (h1 : ∀ j, num v n = some j → Q 1 s) : wX10_in v 0 hi s Q := by
  unfold wX10_in
  refine ⟨fun c => h0 ((num_none hn).mpr (Or.inl c)), fun c => ⟨fun c2 => ?_, fun c2 => ?_⟩⟩
  · refine h0 ((num_none hn).mpr (Or.inr ?_))
    rw [Int32.lt_iff_toInt_lt] at c2
    rw [Int32.le_iff_toInt_le, nI_toInt hn]
    omega
  · rcases pk_ix v hn with h3 | h3 | ⟨j, hj, rfl⟩
    · exact absurd h3 c
    · exfalso; apply c2
      rw [Int32.le_iff_toInt_le, nI_toInt hn] at h3
      rw [Int32.lt_iff_toInt_lt]
      omega
    · exact h1 j (num_nI hn hj)
theorem sX10_in1 {v hi : Int32} {n : Nat} {s : St} {Q : Int32 → St → Prop} (hhi : hi.toInt = (n : Int) - 1) (hn : n < 2 ^ 31) (h0 : num v n = none → Q 0 s) (h00 : v = 0 → Q 0 s) (h1 : ∀ j, num v n = some j → 1 ≤ j → Q 1 s) : wX10_in v 1 hi s Q := by
  unfold wX10_in
  have e1 : (1 : Int32).toInt = 1 := rfl
  have e0 : (0 : Int32).toInt = 0 := rfl
  refine ⟨fun c => ?_, fun c => ⟨fun c2 => ?_, fun c2 => ?_⟩⟩
  · by_cases cz : v = 0
    · exact h00 cz
    · refine h0 ((num_none hn).mpr (Or.inl ?_))
      rw [Int32.lt_iff_toInt_lt] at c ⊢
      have : v.toInt ≠ 0 := fun z => cz (Int32.toInt_inj.mp (by rw [z]; rfl))
      omega
  · refine h0 ((num_none hn).mpr (Or.inr ?_))
    rw [Int32.lt_iff_toInt_lt] at c2
    rw [Int32.le_iff_toInt_le, nI_toInt hn]
    omega
  · rcases pk_ix v hn with h3 | h3 | ⟨j, hj, rfl⟩
    · exfalso; apply c
      rw [Int32.lt_iff_toInt_lt] at h3 ⊢
      omega
    · exfalso; apply c2
      rw [Int32.le_iff_toInt_le, nI_toInt hn] at h3
      rw [Int32.lt_iff_toInt_lt]
      omega
    · refine h1 j (num_nI hn hj) ?_
      rw [Int32.lt_iff_toInt_lt, nI_toInt (by omega)] at c
      omega
theorem hi_sub {n : Nat} (h : n < 2 ^ 30) : (nI n - 1).toInt = (n : Int) - 1 := pk_sub_toInt (a := n) (b := 1) h (by omega)
theorem sX10_isLane {x : Nat} {la : Land} {v : Int32} {s : St} {Q : Int32 → St → Prop} (h : LandM x la s) (hl : la.2.length ≤ 6) (h0 : num v la.2.length = none → Q 0 s) (h1 : ∀ j, num v la.2.length = some j → Q 1 s) : wX10_isLane x v s Q := by
  unfold wX10_isLane
  refine ⟨vp_in_nI (n := 1) (by omega) (by omega), ?_⟩
  have e : s.1 (x + 2) (1 : Int32).toNatClampNeg = nI la.2.length := h.2.1
  rw [e]
  exact sX10_in (hi_sub (by omega)) (by omega) (fun z => ⟨Or.inl rfl, h0 z⟩) (fun j z => ⟨Or.inr rfl, h1 j z⟩)
theorem sX10_isPlace {x : Nat} {la : Land} {v : Int32} {s : St} {Q : Int32 → St → Prop} (h : LandM x la s) (hl : la.1 ≤ 5) (h0 : num v la.1 = none → Q 0 s) (h1 : ∀ j, num v la.1 = some j → Q 1 s) : wX10_isPlace x v s Q := by
  unfold wX10_isPlace
  refine ⟨vp_in_nI (n := 0) (by omega) (by omega), ?_⟩
  have e : s.1 (x + 2) (0 : Int32).toNatClampNeg = nI la.1 := h.1
  rw [e]
  exact sX10_in (hi_sub (by omega)) (by omega) (fun z => ⟨Or.inl rfl, h0 z⟩) (fun j z => ⟨Or.inr rfl, h1 j z⟩)
theorem sX10_isMap {x : Nat} {N : Nw} {v : Int32} {s : St} {Q : Int32 → St → Prop} (h : NowM (s.1 (x + 7)) 0 N) (hl : N.2.1.length ≤ 4) (h0 : num v N.2.1.length = none → Q 0 s) (h1 : ∀ j, num v N.2.1.length = some j → Q 1 s) : wX10_isMap x v s Q := by
  unfold wX10_isMap
  refine ⟨vp_in_nI (n := 6) (by omega) (by omega), ?_⟩
  have e : s.1 (x + 7) (6 : Int32).toNatClampNeg = nI N.2.1.length := h.2.1
  rw [e]
  exact sX10_in (hi_sub (by omega)) (by omega) (fun z => ⟨Or.inl rfl, h0 z⟩) (fun j z => ⟨Or.inr rfl, h1 j z⟩)
/-- lanes in the rows of ends, from some place on -/
def lanesAt (x o : Nat) (ls : List Lane) (s : St) : Prop := ∀ (l a b sp : Nat), ls[l]? = some (a, b, sp) → s.1 (x + 3) (o + l) = nI a ∧ s.1 (x + 4) (o + l) = nI b
theorem lnB_drop {ls : List Lane} {l : Nat} (h : l < ls.length) (a b : Nat) : lnB (ls.drop l) a b = if joins (ls.getD l (0, 0, 0)) a b then some 0 else (lnB (ls.drop (l + 1)) a b).map (· + 1) := by
  have : ls.drop l = ls.getD l (0, 0, 0) :: ls.drop (l + 1) := by
    rw [List.drop_eq_getElem_cons h, List.getD_eq_getElem?_getD, List.getElem?_eq_getElem h]; rfl
  rw [this, lnB]
theorem sX10_laneOf {x o a b : Nat} {ls : List Lane} {s : St} {Q : Int32 → St → Prop} (h : lanesAt x o ls s) (ho : o + ls.length ≤ 12) (hls : ∀ (l p q sp : Nat), ls[l]? = some (p, q, sp) → p < 100 ∧ q < 100) (ha : a < 100) (hb : b < 100) (hQ : Q (lnI ls a b) s) : wX10_laneOf x (nI o) (nI ls.length) (nI a) (nI b) s Q := by
  have key : ∀ d l, l + d = ls.length → Q (match lnB (ls.drop l) a b with | some k => nI (l + k) | none => -9) s → wX10_laneOf_3 x (nI o) (nI ls.length) (nI a) (nI b) Q (d + 1) (nI l) s := by
    intro d
    induction d with
    | zero =>
      intro l hl hq
      unfold wX10_laneOf_3
      have e : ls.length ≤ l := by omega
      rw [List.drop_of_length_le e] at hq
      simp (disch := omega) only [e, lit_nI, nI_ltI, nI_leI, nI_eq, nI_clamp, vp_in_nI, forall_eq, true_and, and_true, false_and, and_false, true_implies, false_implies, implies_true, not_true, not_false_eq_true, nI_add, pk_mul, nI_sub, shl1, shr1, fa_or, fa_and, nI_m9, nI_m9s]
      exact hq
    | succ d ih =>
      intro l hl hq
      have hl2 : l < ls.length := by omega
      have hg : ls[l]? = some ((ls.getD l (0, 0, 0)).1, (ls.getD l (0, 0, 0)).2.1, (ls.getD l (0, 0, 0)).2.2) := by rw [List.getD_eq_getElem?_getD, List.getElem?_eq_getElem hl2]; rfl
      obtain ⟨m1, m2⟩ := h l _ _ _ hg
      obtain ⟨b1, b2⟩ := hls l _ _ _ hg
      rw [lnB_drop hl2] at hq
      unfold wX10_laneOf_3 wX10_laneOf_44 wX10_laneOf_60
      have e : ¬ ls.length ≤ l := by omega
      have nx : joins (ls.getD l (0, 0, 0)) a b = false → wX10_laneOf_3 x (nI o) (nI ls.length) (nI a) (nI b) Q (d + 1) (nI (l + 1)) s := by
        intro hj
        refine ih (l + 1) (by omega) ?_
        rw [hj] at hq
        cases hz : lnB (ls.drop (l + 1)) a b with
        | none => rw [hz] at hq; exact hq
        | some k =>
          rw [hz] at hq
          show Q (nI (l + 1 + k)) s
          have : l + 1 + k = l + (k + 1) := by omega
          rw [this]; exact hq
      have yes : joins (ls.getD l (0, 0, 0)) a b = true → Q (nI l) s := by
        intro hj
        rw [hj] at hq
        exact hq
      have jn := joins_iff (ls.getD l (0, 0, 0)) a b
      have nx' : ¬ ((ls.getD l (0, 0, 0)).1 = a ∧ (ls.getD l (0, 0, 0)).2.1 = b) → ¬ ((ls.getD l (0, 0, 0)).1 = b ∧ (ls.getD l (0, 0, 0)).2.1 = a) → wX10_laneOf_3 x (nI o) (nI ls.length) (nI a) (nI b) Q (d + 1) (nI (l + 1)) s := by
        intro z1 z2
        refine nx ?_
        cases hj : joins (ls.getD l (0, 0, 0)) a b with
        | false => rfl
        | true =>
          rcases jn.mp hj with h9 | h9
          · exact absurd h9 z1
          · exact absurd h9 z2
      by_cases c1 : (ls.getD l (0, 0, 0)).1 = a <;> by_cases c2 : (ls.getD l (0, 0, 0)).2.1 = b <;> by_cases c3 : (ls.getD l (0, 0, 0)).1 = b <;> by_cases c4 : (ls.getD l (0, 0, 0)).2.1 = a <;>
        (first
          | (have k1 := eq_false c1)
          | (have k1 := eq_true c1)) <;>
        (first
          | (have k2 := eq_false c2)
          | (have k2 := eq_true c2)) <;>
        (first
          | (have k3 := eq_false c3)
          | (have k3 := eq_true c3)) <;>
        (first
          | (have k4 := eq_false c4)
          | (have k4 := eq_true c4)) <;>
        simp (disch := omega) only [e, m1, m2, k1, k2, k3, k4, lit_nI, nI_ltI, nI_leI, nI_eq, nI_clamp, vp_in_nI, forall_eq, true_and, and_true, false_and, and_false, true_implies, false_implies, implies_true, not_true, not_false_eq_true, nI_add, pk_mul, nI_sub, shl1, shr1, fa_or, fa_and, nI_m9, nI_m9s] <;>
        first
          | exact yes (jn.mpr (Or.inl ⟨c1, c2⟩))
          | exact yes (jn.mpr (Or.inr ⟨c3, c4⟩))
          | exact nx' (fun z => c1 z.1) (fun z => c3 z.1)
          | exact nx' (fun z => c1 z.1) (fun z => c4 z.2)
          | exact nx' (fun z => c2 z.2) (fun z => c3 z.1)
          | exact nx' (fun z => c2 z.2) (fun z => c4 z.2)
  unfold wX10_laneOf
  refine ⟨_, key ls.length 0 (by omega) ?_⟩
  rw [List.drop_zero]
  unfold lnI at hQ
  cases hz : lnB ls a b with
  | none => rw [hz] at hQ; exact hQ
  | some k => rw [hz] at hQ; simpa using hQ
