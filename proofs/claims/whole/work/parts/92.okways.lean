/-! what is to be known of a land's ways holds for every land -/
theorem okLand.lns {la : Land} (h : okLand la) : ∀ ln ∈ la.2, ln.1 < 5 ∧ ln.2.1 < 5 ∧ ln.1 ≠ ln.2.1 := by
  intro ln hl
  obtain ⟨i, hi⟩ := List.getElem?_of_mem hl
  have := h.2.2.2.1 i ln.1 ln.2.1 ln.2.2 hi
  have := h.2.1
  exact ⟨by omega, by omega, by omega⟩
theorem from_cnt {la : Land} (h : okLand la) {P : Nat → Bool} {p : Nat} (hp : p < 5) : (waysFrom la.1 la.2 5 [p]).countP (fun w => P (lastOf w)) ≤ cW 5 (eM la.2) p P 5 p (2 ^ p) := by
  rw [cW_eq (f := p) (P := P) h.lns h.2.1 5 [p] (2 ^ p) rfl (by simp) rfl (fun q => by
    rw [Nat.testBit_two_pow, Bool.eq_iff_iff, decide_eq_true_iff]
    simp
    constructor <;> intro z <;> exact z.symm) hp]
  exact cW_up h.2.1 _ _ _
theorem okM_of {la : Land} (h : okLand la) : okM (eM la.2) = true := by
  have h1 := allN_at okM_all (eM la.2) (eM_lt h.lns)
  rw [Bool.or_eq_true] at h1
  rcases h1 with h1 | h1
  · have h2 := Nat.le_of_ble_eq_true h1
    have h3 := eM_cnt la.2
    have h4 := h.2.2.1
    omega
  · exact h1
theorem ways_33 {la : Land} (h : okLand la) : (waysL la).length ≤ 33 := by
  have h1 := okM_of h
  unfold okM at h1
  rw [Bool.and_eq_true] at h1
  have h2 := Nat.le_of_ble_eq_true h1.1
  have e : (waysL la).length = (waysL la).countP (fun w => (fun _ : Nat => true) (lastOf w)) := by
    show _ = List.countP (fun _ => true) _
    rw [List.countP_true]
  have h3 : (waysL la).countP (fun w => (fun _ : Nat => true) (lastOf w)) ≤ sumN (fun f => cW 5 (eM la.2) f (fun _ => true) 5 f (2 ^ f)) 5 := by
    unfold waysL
    rw [countP_rng]
    refine Nat.le_trans (sumN_le (g := fun f => cW 5 (eM la.2) f (fun _ => true) 5 f (2 ^ f)) (fun p hp => ?_)) (sumN_up _ h.2.1)
    have := h.2.1
    exact from_cnt h (P := fun _ => true) (by omega)
  omega
theorem nF_countP {α : Type} (d : α) (q : α → Bool) (W : List α) : ∀ i, i ≤ W.length → nF (fun v => q (W.getD v d)) i = (W.take i).countP q
  | 0, _ => by unfold nF; simp
  | i + 1, h => by
    have e : W[i]? = some (W.getD i d) := by
      rw [List.getD_eq_getElem?_getD, List.getElem?_eq_getElem (by omega)]; rfl
    unfold nF
    rw [nF_countP d q W i (by omega), List.take_succ, e, List.countP_append]
    simp [List.countP_singleton]
theorem bdsW_cnt {la : Land} {w : Nat} : ∀ n, (bdsW la w n).length + (if w < n then 1 else 0) = nF (fun v => endK ((waysL la).getD v []) == endK ((waysL la).getD w [])) n
  | 0 => by unfold bdsW nF; simp
  | n + 1 => by
    have ih := bdsW_cnt (la := la) (w := w) n
    unfold bdsW nF
    rw [List.length_append, ← ih]
    by_cases c : n = w
    · subst c
      simp
    · by_cases e : endK ((waysL la).getD n []) = endK ((waysL la).getD w [])
      · rw [if_pos ⟨c, e⟩, e]
        simp
        split <;> split <;> omega
      · rw [if_neg (fun z => e z.2), beq_eq_false_iff_ne.mpr e]
        simp
        split <;> split <;> omega
theorem ways_4 {la : Land} (h : okLand la) (w : Nat) : (bdsW la w (waysL la).length).length ≤ 4 := by
  have h5 := h.2.1
  by_cases c : w < (waysL la).length
  · have h1 := bdsW_cnt (la := la) (w := w) (waysL la).length
    rw [if_pos c, nF_countP [] (fun v => endK v == endK ((waysL la).getD w [])) _ _ (Nat.le_refl _), List.take_length] at h1
    obtain ⟨r1, r2, r3⟩ := ways_row (way_mem c)
    obtain ⟨q1, q2, q3⟩ := ways_end h5 (way_mem c)
    generalize hw : (waysL la).getD w [] = v at h1 r1 r2 r3 q1 q2 q3
    have h2 := okM_of h
    unfold okM at h2
    rw [Bool.and_eq_true] at h2
    have h3 := allN_at (allN_at h2.2 (v.getD 0 0) (by omega)) (lastOf v) (by omega)
    rw [decide_eq_true r3, Bool.not_true, Bool.false_or] at h3
    have h4 := Nat.le_of_ble_eq_true h3
    have h6 : (waysL la).countP (fun x => endK x == endK v) ≤ 5 := by
      refine Nat.le_trans ?_ h4
      unfold waysL
      rw [countP_rng]
      refine Nat.le_trans (sumN_one (k := v.getD 0 0) (fun p hp hne => ?_)) ?_
      · rw [List.countP_eq_zero]
        intro x hx
        obtain ⟨e, he⟩ := waysFrom_pre 5 [p] x hx
        have hm : x ∈ waysL la := by unfold waysL; exact List.mem_flatMap.mpr ⟨p, List.mem_range.mpr hp, hx⟩
        obtain ⟨-, -, s3⟩ := ways_end h5 hm
        intro z
        have z' : endK x = endK v := by simpa using z
        unfold endK at z'
        rw [show x.getD 0 0 = p by rw [he]; rfl] at z'
        omega
      · refine Nat.le_trans (Nat.le_of_eq ?_) (from_cnt h (P := fun z => Nat.beq z (lastOf v)) (p := v.getD 0 0) (by omega))
        refine List.countP_congr (fun x hx => ?_)
        obtain ⟨e, he⟩ := waysFrom_pre 5 _ x hx
        have hx0 : x.getD 0 0 = v.getD 0 0 := by rw [he]; rfl
        constructor
        · intro z
          have z' : endK x = endK v := by simpa using z
          unfold endK at z'
          rw [hx0] at z'
          have : lastOf x = lastOf v := by omega
          rw [this]
          exact Nat.beq_refl _
        · intro z
          have z' : lastOf x = lastOf v := Nat.eq_of_beq_eq_true z
          have : endK x = endK v := by unfold endK; rw [hx0, z']
          rw [this]
          simp
    omega
  · have : bdsW la w (waysL la).length = [] := by
      rw [List.eq_nil_iff_forall_not_mem]
      intro b hb
      obtain ⟨v, v1, v2, v3, -⟩ := bdsW_mem.mp hb
      obtain ⟨-, -, r3⟩ := ways_row (way_mem v1)
      rw [show (waysL la).getD w [] = [] by rw [List.getD_eq_getElem?_getD, List.getElem?_eq_none (by omega)]; rfl] at v3
      unfold endK at v3
      rw [show lastOf [] = 0 from rfl, show ([] : List Nat).getD 0 0 = 0 from rfl] at v3
      omega
    rw [this]
    simp
theorem okWays_of {la : Land} (h : okLand la) : okWays la := ⟨ways_33 h, ways_4 h, fun _ h1 h2 => way_some h1 h2, fun _ hi => ways_ix h hi⟩
