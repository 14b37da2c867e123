/-! the reference: spite, spiteful -/
def cI (S : Sp) (i : Nat) : Option Nat := minC S (mapB S.2.1 S.2.2.1 ++ [wB S.2.1 i])
/-- the dearest way of those whose lanes, as a number, are below n; of several the first -/
def BestS (S : Sp) (n : Nat) (o : Option Nat) : Prop := match o with
  | none => ∀ j, j < (waysL S.2.1).length → wB S.2.1 j < n → cI S j = none
  | some i => i < (waysL S.2.1).length ∧ wB S.2.1 i < n ∧ ∃ c, cI S i = some c ∧ ∀ j, j < (waysL S.2.1).length → wB S.2.1 j < n → ∀ c', cI S j = some c' → c' < c ∨ (c' = c ∧ i ≤ j)
def SpBest (S : Sp) (n : Nat) (o : Option (Nat × Nat)) : Prop := match o with
  | none => ∀ j, j < n → cI S j = none
  | some q => q.2 < n ∧ cI S q.2 = some q.1 ∧ ∀ j, j < n → ∀ c', cI S j = some c' → c' < q.1 ∨ (c' = q.1 ∧ q.2 ≤ j)
theorem spA_best (S : Sp) : ∀ n, n ≤ (waysL S.2.1).length → SpBest S n (spA S n).2.1 ∧ (spA S n).1 = n ∧ (spA S n).2.2 = nF (fun i => !(cI S i).isSome) n
  | 0, _ => ⟨fun j hj => by omega, rfl, rfl⟩
  | n + 1, h => by
    obtain ⟨h1, h2, h3⟩ := spA_best S n (by omega)
    rw [spA_succ S (by omega)]
    have hc : minC S (mapB S.2.1 S.2.2.1 ++ [wB S.2.1 n]) = cI S n := rfl
    rw [hc]
    unfold spSt
    have en : nF (fun i => !(cI S i).isSome) (n + 1) = nF (fun i => !(cI S i).isSome) n + if (!(cI S n).isSome) = true then 1 else 0 := rfl
    rw [en]
    cases hz : cI S n with
    | none =>
      dsimp only
      refine ⟨?_, by omega, by rw [h3]; rfl⟩
      cases hq : (spA S n).2.1 with
      | none =>
        rw [hq] at h1
        intro j hj
        by_cases c : j = n
        · subst c; exact hz
        · exact h1 j (by omega)
      | some q =>
        rw [hq] at h1
        obtain ⟨a1, a2, a3⟩ := h1
        refine ⟨by omega, a2, fun j hj c' hc' => ?_⟩
        by_cases c : j = n
        · subst c; rw [hz] at hc'; cases hc'
        · exact a3 j (by omega) c' hc'
    | some c =>
      dsimp only
      refine ⟨?_, by omega, by rw [h3]; rfl⟩
      cases hq : (spA S n).2.1 with
      | none =>
        rw [hq] at h1
        rw [if_pos (show moreC none c = true from rfl)]
        refine ⟨by dsimp only; omega, by dsimp only; rw [h2]; exact hz, fun j hj c' hc' => ?_⟩
        by_cases cj : j = n
        · subst cj
          rw [hz] at hc'
          cases hc'
          exact Or.inr ⟨rfl, by dsimp only; omega⟩
        · rw [h1 j (by omega)] at hc'; cases hc'
      | some q =>
        rw [hq] at h1
        obtain ⟨a1, a2, a3⟩ := h1
        by_cases cm : q.1 < c
        · rw [if_pos (show moreC (some q) c = true from decide_eq_true cm)]
          refine ⟨by dsimp only; omega, by dsimp only; rw [h2]; exact hz, fun j hj c' hc' => ?_⟩
          by_cases cj : j = n
          · subst cj
            rw [hz] at hc'
            cases hc'
            exact Or.inr ⟨rfl, by dsimp only; omega⟩
          · have := a3 j (by omega) c' hc'
            left
            dsimp only
            omega
        · rw [if_neg (show ¬ moreC (some q) c = true from fun z => cm (of_decide_eq_true z))]
          refine ⟨by omega, a2, fun j hj c' hc' => ?_⟩
          by_cases cj : j = n
          · subst cj
            rw [hz] at hc'
            cases hc'
            rcases Nat.lt_or_ge c q.1 with y | y
            · exact Or.inl y
            · exact Or.inr ⟨by omega, by omega⟩
          · exact a3 j (by omega) c' hc'
theorem spite_uq {S : Sp} {o : Option Nat} (h3 : okLand S.2.1) (h : BestS S 64 o) : o = (spiteS S.2.1 S.2.2.1).2.1.map (·.2) ∧ ∀ i, o = some i → (spiteS S.2.1 S.2.2.1).2.1.map (·.1) = cI S i := by
  have hs := (spA_best S _ (Nat.le_refl _)).1
  rw [spA_all] at hs
  have hw : ∀ j, wB S.2.1 j < 64 := fun j => wB_lt h3 j
  cases hq : (spiteS S.2.1 S.2.2.1).2.1 with
  | none =>
    rw [hq] at hs
    cases o with
    | none => exact ⟨rfl, fun i hi => by cases hi⟩
    | some i =>
      obtain ⟨a1, -, c, a3, -⟩ := h
      rw [hs i a1] at a3
      cases a3
  | some q =>
    rw [hq] at hs
    obtain ⟨b1, b2, b3⟩ := hs
    cases o with
    | none =>
      rw [h q.2 b1 (hw _)] at b2
      cases b2
    | some i =>
      obtain ⟨a1, -, c, a3, a4⟩ := h
      have e1 := a4 q.2 b1 (hw _) q.1 b2
      have e2 := b3 i a1 c a3
      have : i = q.2 := by omega
      have hc : c = q.1 := by omega
      refine ⟨by rw [this]; rfl, fun i' hi' => ?_⟩
      cases hi'
      rw [a3, hc]
      rfl
theorem lstP_ext {ls : List Lane} {b p : Nat} (hb : b < 2 ^ ls.length) : ∀ d, lstP ls b p (ls.length + d) = lstP ls b p ls.length
  | 0 => rfl
  | d + 1 => by
    show (if (b.testBit (ls.length + d) && incB (ls.getD (ls.length + d) (0, 0, 0)) p) = true then some (ls.length + d) else lstP ls b p (ls.length + d)) = _
    rw [Nat.testBit_lt_two_pow (Nat.lt_of_lt_of_le hb (p2_le (by omega))), Bool.false_and]
    exact lstP_ext hb d
section SPM
variable {x : Nat} {S : Sp} {s : St}
theorem bits_n (la : Land) (w : List Nat) : bitsOf la.2 w < 2 ^ la.2.length := by
  rcases Nat.lt_or_ge (bitsOf la.2 w) (2 ^ la.2.length) with c | c
  · exact c
  · exfalso
    obtain ⟨j, hj, ht⟩ := Nat.exists_ge_and_testBit_of_ge_two_pow c
    obtain ⟨k, -, hk⟩ := bits_tb.mp ht
    have := lnB_lt hk
    omega
theorem sX10_reads {i : Nat} {Q : Int32 → St → Prop} (h : RM x S s) (hok : okSp S) (hi : i < (waysL S.2.1).length) (hQ : ∀ u, Fr (fun k => k = x + 23) s u → rowAt (u.1 (x + 23)) 0 ((waysL S.2.1).getD i []) → Q (nI ((waysL S.2.1).getD i []).length) u) : wX10_reads x (nI (wB S.2.1 i)) s Q := by
  obtain ⟨-, -, o3, o4, -⟩ := id hok
  have l6 := o3.2.2.1
  obtain ⟨r1, r2, r3⟩ := ways_row (way_mem hi)
  obtain ⟨q1, q2, q3⟩ := ways_end o3.2.1 (way_mem hi)
  have e13 := (h.2.2.2.2.2.2.1.1 (wB S.2.1 i) (wB_pos hi) (wB_lt o3 i)).1
  rw [ends_way o3 hi] at e13
  have hw64 := wB_lt o3 i
  have hww : wB S.2.1 i = bitsOf S.2.1.2 ((waysL S.2.1).getD i []) := rfl
  rw [hww] at e13 hw64 ⊢
  generalize (waysL S.2.1).getD i [] = w at *
  have h5 := r1.2.1
  have hp5 := o3.2.1
  have key : ∀ (r pre : List Nat) (p : Nat) (u : St), w = pre ++ p :: r → Fr (fun k => k = x + 23) s u → rowAt (u.1 (x + 23)) 0 (pre ++ [p]) → isRow S.2.1.1 S.2.1.2 (p :: r) → wX10_reads_20 x Q (r.length + 1) (nI (bitsOf S.2.1.2 (p :: r))) (nI pre.length) u := by
    intro r
    induction r with
    | nil =>
      intro pre p u hw hf hr hrow
      have hl : w.length = pre.length + 1 := by rw [hw]; simp
      show wX10_reads_20 x Q 1 (nI (bitsOf S.2.1.2 [p])) (nI pre.length) u
      unfold wX10_reads_20
      rw [bits_one]
      refine ⟨fun _ => ?_, fun z => absurd rfl z⟩
      rw [show nI pre.length + (1 : Int32) = nI (pre.length + 1) from (nI_succ _).symm, ← hl]
      refine hQ u hf ?_
      rw [hw]
      exact hr
    | cons q r ih =>
      intro pre p u hw hf hr hrow
      have hl : w.length = pre.length + (r.length + 2) := by rw [hw]; simp
      have hp : p < S.2.1.1 := hrow.1 p (by simp)
      have hj := hrow.2.2.1 0 (by simp)
      have erow : u.1 (x + 23) pre.length = nI p := by
        have := rowAt.one.mp hr.appE.2
        rw [Nat.zero_add] at this
        exact this
      have hl3 : ∀ l, l < S.2.1.2.length → u.1 (x + 3) l = nI (S.2.1.2.getD l (0, 0, 0)).1 ∧ u.1 (x + 4) l = nI (S.2.1.2.getD l (0, 0, 0)).2.1 := fun l hl' => by
        rw [hf.1 _ (by omega), hf.1 _ (by omega)]
        have := h.2.1.2.2 l _ _ _ (lane_get hl')
        exact ⟨this.1, this.2.1⟩
      cases hlb : lnB S.2.1.2 p q with
      | none =>
        rw [show (p :: q :: r).getD 0 0 = p from rfl, show (p :: q :: r).getD (0 + 1) 0 = q from rfl, hlb] at hj
        cases hj
      | some l =>
        obtain ⟨a1, a2, a3, -⟩ := row_first o3.ls hrow hlb
        have hll := lnB_lt hlb
        have hb : bitsOf S.2.1.2 (p :: q :: r) = 2 ^ l ||| bitsOf S.2.1.2 (q :: r) := by rw [bits_cons, lb_some hlb]
        have h64 : bitsOf S.2.1.2 (q :: r) < 64 := bitsP_lt l6 _ _
        have h64' : bitsOf S.2.1.2 (p :: q :: r) < 64 := bitsP_lt l6 _ _
        have hbn := bits_n S.2.1 (p :: q :: r)
        have hne : bitsOf S.2.1.2 (p :: q :: r) ≠ 0 := fun z => by
          have : (bitsOf S.2.1.2 (p :: q :: r)).testBit l = true := by rw [hb, Nat.testBit_or, Nat.testBit_two_pow, decide_eq_true rfl, Bool.true_or]
          rw [z] at this
          simp at this
        have inner : ∀ (K : Int32 → St → Prop), K (nI l) u → ∀ d k, k + d = 6 → wX10_reads_31 x (nI (bitsOf S.2.1.2 (p :: q :: r))) (nI pre.length) K Q (d + 1) (oI (lstP S.2.1.2 (bitsOf S.2.1.2 (p :: q :: r)) p k)) (nI k) u := by
          intro K hK d
          induction d with
          | zero =>
            intro k hk
            have ek : k = 6 := by omega
            subst ek
            unfold wX10_reads_31
            have e6 : lstP S.2.1.2 (bitsOf S.2.1.2 (p :: q :: r)) p 6 = some l := by
              rw [show 6 = S.2.1.2.length + (6 - S.2.1.2.length) by omega, lstP_ext hbn]
              exact a2
            rw [e6]
            exact ⟨fun _ => hK, fun z => absurd (Int32.le_refl _) z⟩
          | succ d ih2 =>
            intro k hk
            have ih3 := ih2 (k + 1) (by omega)
            unfold lstP at ih3
            have esh : (nI (bitsOf S.2.1.2 (p :: q :: r)) >>> (nI k &&& 31)) &&& 1 = nI (if (bitsOf S.2.1.2 (p :: q :: r)).testBit k then 1 else 0) := by
              rw [show (1 : Int32) = nI 1 from rfl, show (31 : Int32) = nI 31 from rfl, fa_and, shr1 (by omega) (by omega)]
            unfold wX10_reads_31 wX10_reads_85 wX10_reads_80 wX10_reads_87
            rw [esh, nI_clamp (show k < 2 ^ 31 by omega), nI_clamp (show pre.length < 2 ^ 31 by omega), erow, show nI k + (1 : Int32) = nI (k + 1) from (nI_succ _).symm]
            refine ⟨fun z => absurd ((nI_leI (a := 6) (by omega) (by omega)).mp z) (by omega), fun _ => ?_⟩
            cases ht : (bitsOf S.2.1.2 (p :: q :: r)).testBit k with
            | false =>
              rw [ht] at ih3
              exact ⟨fun _ => ih3, fun z => absurd z (show ¬ (0 : Int32) = 1 by decide)⟩
            | true =>
              have hkl : k < S.2.1.2.length := by
                rcases Nat.lt_or_ge k S.2.1.2.length with c | c
                · exact c
                · rw [Nat.testBit_lt_two_pow (Nat.lt_of_lt_of_le hbn (p2_le c))] at ht
                  cases ht
              obtain ⟨b1, b2⟩ := hl3 k hkl
              have hlt := o3.ls.1 k hkl
              rw [ht, Bool.true_and] at ih3
              rw [b1, b2]
              refine ⟨fun z => absurd rfl z, fun _ => ⟨vp_in_nI (by omega) (by omega), vp_in_nI (by omega) (by omega), fun c => ?_, fun c => ⟨vp_in_nI (by omega) (by omega), vp_in_nI (by omega) (by omega), fun c2 => ?_, fun c2 => ?_⟩⟩⟩
              · have c' := nI_inj (by omega) (by omega) c
                rw [if_pos (incB_iff.mpr (Or.inl c'))] at ih3
                exact ih3
              · rw [if_neg (fun z => by
                  rcases incB_iff.mp z with y | y
                  · exact c (by rw [y])
                  · exact c2 (by rw [y]))] at ih3
                exact ih3
              · have c2' := nI_inj (by omega) (by omega) c2
                rw [if_pos (incB_iff.mpr (Or.inr c2'))] at ih3
                exact ih3
        show wX10_reads_20 x Q (r.length + 1 + 1) (nI (bitsOf S.2.1.2 (p :: q :: r))) (nI pre.length) u
        unfold wX10_reads_20
        refine ⟨fun z => absurd (nI_inj (b := 0) (by omega) (by omega) z) hne, fun _ => ⟨_, inner _ ?_ 6 0 (by omega)⟩⟩
        obtain ⟨b1, b2⟩ := hl3 l hll
        have hlt := o3.ls.1 l hll
        have pl := p2_le (show l ≤ 5 by omega)
        have eleft : nI (bitsOf S.2.1.2 (p :: q :: r)) &&& (((1 : Int32) <<< (nI l &&& 31)) ^^^ -1) = nI (bitsOf S.2.1.2 (q :: r)) := by
          rw [show ((1 : Int32) <<< (nI l &&& 31)) = nI (2 ^ l) by rw [show (1 : Int32) = nI 1 from rfl, show (31 : Int32) = nI 31 from rfl, fa_and, shl1 (by omega)], andnI (by omega) (by omega), hb, andn_or h64 (by omega) a1]
        have go : ∀ t, t = stI u (x + 23) (pre.length + 1) (nI q) → wX10_reads_20 x Q (r.length + 1) (nI (bitsOf S.2.1.2 (q :: r))) (nI (pre.length + 1)) t := by
          intro t ht
          have := ih (pre ++ [p]) q t (by rw [hw, List.append_assoc]; rfl) (by rw [ht]; exact hf.I rfl) (by
            rw [ht]
            refine rowAt.mk (hr.cg (fun k hk => rI_nj ?_)) (rowAt.one.mpr ?_)
            · simp at hk; omega
            · simp [rI_eq]) (isRow_tl hrow)
          rw [show (pre ++ [p]).length = pre.length + 1 by simp] at this
          exact this
        unfold wX10_reads_144
        rw [nI_clamp (show l < 2 ^ 31 by omega), nI_clamp (show pre.length < 2 ^ 31 by omega), erow, b1, b2, eleft, show nI pre.length + (1 : Int32) = nI (pre.length + 1) from (nI_succ _).symm, nI_clamp (show pre.length + 1 < 2 ^ 31 by omega)]
        refine ⟨vp_in_nI (by omega) (by omega), vp_in_nI (by omega) (by omega), fun c => ⟨vp_in_nI (by omega) (by omega), vp_in_nI (by omega) (by omega), fun t ht => go t ?_⟩, fun c => ⟨vp_in_nI (by omega) (by omega), vp_in_nI (by omega) (by omega), fun t ht => go t ?_⟩⟩
        · unfold oth at a3
          rw [if_neg (fun z => c (by rw [z]))] at a3
          rw [a3] at ht
          exact ht
        · have c' : (S.2.1.2.getD l (0, 0, 0)).1 = p := nI_inj (by omega) (by omega) c
          unfold oth at a3
          rw [if_pos c'] at a3
          rw [a3] at ht
          exact ht
  unfold wX10_reads
  rw [nI_clamp (by omega), e13]
  refine ⟨vp_in_nI (by omega) (by omega), vp_in_nI (n := 0) (by omega) (by omega), fun t ht => ?_⟩
  have hq1 : endK w < 25 := q1
  rw [show (1 : Int32) = nI 1 from rfl, nI_sub (by omega), show (5 : Int32) = nI 5 from rfl, pk_div (by omega) (by omega) (by omega), show (endK w + 1 - 1) / 5 = w.getD 0 0 by unfold endK; omega] at ht
  have ht2 : t = stI s (x + 23) 0 (nI (w.getD 0 0)) := ht
  match w, r1, r2, key, ht2 with
  | p :: r, r1, r2, key, ht2 =>
    exact ⟨_, key r [] p t rfl (by rw [ht2]; exact Fr.rf.I rfl) (by
      rw [ht2]
      exact rowAt.one.mpr rI_eq) r1⟩
theorem ahB_app : ∀ (pre v w : List Nat), ahB (pre ++ v) (pre ++ w) = ahB v w
  | [], v, w => rfl
  | a :: pre, v, w => by
    show (if a = a then ahB (pre ++ v) (pre ++ w) else decide (a < a)) = _
    rw [if_pos rfl]
    exact ahB_app pre v w
theorem sX10_isAhead {v w : List Nat} {Q : Int32 → St → Prop} (hv : rowAt (s.1 (x + 23)) 0 v) (hw : rowAt (s.1 (x + 24)) 0 w) (hvl : v.length ≤ 5) (hwl : w.length ≤ 5) (hv5 : ∀ p ∈ v, p < 100) (hw5 : ∀ p ∈ w, p < 100) (hQ : Q (if ahB v w then 1 else 0) s) : wX10_isAhead x (nI v.length) (nI w.length) s Q := by
  unfold wX10_isAhead
  have key : ∀ (K27 : Int32 → St → Prop) (K54 : St → Prop), (∀ (pre : List Nat) (a b : Nat) (v2 w2 : List Nat), v = pre ++ a :: v2 → w = pre ++ b :: w2 → a ≠ b → K27 (nI pre.length) s) → (∀ pre v2 w2 : List Nat, v = pre ++ v2 → w = pre ++ w2 → v2 = [] ∨ w2 = [] → K54 s) → ∀ (v2 pre w2 : List Nat), v = pre ++ v2 → w = pre ++ w2 → wX10_isAhead_2 x (nI v.length) (nI w.length) K27 K54 Q (v2.length + 1) (nI pre.length) s := by
    intro K27 K54 h27 h54 v2
    induction v2 with
    | nil =>
      intro pre w2 h1 h2
      have hl : v.length = pre.length := by rw [h1]; simp
      unfold wX10_isAhead_2
      refine ⟨fun _ => h54 pre [] w2 h1 h2 (Or.inl rfl), fun z => absurd ?_ z⟩
      rw [hl]
      exact Int32.le_refl _
    | cons a v2 ih =>
      intro pre w2 h1 h2
      have hl : v.length = pre.length + (v2.length + 1) := by rw [h1]; simp
      have hl2 : w.length = pre.length + w2.length := by rw [h2]; simp
      show wX10_isAhead_2 x (nI v.length) (nI w.length) K27 K54 Q (v2.length + 1 + 1) (nI pre.length) s
      unfold wX10_isAhead_2
      refine ⟨fun z => absurd ((nI_leI (by omega) (by omega)).mp z) (by omega), fun _ => ⟨fun z => ?_, fun z => ?_⟩⟩
      · have z' := (nI_leI (by omega) (by omega)).mp z
        exact h54 pre (a :: v2) w2 h1 h2 (Or.inr (List.length_eq_zero_iff.mp (by omega)))
      · match w2, h2, hl2 with
        | [], h2, hl2 =>
          exact absurd ((nI_leI (by omega) (by omega)).mpr (by simp at hl2; omega)) z
        | b :: w2, h2, hl2 =>
          have e23 : s.1 (x + 23) pre.length = nI a := by
            have := hv pre.length a (by rw [h1]; simp)
            rw [Nat.zero_add] at this; exact this
          have e24 : s.1 (x + 24) pre.length = nI b := by
            have := hw pre.length b (by rw [h2]; simp)
            rw [Nat.zero_add] at this; exact this
          have ha := hv5 a (by rw [h1]; simp)
          have hb := hw5 b (by rw [h2]; simp)
          rw [nI_clamp (by omega), e23, e24, show nI pre.length + (1 : Int32) = nI (pre.length + 1) from (nI_succ _).symm]
          refine ⟨vp_in_nI (by omega) (by omega), vp_in_nI (by omega) (by omega), fun c => ?_, fun c => ?_⟩
          · have c' := nI_inj (by omega) (by omega) c
            subst c'
            have := ih (pre ++ [a]) w2 (by rw [h1, List.append_assoc]; rfl) (by rw [h2, List.append_assoc]; rfl)
            rw [show (pre ++ [a]).length = pre.length + 1 by simp] at this
            exact this
          · exact h27 pre a b v2 w2 h1 h2 (fun z => c (by rw [z]))
  refine ⟨_, key _ _ ?_ ?_ v [] w rfl rfl⟩
  · intro pre a b v2 w2 h1 h2 hab
    have hl : v.length = pre.length + (v2.length + 1) := by rw [h1]; simp
    have e23 : s.1 (x + 23) pre.length = nI a := by
      have := hv pre.length a (by rw [h1]; simp)
      rw [Nat.zero_add] at this; exact this
    have e24 : s.1 (x + 24) pre.length = nI b := by
      have := hw pre.length b (by rw [h2]; simp)
      rw [Nat.zero_add] at this; exact this
    have ha := hv5 a (by rw [h1]; simp)
    have hb := hw5 b (by rw [h2]; simp)
    rw [nI_clamp (by omega), e23, e24]
    rw [h1, h2, ahB_app] at hQ
    have hQ2 : Q (if (if a = b then ahB v2 w2 else decide (a < b)) = true then 1 else 0) s := hQ
    rw [if_neg hab] at hQ2
    refine ⟨vp_in_nI (by omega) (by omega), vp_in_nI (by omega) (by omega), fun c => ?_, fun c => ?_⟩
    · have c' := (nI_leI (by omega) (by omega)).mp c
      rw [decide_eq_false (by omega)] at hQ2
      exact hQ2
    · have c' : a < b := by
        rcases Nat.lt_or_ge a b with y | y
        · exact y
        · exact absurd ((nI_leI (by omega) (by omega)).mpr y) c
      rw [decide_eq_true c'] at hQ2
      exact hQ2
  · intro pre v2 w2 h1 h2 hor
    have hl : v.length = pre.length + v2.length := by rw [h1]; simp
    have hl2 : w.length = pre.length + w2.length := by rw [h2]; simp
    rw [h1, h2, ahB_app] at hQ
    refine ⟨fun c => ?_, fun c => ?_⟩
    · have c' := (nI_leI (by omega) (by omega)).mp c
      have hw2 : w2 = [] := by
        rcases hor with z | z
        · subst z
          exact List.length_eq_zero_iff.mp (by simp at hl; omega)
        · exact z
      subst hw2
      have : ahB v2 [] = false := by cases v2 <;> rfl
      rw [this] at hQ
      exact hQ
    · have c' : v.length < w.length := by
        rcases Nat.lt_or_ge v.length w.length with y | y
        · exact y
        · exact absurd ((nI_leI (by omega) (by omega)).mpr y) c
      have hv2 : v2 = [] := by
        rcases hor with z | z
        · exact z
        · subst z
          simp at hl2
          omega
      subst hv2
      match w2, hl2 with
      | [], hl2 => simp at hl hl2; omega
      | b :: w2, hl2 => exact hQ
end SPM
