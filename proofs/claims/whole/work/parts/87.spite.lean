/-! the class's spite -/
def spA (S : Sp) (i : Nat) : Nat × Option (Nat × Nat) × Nat := ((waysL S.2.1).take i).foldl (spStep S.2.1 S.2.2.1) (0, none, 0)
def spSt (st : Nat × Option (Nat × Nat) × Nat) (c : Option Nat) : Nat × Option (Nat × Nat) × Nat := match c with
  | none => (st.1 + 1, st.2.1, st.2.2 + 1)
  | some q => (st.1 + 1, if moreC st.2.1 q then some (q, st.1) else st.2.1, st.2.2)
theorem minC_comm (S : Sp) (a b : List Nat) : minC S (a ++ b) = minC S (b ++ a) := by
  unfold minC
  rw [okL_comm]
theorem spA_succ (S : Sp) {i : Nat} (h : i < (waysL S.2.1).length) : spA S (i + 1) = spSt (spA S i) (minC S (mapB S.2.1 S.2.2.1 ++ [wB S.2.1 i])) := by
  have e : spA S (i + 1) = spStep S.2.1 S.2.2.1 (spA S i) ((waysL S.2.1).getD i []) := by
    unfold spA
    rw [List.take_succ, way_get h, List.foldl_append]
    rfl
  rw [e, minC_comm]
  unfold spStep spSt minC
  rw [show [wB S.2.1 i] ++ mapB S.2.1 S.2.2.1 = bitsOf S.2.1.2 ((waysL S.2.1).getD i []) :: mapB S.2.1 S.2.2.1 from rfl]
  cases best S.2.1 S.2.2.1.1 (okL S.2.1 (bitsOf S.2.1.2 ((waysL S.2.1).getD i []) :: mapB S.2.1 S.2.2.1)) <;> rfl
theorem spA_all (S : Sp) : spA S (waysL S.2.1).length = spiteS S.2.1 S.2.2.1 := by
  unfold spA spiteS
  rw [List.take_length]
theorem spA_in {S : Sp} (hok : okSp S) : ∀ i, i ≤ (waysL S.2.1).length → (spA S i).1 = i ∧ (spA S i).2.2 ≤ i ∧ ∀ q, (spA S i).2.1 = some q → q.1 ≤ 216 ∧ q.2 < i
  | 0, _ => ⟨rfl, Nat.le_refl _, fun q h => by cases h⟩
  | i + 1, h => by
    obtain ⟨h1, h2, h3⟩ := spA_in hok i (by omega)
    rw [spA_succ S (by omega)]
    unfold spSt
    cases hc : minC S (mapB S.2.1 S.2.2.1 ++ [wB S.2.1 i]) with
    | none => exact ⟨by dsimp only; omega, by dsimp only; omega, fun q hq => by have := h3 q hq; omega⟩
    | some c =>
      have := minC_le hok hc
      refine ⟨by dsimp only; omega, by dsimp only; omega, fun q hq => ?_⟩
      dsimp only at hq
      split at hq
      · cases hq
        exact ⟨this, by dsimp only; omega⟩
      · have := h3 q hq; omega
section SPT
variable {S : Sp} {s : St}
theorem RC.spited {u : St} (h : RC S s) (hf : Fr (fun k => (72 ≤ k ∧ k ≤ 85) ∨ k = 88) s u) (hA : SpitedC S.2.1 S.2.2.1 u) : RC S u := by
  obtain ⟨a1, a2, a3, a4, a5, a6, a7, a8, a9, a10, a11⟩ := h
  have g := a2.g
  refine ⟨a1.fr hf (by omega), a2.fr hf, ?_, a4.fr hf (by intro k; omega), a5.fr hf (by intro k; omega), a6.fr hf ⟨by omega, by intro k; omega⟩, a7.fr hf (by omega), a8.fr hf (by intro k; omega), a9.fr hf (by omega), hA, by rw [hf.2]; exact a11⟩
  rw [hf.2]
  exact a3.fr hf (by intro k; omega)
theorem minC_mono {a b : List Nat} (h : minC S a = none) : minC S (a ++ b) = none := by
  cases hz : minC S (a ++ b) with
  | none => rfl
  | some m =>
    have h1 := best_min (la := S.2.1) (L0 := S.2.2.1.1) (ok := okL S.2.1 a)
    have h2 := best_min (la := S.2.1) (L0 := S.2.2.1.1) (ok := okL S.2.1 (a ++ b))
    obtain ⟨M, hM, hk, -⟩ := h2.2 m hz
    unfold okL at hk
    rw [List.all_append, Bool.and_eq_true] at hk
    obtain ⟨m2, hm2, -⟩ := h1.1 M hM hk.1
    unfold minC at h
    rw [h] at hm2
    cases hm2
def SpI (S : Sp) (i : Nat) (u : St) : Prop := u.1 88 0 = 0 ∧ u.1 88 1 = oI ((spA S i).2.1.map (·.1)) ∧ u.1 88 2 = oI ((spA S i).2.1.map (·.2)) ∧ u.1 88 3 = nI (spA S i).2.2
theorem sX9_findSpite {Q : St → Prop} (h : RC S s) (hok : okSp S) (hw : okWays S.2.1) (hd : S.2.2.1.2.2.1 = []) (hQ : ∀ u, RC S u → KM s u → u.1 88 0 = 1 → Q u) : wX9_findSpite s Q := by
  obtain ⟨-, -, o3, o4, -⟩ := id hok
  have h4 := o4.2.2.1
  have h33 := hw.1
  have h10 := h.2.2.2.2.2.2.2.2.2.1
  unfold wX9_findSpite
  refine ⟨fun c => ?_, fun c => ?_⟩
  rotate_left
  · rcases h10 with h10 | ⟨h1, -⟩
    · exact absurd h10 c
    · exact hQ s h (KM.rf s) h1
  unfold wX5_empty
  intro t1 ht1 t2 ht2 t3 ht3
  have hf : Fr (fun k => (72 ≤ k ∧ k ≤ 85) ∨ k = 88) s t3 := by
    rw [ht3, ht2, ht1]
    exact ((Fr.rf.I (by omega)).I (by omega)).I (by omega)
  have hS0 : SpI S 0 t3 := by
    refine ⟨?_, ?_, ?_, ?_⟩
    · rw [ht3, rI_nj (by omega), ht2, rI_nj (by omega), ht1, rI_nj (by omega)]; exact c
    · rw [ht3, rI_nj (by omega), ht2, rI_nj (by omega), ht1, rI_eq]; rfl
    · rw [ht3, rI_nj (by omega), ht2, rI_eq]; rfl
    · rw [ht3, rI_eq]; rfl
  have hR : RC S t3 := h.spited hf (Or.inl hS0.1)
  have hdB : dB S.2.1 S.2.2.1 = [] := by
    unfold dB
    rw [hd]
    rfl
  have p4 : 2 ^ S.2.2.1.2.1.length ≤ 2 ^ 4 := Nat.pow_le_pow_right (by omega) o4.2.2.1
  refine sX9_allMaps hR hok ?_
  refine sX9_waysOf hR hok h33 (by omega) ?_
  refine sX9_canHold hR hok hw (sel_len hok _) (sel_row hok hw _) (fun u hRu hfu => ?_)
  have hrow := sel_row hok hw (2 ^ S.2.2.1.2.1.length - 1)
  rw [selB_all, hdB, List.append_nil] at hrow ⊢
  have hlen : (mapB S.2.1 S.2.2.1).length ≤ 4 := by unfold mapB; rw [List.length_map]; exact h4
  have key : ∀ (K : St → Prop), (∀ v, RC S v → Fr (fun k => (72 ≤ k ∧ k ≤ 85) ∨ k = 88) s v → SpI S (waysL S.2.1).length v → K v) → ∀ d i v, i + d = (waysL S.2.1).length → RC S v → Fr (fun k => (72 ≤ k ∧ k ≤ 85) ∨ k = 88) s v → SpI S i v → wX9_findSpite_36 (lI (heldL S.2.1 (mapB S.2.1 S.2.2.1))) (if (minC S (mapB S.2.1 S.2.2.1)).isSome then 1 else 0) K Q (d + 1) (nI i) v := by
    intro K hK d
    induction d with
    | zero =>
      intro i v hi hRv hfv hI
      have ei : i = (waysL S.2.1).length := by omega
      subst ei
      unfold wX9_findSpite_36
      rw [hRv.2.2.2.2.2.2.2.1.1]
      exact ⟨fun _ => hK v hRv hfv hI, fun z => absurd (Int32.le_refl _) z⟩
    | succ d ih =>
      intro i v hi hRv hfv hI
      have hil : i < (waysL S.2.1).length := by omega
      have ih2 := fun w => ih (i + 1) w (by omega)
      obtain ⟨q1, q2, q3⟩ := spA_in hok i (by omega)
      unfold wX9_findSpite_36
      rw [hRv.2.2.2.2.2.2.2.1.1]
      refine ⟨fun z => absurd ((nI_leI (by omega) (by omega)).mp z) (by omega), fun _ => ?_⟩
      have see : ∀ w, RC S w → Fr (fun k => (72 ≤ k ∧ k ≤ 85) ∨ k = 88) s w → SpI S i w → wX9_findSpite_73 (wX9_findSpite_36 (lI (heldL S.2.1 (mapB S.2.1 S.2.2.1))) (if (minC S (mapB S.2.1 S.2.2.1)).isSome then 1 else 0) K Q (d + 1)) K Q (lI (heldL S.2.1 (mapB S.2.1 S.2.2.1))) (if (minC S (mapB S.2.1 S.2.2.1)).isSome then 1 else 0) (nI i) (oI (minC S (mapB S.2.1 S.2.2.1 ++ [wB S.2.1 i]))) (nI i) 88 w := by
        intro w hRw hfw ⟨i0, i1, i2, i3⟩
        unfold wX9_findSpite_73 wX5_see wX5_see_36
        rw [show nI i + (1 : Int32) = nI (i + 1) from (nI_succ _).symm]
        have put : ∀ c : Nat, spA S (i + 1) = (i + 1, some (c, i), (spA S i).2.2) → ∀ a, a = stI w 88 2 (nI i) → ∀ b, b = stI a 88 1 (nI c) → wX9_findSpite_36 (lI (heldL S.2.1 (mapB S.2.1 S.2.2.1))) (if (minC S (mapB S.2.1 S.2.2.1)).isSome then 1 else 0) K Q (d + 1) (nI (i + 1)) b := by
          intro c hc a ha b hb
          have hfb : Fr (fun k => (72 ≤ k ∧ k ≤ 85) ∨ k = 88) s b := by rw [hb, ha]; exact (hfw.I (by omega)).I (by omega)
          have b0 : b.1 88 0 = 0 := by rw [hb, rI_nj (by omega), ha, rI_nj (by omega)]; exact i0
          refine ih2 b (h.spited hfb (Or.inl b0)) hfb ⟨b0, ?_, ?_, ?_⟩
          · rw [hc, hb, rI_eq]; rfl
          · rw [hc, hb, rI_nj (by omega), ha, rI_eq]; rfl
          · rw [hc, hb, rI_nj (by omega), ha, rI_nj (by omega)]; exact i3
        have hsu := spA_succ S hil
        cases hc : minC S (mapB S.2.1 S.2.2.1 ++ [wB S.2.1 i]) with
        | none =>
          rw [hc] at hsu
          refine ⟨fun z => absurd rfl z, fun _ b hb => ?_⟩
          have hfb : Fr (fun k => (72 ≤ k ∧ k ≤ 85) ∨ k = 88) s b := by rw [hb]; exact hfw.I (by omega)
          have b0 : b.1 88 0 = 0 := by rw [hb, rI_nj (by omega)]; exact i0
          refine ih2 b (h.spited hfb (Or.inl b0)) hfb ⟨b0, ?_, ?_, ?_⟩
          · rw [hsu, hb, rI_nj (by omega)]; exact i1
          · rw [hsu, hb, rI_nj (by omega)]; exact i2
          · rw [hsu, hb, rI_eq, i3]; exact (nI_succ _).symm
        | some c =>
          rw [hc] at hsu
          have hc2 := minC_le hok hc
          refine ⟨fun _ => ?_, fun z => (nI_m9 (n := c) (by omega) ▸ z : False).elim⟩
          unfold spSt at hsu
          dsimp only at hsu
          cases hz : (spA S i).2.1 with
          | none =>
            rw [hz, q1] at hsu
            rw [hz] at i2
            refine ⟨fun _ => put c hsu, fun z => absurd i2 z⟩
          | some q =>
            rw [hz, q1] at hsu
            rw [hz] at i1 i2
            have q4 := q3 q hz
            have i1' : w.1 88 1 = nI q.1 := i1
            have i2' : w.1 88 2 = nI q.2 := i2
            rw [i1', i2']
            refine ⟨fun z => (nI_m9 (n := q.2) (by omega) ▸ z : False).elim, fun _ => ⟨fun z => ?_, fun z => ?_⟩⟩
            · have z' : c ≤ q.1 := (nI_leI (by omega) (by omega)).mp z
              rw [if_neg (show ¬ moreC (some q) c = true from fun y => by have := of_decide_eq_true y; omega)] at hsu
              refine ih2 w hRw hfw ⟨i0, ?_, ?_, ?_⟩
              · rw [hsu]; exact i1
              · rw [hsu]; exact i2
              · rw [hsu]; exact i3
            · have z' : q.1 < c := by
                rcases Nat.lt_or_ge q.1 c with y | y
                · exact y
                · exact absurd ((nI_leI (by omega) (by omega)).mpr y) z
              rw [if_pos (show moreC (some q) c = true from decide_eq_true z')] at hsu
              exact put c hsu
      have hbit : bitW S.2.1 (wB S.2.1 i) = 2 ^ i := by
        unfold bitW
        rw [hw.2.2.2 i hil]
      cases hm : minC S (mapB S.2.1 S.2.2.1) with
      | none =>
        rw [hm] at see
        have se := see v hRv hfv hI
        rw [minC_mono hm] at se
        exact ⟨fun _ => se, fun z => absurd rfl z⟩
      | some m =>
        rw [hm] at see
        refine ⟨fun z => absurd z (show ¬ (1 : Int32) = 0 by decide), fun _ => ?_⟩
        rw [lI_one i (by omega), lI_or, ← hbit, ← heldL_one, ← heldL_app]
        refine sX9_costOf hRv hok hw (by rw [List.length_append]; simp; omega) (hrow.app (fun b hb => by
          rw [List.mem_singleton.mp hb, hw.2.2.2 i hil]; rfl)) (fun w hRw hfw _ => ?_)
        have e88 : w.1 88 = v.1 88 := hfw.1 88 (by omega)
        refine see w hRw (hfv.tr (hfw.wk (by intro k; omega))) ?_
        unfold SpI
        rw [e88]
        exact hI
  have hfu2 : Fr (fun k => (72 ≤ k ∧ k ≤ 85) ∨ k = 88) s u := hf.tr (hfu.wk (by intro k; omega))
  have e88 : u.1 88 = t3.1 88 := hfu.1 88 (by omega)
  refine ⟨_, key _ ?_ (waysL S.2.1).length 0 u (by omega) hRu hfu2 (by unfold SpI; rw [e88]; exact hS0)⟩
  intro v hRv hfv hI w hw'
  obtain ⟨i0, i1, i2, i3⟩ := hI
  rw [spA_all] at i1 i2 i3
  have hfw : Fr (fun k => (72 ≤ k ∧ k ≤ 85) ∨ k = 88) s w := by rw [hw']; exact hfv.I (by omega)
  have w0 : w.1 88 0 = 1 := by rw [hw', rI_eq]
  refine hQ w (h.spited hfw (Or.inr ⟨w0, hd, ?_, ?_, ?_⟩)) (KM.of hfw (by intro k; omega)) w0
  · rw [hw', rI_nj (by omega)]; exact i1
  · rw [hw', rI_nj (by omega)]; exact i2
  · rw [hw', rI_nj (by omega)]; exact i3
def cSpite (S : Sp) (x : Int32) : Int32 := match num x 3 with
  | none => -1
  | some k => if S.2.2.1.2.2.1.length = 0 then (if k = 2 then nI (waysL S.2.1).length else if k = 0 then oI ((spiteS S.2.1 S.2.2.1).2.1.map (·.1)) else nI (spiteS S.2.1 S.2.2.1).2.2) else -2
theorem kX9_spite {x : Int32} {Q : Int32 → St → Prop} (h : RC S s) (hok : okSp S) (hw : okWays S.2.1) (hQ : ∀ t, RC S t → KM s t → Q (cSpite S x) t) : wX9_spite x s Q := by
  obtain ⟨-, -, o3, o4, -⟩ := id hok
  have h5 : S.2.2.1.2.2.1.length ≤ 5 := o4.2.2.2.2.1.2.1
  have e0 : s.1 15 ((4 : Int32).toNatClampNeg) = nI S.2.2.1.2.2.1.length := h.2.2.2.1.2.2.2.1.1
  unfold cSpite at hQ
  unfold wX9_spite
  refine arg_le (n := 2) rfl (by omega) (fun hx => ?_) (fun k hx => ?_)
  · rw [hx] at hQ
    exact hQ s h (KM.rf s)
  · rw [hx] at hQ
    obtain ⟨hk, rfl⟩ := num_lt (by omega) hx
    dsimp only at hQ
    refine ⟨vp_in_nI (n := 4) (by omega) (by omega), ?_⟩
    rw [e0]
    refine ⟨fun c => ?_, fun c => ?_⟩
    · have c0 : S.2.2.1.2.2.1.length = 0 := nI_inj (b := 0) (by omega) (by omega) c
      have hd : S.2.2.1.2.2.1 = [] := List.length_eq_zero_iff.mp c0
      rw [if_pos c0] at hQ
      refine ⟨fun c2 => ?_, fun c2 => ?_⟩
      · have k2 : ¬ k = 2 := fun y => c2 (by rw [y]; rfl)
        rw [if_neg k2] at hQ
        refine sX9_findSpite h hok hw hd (fun u hR hK hkn => ?_)
        have hq := hQ u hR hK
        rcases hR.2.2.2.2.2.2.2.2.2.1 with z | ⟨-, -, z1, z2, z3⟩
        · rw [hkn] at z; exact absurd z (by decide)
        refine ⟨fun y => ?_, fun y => ?_⟩
        · have k0 : ¬ k = 0 := fun y2 => y (by rw [y2]; rfl)
          rw [if_neg k0] at hq
          rw [z3]; exact hq
        · have k0 : k = 0 := nI_inj (b := 0) (by omega) (by omega) y
          rw [if_pos k0] at hq
          rw [z1]; exact hq
      · have k2 : k = 2 := nI_inj (b := 2) (by omega) (by omega) c2
        rw [if_pos k2] at hQ
        rw [h.2.2.2.2.2.2.2.1.1]
        exact hQ s h (KM.rf s)
    · have c0 : ¬ S.2.2.1.2.2.1.length = 0 := fun y => c (by rw [y]; rfl)
      rw [if_neg c0] at hQ
      exact hQ s h (KM.rf s)
theorem sX8_placeAt {i k : Nat} {Q : Int32 → St → Prop} (hW : WaysC S.2.1 s) (h33 : (waysL S.2.1).length ≤ 33) (hi : i < (waysL S.2.1).length) (hk : k < 5) (hQ : Q (plI ((waysL S.2.1).getD i []) k) s) : wX8_placeAt 21 (nI i) (nI k) s Q := by
  obtain ⟨e0, e1⟩ := hW
  obtain ⟨a1, a2, -⟩ := e1 i _ (way_get hi)
  have h5 := (ways_row (way_mem hi)).1.2.1
  unfold wX8_placeAt
  rw [e0, nI_clamp (by omega), a2, show (5 : Int32) = nI 5 from rfl, pk_mul, nI_add, nI_clamp (by omega)]
  refine ⟨fun z => absurd z (nI_pos (by omega)), fun _ => ⟨fun z => absurd ((nI_leI (by omega) (by omega)).mp z) (by omega), fun _ => ⟨fun z => absurd z (nI_pos (by omega)), fun _ => ⟨vp_in_nI (by omega) (by omega), fun z => ?_, fun z => ⟨vp_in_nI (by omega) (by omega), ?_⟩⟩⟩⟩⟩
  · have z' := (nI_leI (by omega) (by omega)).mp z
    unfold plI at hQ
    rw [List.getElem?_eq_none z'] at hQ
    exact hQ
  · have z' : k < ((waysL S.2.1).getD i []).length := by
      rcases Nat.lt_or_ge k ((waysL S.2.1).getD i []).length with y | y
      · exact y
      · exact absurd ((nI_leI (by omega) (by omega)).mpr y) z
    rw [plI_lt z'] at hQ
    rw [a1 k _ (getD_get z')]
    exact hQ
def cSpiteful (S : Sp) (x : Int32) : Int32 := match num x 5 with
  | none => -1
  | some k => if S.2.2.1.2.2.1.length = 0 then (match (spiteS S.2.1 S.2.2.1).2.1 with
    | none => -9
    | some q => plI ((waysL S.2.1).getD q.2 []) k) else -2
theorem kX9_spiteful {x : Int32} {Q : Int32 → St → Prop} (h : RC S s) (hok : okSp S) (hw : okWays S.2.1) (hQ : ∀ t, RC S t → KM s t → Q (cSpiteful S x) t) : wX9_spiteful x s Q := by
  obtain ⟨-, -, o3, o4, -⟩ := id hok
  have h5 : S.2.2.1.2.2.1.length ≤ 5 := o4.2.2.2.2.1.2.1
  have e0 : s.1 15 ((4 : Int32).toNatClampNeg) = nI S.2.2.1.2.2.1.length := h.2.2.2.1.2.2.2.1.1
  unfold cSpiteful at hQ
  unfold wX9_spiteful
  refine arg_lt (n := 5) rfl (by omega) (fun hx => ?_) (fun k hx => ?_)
  · rw [hx] at hQ
    exact hQ s h (KM.rf s)
  · rw [hx] at hQ
    obtain ⟨hk, rfl⟩ := num_lt (by omega) hx
    dsimp only at hQ
    refine ⟨vp_in_nI (n := 4) (by omega) (by omega), ?_⟩
    rw [e0]
    refine ⟨fun c => ?_, fun c => ?_⟩
    · have c0 : S.2.2.1.2.2.1.length = 0 := nI_inj (b := 0) (by omega) (by omega) c
      have hd : S.2.2.1.2.2.1 = [] := List.length_eq_zero_iff.mp c0
      rw [if_pos c0] at hQ
      refine sX9_findSpite h hok hw hd (fun u hR hK hkn => ?_)
      have hq := hQ u hR hK
      rcases hR.2.2.2.2.2.2.2.2.2.1 with z | ⟨-, -, z1, z2, z3⟩
      · rw [hkn] at z; exact absurd z (by decide)
      rw [z2]
      cases hz : (spiteS S.2.1 S.2.2.1).2.1 with
      | none =>
        rw [hz] at hq
        unfold wX8_placeAt
        exact ⟨fun _ => hq, fun y => absurd (show (-9 : Int32) < 0 by decide) y⟩
      | some q =>
        rw [hz] at hq
        have q3 := (spA_in hok _ (Nat.le_refl _)).2.2 q (by rw [spA_all]; exact hz)
        exact sX8_placeAt hR.2.2.2.2.2.2.2.1 hw.1 q3.2 hk hq
    · have c0 : ¬ S.2.2.1.2.2.1.length = 0 := fun y => c (by rw [y]; rfl)
      rw [if_neg c0] at hQ
      exact hQ s h (KM.rf s)
end SPT
