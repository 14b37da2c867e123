/-! the class's can, look -/
def nF (f : Nat → Bool) : Nat → Nat
  | 0 => 0
  | i + 1 => nF f i + if f i then 1 else 0
def aF (f : Nat → Bool) (b : Nat → Nat) : Nat → Nat
  | 0 => 63
  | i + 1 => if f i then aF f b i &&& b i else aF f b i
def sF (f : Nat → Bool) (b : Nat → Nat) : Nat → Nat
  | 0 => 0
  | i + 1 => if f i then sF f b i ||| b i else sF f b i
def lF (f : Nat → Bool) (b : Nat → Nat) (l : Nat) : Nat → Nat
  | 0 => 0
  | i + 1 => lF f b l i + if f i && (b i).testBit l then 1 else 0
theorem nF_le (f : Nat → Bool) : ∀ i, nF f i ≤ i
  | 0 => Nat.le_refl _
  | i + 1 => by have := nF_le f i; unfold nF; split <;> omega
theorem lF_le (f : Nat → Bool) (b : Nat → Nat) (l : Nat) : ∀ i, lF f b l i ≤ nF f i
  | 0 => Nat.le_refl _
  | i + 1 => by
    have := lF_le f b l i
    unfold lF nF
    cases f i with
    | false => simp; omega
    | true => simp; split <;> omega
theorem aF_lt (f : Nat → Bool) (b : Nat → Nat) : ∀ i, aF f b i < 64
  | 0 => by unfold aF; decide
  | i + 1 => by
    have := aF_lt f b i
    unfold aF
    split
    · exact Nat.lt_of_le_of_lt Nat.and_le_left this
    · exact this
theorem sF_lt (f : Nat → Bool) (b : Nat → Nat) (hb : ∀ i, b i < 64) : ∀ i, sF f b i < 64
  | 0 => by unfold sF; decide
  | i + 1 => by
    have := sF_lt f b hb i
    unfold sF
    split
    · exact or_lt64 this (hb i)
    · exact this
/-- the lanes of the i-th way; whether it is shortest, and as was told -/
def wB (la : Land) (i : Nat) : Nat := bitsOf la.2 ((waysL la).getD i [])
def fitsB (T1 T0 b : Nat) : Bool := (b &&& T1 == T1) && (b &&& T0 == 0)
def wF (S : Sp) (i : Nat) : Bool := fitsB (tookB S.2.2.2.2.2.1 1) (tookB S.2.2.2.2.2.1 0) (wB S.2.1 i) && shB S.2.1 S.2.2.1.1 ((waysL S.2.1).getD i [])
theorem wB_lt {la : Land} (h : okLand la) (i : Nat) : wB la i < 64 := bitsP_lt h.2.2.1 _ _
/-- what guess leaves in the stranger -/
def GuessC (S : Sp) (i : Nat) (σ : St) : Prop := σ.1 89 3 = nI (nF (wF S) i) ∧ σ.1 89 4 = nI (aF (wF S) (wB S.2.1) i) ∧ σ.1 89 5 = nI (sF (wF S) (wB S.2.1) i) ∧ ∀ l, l < 6 → σ.1 90 l = nI (lF (wF S) (wB S.2.1) l i)
theorem sX6_addFitting {b n a o : Nat} {c : Nat → Nat} {s : St} {Q : St → Prop} (hb : b < 64) (h3 : s.1 89 3 = nI n) (h4 : s.1 89 4 = nI a) (h5 : s.1 89 5 = nI o) (hc : ∀ l, l < 6 → s.1 90 l = nI (c l)) (hQ : ∀ u, Fr (fun k => k = 89 ∨ k = 90) s u → (∀ j, j < 3 → u.1 89 j = s.1 89 j) → u.1 89 3 = nI (n + 1) → u.1 89 4 = nI (a &&& b) → u.1 89 5 = nI (o ||| b) → (∀ l, l < 6 → u.1 90 l = nI (c l + if b.testBit l then 1 else 0)) → Q u) : wX6_addFitting 89 (nI b) s Q := by
  unfold wX6_addFitting
  have r4 : ∀ w, (stI s 89 3 w).1 89 4 = nI a := fun w => by rw [rI_nj (by omega)]; exact h4
  have r5 : ∀ w w', (stI (stI s 89 3 w) 89 4 w').1 89 5 = nI o := fun w w' => by rw [rI_nj (by omega), rI_nj (by omega)]; exact h5
  simp (disch := omega) only [h3, r4, r5, lit_nI, nI_ltI, nI_leI, nI_eq, nI_clamp, vp_in_nI, forall_eq, true_and, and_true, false_and, and_false, true_implies, false_implies, implies_true, not_true, not_false_eq_true, nI_add, pk_mul, nI_sub, shl1, shr1, fa_or, fa_and, nI_m9, nI_m9s]
  generalize ht : stI (stI (stI s 89 3 (nI (n + 1))) 89 4 (nI (a &&& b))) 89 5 (nI (o ||| b)) = t
  have hf : Fr (fun k => k = 89 ∨ k = 90) s t := by rw [← ht]; exact ((Fr.rf.I (by omega)).I (by omega)).I (by omega)
  have t90 : t.1 90 = s.1 90 := by rw [← ht, rI_ne (by omega), rI_ne (by omega), rI_ne (by omega)]
  have tj : ∀ j, j < 3 → t.1 89 j = s.1 89 j := fun j hj => by rw [← ht, rI_nj (by omega), rI_nj (by omega), rI_nj (by omega)]
  have t3 : t.1 89 3 = nI (n + 1) := by rw [← ht, rI_nj (by omega), rI_nj (by omega), rI_eq]
  have t4 : t.1 89 4 = nI (a &&& b) := by rw [← ht, rI_nj (by omega), rI_eq]
  have t5 : t.1 89 5 = nI (o ||| b) := by rw [← ht, rI_eq]
  have key : ∀ d l u, l + d = 6 → Fr (fun k => k = 90) t u → (∀ j, j < l → u.1 90 j = nI (c j + if b.testBit j then 1 else 0)) → (∀ j, l ≤ j → u.1 90 j = s.1 90 j) → wX6_addFitting_32 89 (nI b) Q (d + 1) (nI l) u := by
    intro d
    induction d with
    | zero =>
      intro l u hl hfu h1 h2
      unfold wX6_addFitting_32
      have e : 6 ≤ l := by omega
      simp (disch := omega) only [e, lit_nI, nI_ltI, nI_leI, nI_eq, nI_clamp, vp_in_nI, forall_eq, true_and, and_true, false_and, and_false, true_implies, false_implies, implies_true, not_true, not_false_eq_true, nI_add, pk_mul, nI_sub, shl1, shr1, fa_or, fa_and, nI_m9, nI_m9s]
      refine hQ u (hf.tr (hfu.wk (by intro k; omega))) (fun j hj => ?_) ?_ ?_ ?_ (fun j hj => h1 j (by omega))
      · rw [hfu.1 89 (by omega)]; exact tj j hj
      · rw [hfu.1 89 (by omega)]; exact t3
      · rw [hfu.1 89 (by omega)]; exact t4
      · rw [hfu.1 89 (by omega)]; exact t5
    | succ d ih =>
      intro l u hl hfu h1 h2
      unfold wX6_addFitting_32
      have e : ¬ 6 ≤ l := by omega
      have ev : u.1 90 l = nI (c l) := by rw [h2 l (Nat.le_refl _)]; exact hc l (by omega)
      simp (disch := omega) only [e, ev, lit_nI, nI_ltI, nI_leI, nI_eq, nI_clamp, vp_in_nI, forall_eq, true_and, and_true, false_and, and_false, true_implies, false_implies, implies_true, not_true, not_false_eq_true, nI_add, pk_mul, nI_sub, shl1, shr1, fa_or, fa_and, nI_m9, nI_m9s]
      refine ih (l + 1) _ (by omega) (Fr.I (k := 90) hfu rfl) (fun j hj => ?_) (fun j hj => ?_)
      · by_cases cj : j = l
        · subst cj; rw [rI_eq]
        · rw [rI_nj cj]; exact h1 j (by omega)
      · rw [rI_nj (by omega)]; exact h2 j (by omega)
  exact ⟨_, key 6 0 t (by omega) Fr.rf (fun j hj => by omega) (fun j _ => by rw [t90])⟩
theorem sX6_guess {S : Sp} {s : St} {Q : St → Prop} (o3 : okLand S.2.1) (o4 : okNw S.2.1 S.2.2.1) (hT1 : tookB S.2.2.2.2.2.1 1 < 64) (hT0 : tookB S.2.2.2.2.2.1 0 < 64) (hW : WaysC S.2.1 s) (h33 : (waysL S.2.1).length ≤ 33) (hM : MeasC S.2.1 S.2.2.1.1 s) (hS : StrC S.2.2.2.2.2.1 s) (hQ : ∀ u, Fr (fun k => k = 89 ∨ k = 90) s u → StrC S.2.2.2.2.2.1 u → GuessC S (waysL S.2.1).length u → Q u) : wX6_guess 89 21 s Q := by
  have loop2 : ∀ d i u, i + d = (waysL S.2.1).length → Fr (fun k => k = 89 ∨ k = 90) s u → (∀ j, j < 3 → u.1 89 j = s.1 89 j) → GuessC S i u → wX6_guess_39 89 21 Q (d + 1) (nI i) u := by
    intro d
    induction d with
    | zero =>
      intro i u hi hfu hj hg
      unfold wX6_guess_39
      have ei : i = (waysL S.2.1).length := by omega
      subst ei
      have e0 : u.1 21 0 = nI (waysL S.2.1).length := by rw [hfu.1 21 (by omega)]; exact hW.1
      simp (disch := omega) only [e0, Nat.le_refl, lit_nI, nI_ltI, nI_leI, nI_eq, nI_clamp, vp_in_nI, forall_eq, true_and, and_true, false_and, and_false, true_implies, false_implies, implies_true, not_true, not_false_eq_true, nI_add, pk_mul, nI_sub, shl1, shr1, fa_or, fa_and, nI_m9, nI_m9s]
      refine hQ u hfu ⟨?_, ?_, ?_⟩ hg
      · rw [hj 0 (by omega)]; exact hS.1
      · rw [hj 1 (by omega)]; exact hS.2.1
      · rw [hj 2 (by omega)]; exact hS.2.2
    | succ d ih =>
      intro i u hi hfu hj hg
      have hi2 : i < (waysL S.2.1).length := by omega
      have hWu : WaysC S.2.1 u := hW.fr hfu (by intro k; omega)
      have hMu : MeasC S.2.1 S.2.2.1.1 u := by
        unfold MeasC at *
        rw [hfu.1 26 (by omega), hfu.1 27 (by omega)]; exact hM
      obtain ⟨m1, m2, m3, m4⟩ := hWu.2 i _ (way_get hi2)
      have m4' : u.1 25 i = nI (wB S.2.1 i) := m4
      have e1 : u.1 89 1 = nI (tookB S.2.2.2.2.2.1 1) := by rw [hj 1 (by omega)]; exact hS.2.1
      have e2 : u.1 89 2 = nI (tookB S.2.2.2.2.2.1 0) := by rw [hj 2 (by omega)]; exact hS.2.2
      have e : ¬ (waysL S.2.1).length ≤ i := by omega
      have hb := wB_lt o3 i
      have ha1 : wB S.2.1 i &&& tookB S.2.2.2.2.2.1 1 < 64 := Nat.lt_of_le_of_lt Nat.and_le_left hb
      have ha0 : wB S.2.1 i &&& tookB S.2.2.2.2.2.1 0 < 64 := Nat.lt_of_le_of_lt Nat.and_le_left hb
      obtain ⟨g3, g4, g5, g6⟩ := hg
      have no : wF S i = false → wX6_guess_39 89 21 Q (d + 1) (nI (i + 1)) u := by
        intro hw
        refine ih (i + 1) u (by omega) hfu hj ⟨?_, ?_, ?_, fun l hl => ?_⟩
        · unfold nF; rw [hw]; simpa using g3
        · unfold aF; rw [hw]; simpa using g4
        · unfold sF; rw [hw]; simpa using g5
        · unfold lF; rw [hw]; simpa using g6 l hl
      unfold wX6_guess_39 wX6_guess_80 wX6_guess_81 wX6_guess_101
      by_cases c1 : wB S.2.1 i &&& tookB S.2.2.2.2.2.1 1 = tookB S.2.2.2.2.2.1 1
      · by_cases c0 : wB S.2.1 i &&& tookB S.2.2.2.2.2.1 0 = 0
        · have k1 := eq_true c1
          have k0 := eq_true c0
          simp (disch := omega) only [hWu.1, e, m4', e1, e2, k1, k0, Nat.one_ne_zero, lit_nI, nI_ltI, nI_leI, nI_eq, nI_clamp, vp_in_nI, forall_eq, true_and, and_true, false_and, and_false, true_implies, false_implies, implies_true, not_true, not_false_eq_true, nI_add, pk_mul, nI_sub, shl1, shr1, fa_or, fa_and, nI_m9, nI_m9s]
          refine sX8_isShortest o3 hWu h33 hMu o4.L5 (by rw [o4.1]; exact o3.2.2.1) hi2 ?_
          have hw : wF S i = shB S.2.1 S.2.2.1.1 ((waysL S.2.1).getD i []) := by
            unfold wF fitsB
            rw [c1, c0]; simp
          cases hs : shB S.2.1 S.2.2.1.1 ((waysL S.2.1).getD i []) with
          | false =>
            rw [hs] at hw
            exact ⟨fun _ => no hw, fun z => absurd rfl z⟩
          | true =>
            rw [hs] at hw
            refine ⟨fun z => absurd z (by decide), fun _ => ?_⟩
            refine sX6_addFitting hb g3 g4 g5 g6 (fun v hfv hjv v3 v4 v5 v6 => ?_)
            refine ih (i + 1) v (by omega) (hfu.tr hfv) (fun j hjj => by rw [hjv j hjj]; exact hj j hjj) ⟨?_, ?_, ?_, fun l hl => ?_⟩
            · unfold nF; rw [hw]; simpa using v3
            · unfold aF; rw [hw]; simpa using v4
            · unfold sF; rw [hw]; simpa using v5
            · unfold lF; rw [hw]; simpa using v6 l hl
        · have k1 := eq_true c1
          have k0 := eq_false c0
          simp (disch := omega) only [hWu.1, e, m4', e1, e2, k1, k0, lit_nI, nI_ltI, nI_leI, nI_eq, nI_clamp, vp_in_nI, forall_eq, true_and, and_true, false_and, and_false, true_implies, false_implies, implies_true, not_true, not_false_eq_true, nI_add, pk_mul, nI_sub, shl1, shr1, fa_or, fa_and, nI_m9, nI_m9s]
          refine no ?_
          unfold wF fitsB
          rw [c1, show (wB S.2.1 i &&& tookB S.2.2.2.2.2.1 0 == 0) = false from beq_eq_false_iff_ne.mpr c0]; simp
      · have k1 := eq_false c1
        simp (disch := omega) only [hWu.1, e, m4', e1, e2, k1, lit_nI, nI_ltI, nI_leI, nI_eq, nI_clamp, vp_in_nI, forall_eq, true_and, and_true, false_and, and_false, true_implies, false_implies, implies_true, not_true, not_false_eq_true, nI_add, pk_mul, nI_sub, shl1, shr1, fa_or, fa_and, nI_m9, nI_m9s]
        refine no ?_
        unfold wF fitsB
        rw [show (wB S.2.1 i &&& tookB S.2.2.2.2.2.1 1 == tookB S.2.2.2.2.2.1 1) = false from beq_eq_false_iff_ne.mpr c1]; simp
  have loop1 : ∀ (K : St → Prop) (t : St), (∀ u, Fr (fun k => k = 90) t u → (∀ l, l < 6 → u.1 90 l = nI 0) → K u) → ∀ d l u, l + d = 6 → Fr (fun k => k = 90) t u → (∀ j, j < l → u.1 90 j = nI 0) → wX6_guess_18 89 21 K Q (d + 1) (nI l) u := by
    intro K t hK d
    induction d with
    | zero =>
      intro l u hl hfu h1
      unfold wX6_guess_18
      have e : 6 ≤ l := by omega
      simp (disch := omega) only [e, lit_nI, nI_ltI, nI_leI, nI_eq, nI_clamp, vp_in_nI, forall_eq, true_and, and_true, false_and, and_false, true_implies, false_implies, implies_true, not_true, not_false_eq_true, nI_add, pk_mul, nI_sub, shl1, shr1, fa_or, fa_and, nI_m9, nI_m9s]
      exact hK u hfu (fun j hj => h1 j (by omega))
    | succ d ih =>
      intro l u hl hfu h1
      unfold wX6_guess_18
      have e : ¬ 6 ≤ l := by omega
      simp (disch := omega) only [e, lit_nI, nI_ltI, nI_leI, nI_eq, nI_clamp, vp_in_nI, forall_eq, true_and, and_true, false_and, and_false, true_implies, false_implies, implies_true, not_true, not_false_eq_true, nI_add, pk_mul, nI_sub, shl1, shr1, fa_or, fa_and, nI_m9, nI_m9s]
      refine ih (l + 1) _ (by omega) (Fr.I (k := 90) hfu rfl) (fun j hj => ?_)
      by_cases cj : j = l
      · subst cj; rw [rI_eq]
      · rw [rI_nj cj]; exact h1 j (by omega)
  unfold wX6_guess
  intro t1 ht1 t2 ht2 t3 ht3
  have hf3 : Fr (fun k => k = 89 ∨ k = 90) s t3 := by rw [ht3, ht2, ht1]; exact ((Fr.rf.I (by omega)).I (by omega)).I (by omega)
  refine ⟨_, loop1 _ t3 (fun u hfu h1 => ⟨_, loop2 (waysL S.2.1).length 0 u (by omega) (hf3.tr (hfu.wk (by intro k; omega))) (fun j hj => ?_) ⟨?_, ?_, ?_, h1⟩⟩) 6 0 t3 (by omega) Fr.rf (fun j hj => by omega)⟩
  · rw [hfu.1 89 (by omega), ht3, ht2, ht1, rI_nj (by omega), rI_nj (by omega), rI_nj (by omega)]
  · rw [hfu.1 89 (by omega), ht3, ht2, ht1, rI_nj (by omega), rI_nj (by omega), rI_eq]; rfl
  · rw [hfu.1 89 (by omega), ht3, ht2, rI_nj (by omega), rI_eq]; rfl
  · rw [hfu.1 89 (by omega), ht3, rI_eq]; rfl
