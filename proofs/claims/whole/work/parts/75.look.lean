/-! the class's can, look -/
theorem sX9_gss {S : Sp} {s : St} {Q : St → Prop} (h : RC S s) (hok : okSp S) (h33 : (waysL S.2.1).length ≤ 33) (hQ : ∀ u, RC S u → KM s u → GuessC S (waysL S.2.1).length u → Q u) : IsG s.2.2.1 ∧ wX8_measure 21 s.2.2.1 14 6 s (fun t => wX6_guess 89 21 t Q) := by
  obtain ⟨-, -, o3, o4, -, -, -, -, -, o10⟩ := id hok
  have l6 := o3.2.2.1
  refine sX9_meas h hok h33 (fun u hR hf hM => ?_)
  refine sX6_guess o3 o4 (tookB_lt _ _ _ (fun q hq => by have := (o10 q hq).1; omega) (by omega)) (tookB_lt _ _ _ (fun q hq => by have := (o10 q hq).1; omega) (by omega)) hR.2.2.2.2.2.2.2.1 h33 hM hR.2.2.2.2.2.2.1 (fun v hfv hS hg => ?_)
  refine hQ v ?_ ⟨fun k hk => by rw [hfv.1 k (by omega), hf.1 k (by omega)], by rw [hfv.2, hf.2]⟩ hg
  obtain ⟨a1, a2, a3, a4, a5, a6, a7, a8, a9, a10, a11⟩ := hR
  have g := a2.g
  refine ⟨a1.fr hfv (by omega), a2.fr hfv, ?_, a4.fr hfv (by intro k; omega), a5.fr hfv (by intro k; omega), a6.fr hfv ⟨by omega, by intro k; omega⟩, hS, a8.fr hfv (by intro k; omega), a9.fr hfv (by omega), a10.fr hfv (by omega), by rw [hfv.2]; exact a11⟩
  rw [hfv.2]
  exact a3.fr hfv (by intro k; omega)
def gN (S : Sp) : Nat := nF (wF S) (waysL S.2.1).length
def gA (S : Sp) : Nat := aF (wF S) (wB S.2.1) (waysL S.2.1).length
def gS (S : Sp) : Nat := sF (wF S) (wB S.2.1) (waysL S.2.1).length
def gL (S : Sp) (l : Nat) : Nat := lF (wF S) (wB S.2.1) l (waysL S.2.1).length
def cCan (S : Sp) (x : Int32) : Int32 := if x = 0 then nI (gN S) else if x = 1 then (if gN S = 0 then -9 else nI (gA S)) else if x = 2 then nI (gS S) else -1
theorem I3 {x : Int32} (h : ¬ x < 0) (h2 : x ≤ 2) : x = 0 ∨ x = 1 ∨ x = 2 := by
  rcases arg_cases x 3 (by omega) with c | ⟨-, c⟩ | ⟨j, hj, c⟩
  · exact absurd c h
  · rw [Int32.le_iff_toInt_le] at h2 c
    rw [show (2 : Int32).toInt = 2 from rfl] at h2
    rw [show (nI 3).toInt = 3 from rfl] at c
    omega
  · subst c
    rcases (show j = 0 ∨ j = 1 ∨ j = 2 by omega) with rfl | rfl | rfl
    · left; rfl
    · right; left; rfl
    · right; right; rfl
theorem kX9_can {S : Sp} {s : St} {x : Int32} {Q : Int32 → St → Prop} (h : RC S s) (hok : okSp S) (h33 : (waysL S.2.1).length ≤ 33) (hQ : ∀ t, RC S t → KM s t → Q (cCan S x) t) : wX9_can x s Q := by
  unfold cCan at hQ
  unfold wX9_can
  have bad : (x < 0 ∨ ¬ x ≤ 2) → Q (-1) s := by
    intro c
    have q := hQ s h (KM.rf s)
    have n0 : ¬ x = 0 := by rintro rfl; revert c; decide
    have n1 : ¬ x = 1 := by rintro rfl; revert c; decide
    have n2 : ¬ x = 2 := by rintro rfl; revert c; decide
    rw [if_neg n0, if_neg n1, if_neg n2] at q; exact q
  refine ⟨fun c => bad (Or.inl c), fun c => ⟨fun c2 => ?_, fun c2 => bad (Or.inr c2)⟩⟩
  refine sX9_gss h hok h33 (fun u hR hK hg => ?_)
  obtain ⟨g3, g4, g5, g6⟩ := hg
  have q := hQ u hR hK
  have hn : nF (wF S) (waysL S.2.1).length ≤ 33 := Nat.le_trans (nF_le _ _) h33
  rcases I3 c c2 with rfl | rfl | rfl
  · refine ⟨fun _ => ?_, fun z => absurd rfl z⟩
    rw [g3]; exact q
  · refine ⟨fun z => absurd z (by decide), fun _ => ⟨fun _ => ?_, fun z => absurd rfl z⟩⟩
    rw [if_neg (by decide), if_pos rfl] at q
    rw [g3, g4]
    by_cases c0 : gN S = 0
    · rw [if_pos c0] at q
      have : nF (wF S) (waysL S.2.1).length = 0 := c0
      rw [this]
      exact ⟨fun z => absurd rfl z, fun _ => q⟩
    · rw [if_neg c0] at q
      refine ⟨fun _ => q, fun z => absurd (nI_inj (b := 0) (by omega) (by omega) z) c0⟩
  · refine ⟨fun z => absurd z (by decide), fun _ => ⟨fun z => absurd z (by decide), fun _ => ?_⟩⟩
    rw [g5]; exact q
def mxN (a b : Nat) : Nat := if a < b then b else a
/-- the first lane of those that part best -/
def lkS (n : Nat) (c : Nat → Nat) : Nat → Option (Nat × Nat)
  | 0 => none
  | l + 1 => match lkS n c l with
    | none => some (l, mxN (c l) (n - c l))
    | some q => if mxN (c l) (n - c l) < q.2 then some (l, mxN (c l) (n - c l)) else some q
theorem lkS_lt (n : Nat) (c : Nat → Nat) : ∀ {l : Nat} {q : Nat × Nat}, lkS n c l = some q → q.1 < l ∧ q.2 ≤ mxN n n + 0 + q.2
  | 0, q, h => by simp [lkS] at h
  | l + 1, q, h => by
    refine ⟨?_, by omega⟩
    unfold lkS at h
    split at h
    · cases h; simp
    · rename_i q2 h2
      have := (lkS_lt n c h2).1
      split at h
      · cases h; simp
      · cases h; omega
theorem lkS_le (n : Nat) (c : Nat → Nat) (hc : ∀ l, c l ≤ n) : ∀ {l : Nat} {q : Nat × Nat}, lkS n c l = some q → q.2 ≤ n
  | 0, q, h => by simp [lkS] at h
  | l + 1, q, h => by
    have hm : mxN (c l) (n - c l) ≤ n := by have := hc l; unfold mxN; split <;> omega
    unfold lkS at h
    split at h
    · cases h; exact hm
    · rename_i q2 h2
      have := lkS_le n c hc h2
      split at h
      · cases h; exact hm
      · cases h; exact this
def cLook (S : Sp) : Int32 := if gN S < 2 then -9 else oI ((lkS (gN S) (gL S) S.2.1.2.length).map (·.1))
theorem kX9_look {S : Sp} {s : St} {Q : Int32 → St → Prop} (h : RC S s) (hok : okSp S) (h33 : (waysL S.2.1).length ≤ 33) (hQ : ∀ t, RC S t → KM s t → Q (cLook S) t) : wX9_look s Q := by
  obtain ⟨-, -, o3, -⟩ := id hok
  have l6 := o3.2.2.1
  unfold cLook at hQ
  unfold wX9_look
  refine sX9_gss h hok h33 (fun u hR hK hg => ?_)
  obtain ⟨g3, g4, g5, g6⟩ := hg
  have hn : gN S ≤ 33 := Nat.le_trans (nF_le _ _) h33
  have hl : ∀ l, gL S l ≤ gN S := fun l => lF_le _ _ _ _
  have g3' : u.1 89 3 = nI (gN S) := g3
  have g6' : ∀ l, l < 6 → u.1 90 l = nI (gL S l) := g6
  have q := hQ u hR hK
  by_cases c : gN S < 2
  · rw [if_pos c] at q
    have e : ¬ 2 ≤ gN S := by omega
    simp (disch := omega) only [g3', e, lit_nI, nI_ltI, nI_leI, nI_eq, nI_clamp, vp_in_nI, forall_eq, true_and, and_true, false_and, and_false, true_implies, false_implies, implies_true, not_true, not_false_eq_true, nI_add, pk_mul, nI_sub, shl1, shr1, fa_or, fa_and, nI_m9, nI_m9s]
    exact q
  · rw [if_neg c] at q
    have e : 2 ≤ gN S := by omega
    have key : ∀ d l, l + d = S.2.1.2.length → ∀ x2 : Int32, (∀ z, lkS (gN S) (gL S) l = some z → x2 = nI z.2) → wX9_look_50 Q (d + 1) (oI ((lkS (gN S) (gL S) l).map (·.1))) x2 (nI l) u := by
      intro d
      induction d with
      | zero =>
        intro l hl2 x2 hx2
        unfold wX9_look_50
        have el : l = S.2.1.2.length := by omega
        subst el
        simp (disch := omega) only [hR.2.2.1.2.1, Nat.le_refl, lit_nI, nI_ltI, nI_leI, nI_eq, nI_clamp, vp_in_nI, forall_eq, true_and, and_true, false_and, and_false, true_implies, false_implies, implies_true, not_true, not_false_eq_true, nI_add, pk_mul, nI_sub, shl1, shr1, fa_or, fa_and, nI_m9, nI_m9s]
        exact ⟨hR.G, q⟩
      | succ d ih =>
        intro l hl2 x2 hx2
        have c1 : ¬ S.2.1.2.length ≤ l := by omega
        have ev := g6' l (by omega)
        have hll := hl l
        have hm : (if nI (gL S l) < nI (gN S) - nI (gL S l) then nI (gN S) - nI (gL S l) else nI (gL S l)) = nI (mxN (gL S l) (gN S - gL S l)) := by
          rw [nI_sub hll]
          unfold mxN
          by_cases cc : gL S l < gN S - gL S l
          · rw [if_pos cc, if_pos ((nI_ltI (by omega) (by omega)).mpr cc)]
          · rw [if_neg cc, if_neg (fun z => cc ((nI_ltI (by omega) (by omega)).mp z))]
        have hmx : mxN (gL S l) (gN S - gL S l) ≤ 33 := by unfold mxN; split <;> omega
        have ih2 := ih (l + 1) (by omega)
        unfold lkS at ih2
        unfold wX9_look_50 wX9_look_101 wX9_look_106
        rw [hR.2.2.1.2.1, nI_clamp (by omega), g3', ev, hm]
        cases hz : lkS (gN S) (gL S) l with
        | none =>
          rw [hz] at ih2
          dsimp only at ih2
          simp (disch := omega) only [c1, oI_none, Option.map_none, lit_nI, nI_ltI, nI_leI, nI_eq, nI_clamp, vp_in_nI, forall_eq, true_and, and_true, false_and, and_false, true_implies, false_implies, implies_true, not_true, not_false_eq_true, nI_add, pk_mul, nI_sub, shl1, shr1, fa_or, fa_and, nI_m9, nI_m9s]
          refine ⟨hR.G, ih2 _ (fun z hz => by cases hz; rfl)⟩
        | some z =>
          rw [hz] at ih2
          have hx := hx2 z hz
          subst hx
          dsimp only at ih2
          have z1 := (lkS_lt _ _ hz).1
          have z2 := lkS_le _ _ hl hz
          by_cases cc : mxN (gL S l) (gN S - gL S l) < z.2
          · rw [if_pos cc] at ih2
            have e1 : ¬ z.2 ≤ mxN (gL S l) (gN S - gL S l) := by omega
            simp (disch := omega) only [c1, Option.map_some, oI_some, e1, lit_nI, nI_ltI, nI_leI, nI_eq, nI_clamp, vp_in_nI, forall_eq, true_and, and_true, false_and, and_false, true_implies, false_implies, implies_true, not_true, not_false_eq_true, nI_add, pk_mul, nI_sub, shl1, shr1, fa_or, fa_and, nI_m9, nI_m9s]
            exact ⟨hR.G, ih2 _ (fun z hz => by cases hz; rfl)⟩
          · rw [if_neg cc] at ih2
            have e1 : z.2 ≤ mxN (gL S l) (gN S - gL S l) := by omega
            simp (disch := omega) only [c1, Option.map_some, oI_some, e1, lit_nI, nI_ltI, nI_leI, nI_eq, nI_clamp, vp_in_nI, forall_eq, true_and, and_true, false_and, and_false, true_implies, false_implies, implies_true, not_true, not_false_eq_true, nI_add, pk_mul, nI_sub, shl1, shr1, fa_or, fa_and, nI_m9, nI_m9s]
            exact ⟨hR.G, ih2 _ (fun z hz => by cases hz; rfl)⟩
    simp (disch := omega) only [g3', e, lit_nI, nI_ltI, nI_leI, nI_eq, nI_clamp, vp_in_nI, forall_eq, true_and, and_true, false_and, and_false, true_implies, false_implies, implies_true, not_true, not_false_eq_true, nI_add, pk_mul, nI_sub, shl1, shr1, fa_or, fa_and, nI_m9, nI_m9s]
    exact ⟨_, key S.2.1.2.length 0 (by omega) _ (fun z hz => by simp [lkS] at hz)⟩
