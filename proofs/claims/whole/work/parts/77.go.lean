/-! the class's search, on: the cheapest, the first -/
/-- no bond is broken by the lengths chosen yet -/
def pOK (B : List (Nat × Nat)) : List Nat → Nat → Bool
  | _, 0 => true
  | M, j + 1 => pOK B M j && B.all (fun b => !(b.1.testBit j || b.2.testBit j) || decide (exP b M (j + 1) ≤ 0))
def okP (B : List (Nat × Nat)) (M : List Nat) : Bool := pOK B M M.length
theorem pOK_app (B : List (Nat × Nat)) (M E : List Nat) : ∀ j, j ≤ M.length → pOK B (M ++ E) j = pOK B M j
  | 0, _ => rfl
  | j + 1, h => by
    unfold pOK
    rw [pOK_app B M E j (by omega)]
    simp only [exP_app _ M E (j + 1) h]
theorem okP_snoc {B : List (Nat × Nat)} {M : List Nat} {x : Nat} : okP B (M ++ [x]) = (okP B M && B.all (fun b => !(b.1.testBit M.length || b.2.testBit M.length) || decide (exA b (M ++ [x]) ≤ 0))) := by
  unfold okP exA
  rw [List.length_append]
  show (pOK B (M ++ [x]) M.length && _) = _
  rw [pOK_app B M [x] M.length (Nat.le_refl _)]
  rfl
theorem okP_dn {B : List (Nat × Nat)} {M E : List Nat} (h : okP B (M ++ E) = true) : okP B M = true := by
  unfold okP at h ⊢
  rw [← pOK_app B M E M.length (Nat.le_refl _)]
  have : ∀ d j, pOK B (M ++ E) (j + d) = true → pOK B (M ++ E) j = true := by
    intro d
    induction d with
    | zero => intro j h; exact h
    | succ d ih =>
      intro j h
      refine ih j ?_
      rw [← Nat.add_assoc] at h
      unfold pOK at h
      rw [Bool.and_eq_true] at h
      exact h.1
  rw [List.length_append] at h
  exact this _ _ h
theorem okP_nil (B : List (Nat × Nat)) : okP B [] = true := rfl
/-- which lengths of the next lane break no bond -/
theorem okP_next {B : List (Nat × Nat)} {pre : List Nat} {x : Nat} {lo hi : Int} (hB : okBd B) (h0 : okP B pre = true) (hlo : ∀ x : Int, lo ≤ x ↔ (1 ≤ x ∧ ∀ b ∈ B, b.2.testBit pre.length = true → 5 + exA b pre ≤ x)) (hhi : ∀ x : Int, x ≤ hi ↔ (x ≤ 5 ∧ ∀ b ∈ B, b.1.testBit pre.length = true → x ≤ 1 - exA b pre)) : (lo ≤ (x : Int) ∧ (x : Int) ≤ hi) ↔ (1 ≤ x ∧ x ≤ 5 ∧ okP B (pre ++ [x]) = true) := by
  rw [okP_snoc, h0, Bool.true_and, List.all_eq_true, hlo, hhi]
  constructor
  · rintro ⟨⟨a1, a2⟩, a3, a4⟩
    refine ⟨by omega, by omega, fun b hb => ?_⟩
    have d := (hB.2 b hb).2.2 pre.length
    rw [exA_snoc]
    unfold ct
    cases c1 : b.1.testBit pre.length with
    | true =>
      have := a4 b hb c1
      simp; omega
    | false =>
      cases c2 : b.2.testBit pre.length with
      | true =>
        have := a2 b hb c2
        simp; omega
      | false => simp
  · rintro ⟨a1, a2, a3⟩
    refine ⟨⟨by omega, fun b hb c2 => ?_⟩, by omega, fun b hb c1 => ?_⟩
    · have d := (hB.2 b hb).2.2 pre.length
      have := a3 b hb
      rw [exA_snoc] at this
      unfold ct at this
      have c1 : b.1.testBit pre.length = false := by
        cases c1 : b.1.testBit pre.length with
        | false => rfl
        | true => exact absurd ⟨c1, c2⟩ d
      rw [c1, c2] at this
      simp at this
      omega
    · have := a3 b hb
      rw [exA_snoc] at this
      unfold ct at this
      rw [c1] at this
      simp at this
      omega
def dif (x y : Nat) : Nat := if x < y then y - x else x - y
theorem costL_cons (ln : Lane) (r : List Lane) (x y : Nat) (L M : List Nat) : costL (ln :: r) (x :: L) (y :: M) = ln.2.2 * dif x y + costL r L M := rfl
theorem allL_in : ∀ {k : Nat} {E : List Nat}, E ∈ allL k ↔ (E.length = k ∧ in15 E)
  | 0, E => by
    unfold allL
    simp only [List.mem_singleton]
    constructor
    · rintro rfl; exact ⟨rfl, fun y hy => by simp at hy⟩
    · rintro ⟨h, -⟩; exact List.length_eq_zero_iff.mp h
  | k + 1, E => by
    unfold allL
    rw [List.mem_flatMap]
    constructor
    · rintro ⟨x, hx, hE⟩
      obtain ⟨M, hM, rfl⟩ := List.mem_map.mp hE
      obtain ⟨h1, h2⟩ := allL_in.mp hM
      refine ⟨by rw [List.length_cons, h1], fun y hy => ?_⟩
      rcases List.mem_cons.mp hy with rfl | hy
      · simp at hx; omega
      · exact h2 y hy
    · rintro ⟨h1, h2⟩
      cases E with
      | nil => cases h1
      | cons x M =>
        have := h2 x (List.mem_cons_self ..)
        refine ⟨x, by simp; omega, List.mem_map.mpr ⟨M, allL_in.mpr ⟨by simpa using h1, fun y hy => h2 y (List.mem_cons_of_mem _ hy)⟩, rfl⟩⟩
/-- the first of the lengths from some on -/
def fLp (f : Nat → Option (List Nat)) : Nat → Nat → Option (List Nat)
  | 0, _ => none
  | d + 1, x => match f x with
    | some E => some (x :: E)
    | none => fLp f d (x + 1)
theorem fLp_all (k : Nat) (p : List Nat → Bool) : (allL (k + 1)).find? p = fLp (fun x => (allL k).find? (fun E => p (x :: E))) 5 1 := by
  show ([1, 2, 3, 4, 5].flatMap (fun x => (allL k).map (fun M => x :: M))).find? p = _
  generalize allL k = A
  have h1 : ∀ x, (A.map (fun M => x :: M)).find? p = (A.find? (fun E => p (x :: E))).map (fun M => x :: M) := fun x => by
    rw [List.find?_map]; rfl
  simp only [List.flatMap_cons, List.flatMap_nil, List.find?_append, h1, fLp, List.append_nil]
  cases A.find? (fun E => p (1 :: E)) with
  | some E => rfl
  | none =>
    cases A.find? (fun E => p (2 :: E)) with
    | some E => rfl
    | none =>
      cases A.find? (fun E => p (3 :: E)) with
      | some E => rfl
      | none =>
        cases A.find? (fun E => p (4 :: E)) with
        | some E => rfl
        | none =>
          cases A.find? (fun E => p (5 :: E)) with
          | some E => rfl
          | none => rfl
section GO
variable {ls : List Lane} {L0 : List Nat} {B : List (Nat × Nat)}
def fE (ls : List Lane) (L0 : List Nat) (B : List (Nat × Nat)) (k : Nat) (pre : List Nat) (left : Nat) : Option (List Nat) := (allL k).find? (fun E => okP B (pre ++ E) && decide (costL (ls.drop pre.length) (L0.drop pre.length) E ≤ left))
theorem fE_no {k : Nat} {pre : List Nat} {left : Nat} (h : okP B pre = false) : fE ls L0 B k pre left = none := by
  unfold fE
  rw [List.find?_eq_none]
  intro E hE hc
  rw [Bool.and_eq_true] at hc
  rw [okP_dn hc.1] at h
  cases h
end GO
