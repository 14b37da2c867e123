/-! the class's search: numbers below 0; bonds -/
def zI (z : Int) : Int32 := Int32.ofInt z
theorem nI_z (n : Nat) : nI n = zI n := Int32.ofInt_eq_ofNat.symm
theorem zI_add (a b : Int) : zI a + zI b = zI (a + b) := (Int32.ofInt_add a b).symm
theorem zI_sub (a b : Int) : zI a - zI b = zI (a - b) := (Int32.ofInt_sub a b).symm
theorem zI_mul (a b : Int) : zI a * zI b = zI (a * b) := (Int32.ofInt_mul a b).symm
theorem zI_to {a : Int} (h1 : -1000000 ≤ a) (h2 : a ≤ 1000000) : (zI a).toInt = a := Int32.toInt_ofInt_of_le (by omega) (by omega)
theorem zI_le {a b : Int} (h1 : -1000000 ≤ a) (h2 : a ≤ 1000000) (h3 : -1000000 ≤ b) (h4 : b ≤ 1000000) : zI a ≤ zI b ↔ a ≤ b := by
  rw [Int32.le_iff_toInt_le, zI_to h1 h2, zI_to h3 h4]
theorem zI_lt {a b : Int} (h1 : -1000000 ≤ a) (h2 : a ≤ 1000000) (h3 : -1000000 ≤ b) (h4 : b ≤ 1000000) : zI a < zI b ↔ a < b := by
  rw [Int32.lt_iff_toInt_lt, zI_to h1 h2, zI_to h3 h4]
def pc (m : Nat) : Nat := (m.testBit 0).toNat + (m.testBit 1).toNat + (m.testBit 2).toNat + (m.testBit 3).toNat + (m.testBit 4).toNat + (m.testBit 5).toNat
theorem pc_le (m : Nat) : pc m ≤ 6 := by
  have h : ∀ b : Bool, b.toNat ≤ 1 := by decide
  unfold pc
  have := h (m.testBit 0); have := h (m.testBit 1); have := h (m.testBit 2); have := h (m.testBit 3); have := h (m.testBit 4); have := h (m.testBit 5)
  omega
/-- how much more a bond's excess is with a lane's length -/
def ct (b : Nat × Nat) (j x : Nat) : Int := if b.1.testBit j then (x : Int) - 1 else if b.2.testBit j then 5 - (x : Int) else 0
def exP (b : Nat × Nat) (M : List Nat) : Nat → Int
  | 0 => (pc b.1 : Int) - 5 * (pc b.2 : Int)
  | j + 1 => exP b M j + ct b j (M.getD j 0)
def exA (b : Nat × Nat) (M : List Nat) : Int := exP b M M.length
def in15 (M : List Nat) : Prop := ∀ y ∈ M, 1 ≤ y ∧ y ≤ 5
theorem in15.at {M : List Nat} (h : in15 M) {j : Nat} (hj : j < M.length) : 1 ≤ M.getD j 0 ∧ M.getD j 0 ≤ 5 := h _ (List.mem_of_getElem? (getD_get hj))
theorem in15.snoc {M : List Nat} (h : in15 M) {x : Nat} (h1 : 1 ≤ x) (h5 : x ≤ 5) : in15 (M ++ [x]) := by
  intro y hy
  rcases List.mem_append.mp hy with h' | h'
  · exact h y h'
  · simp at h'; omega
theorem ct_in {b : Nat × Nat} {j x : Nat} (h1 : 1 ≤ x) (h5 : x ≤ 5) : 0 ≤ ct b j x ∧ ct b j x ≤ 4 := by
  unfold ct
  split
  · omega
  · split <;> omega
theorem exP_in {b : Nat × Nat} {M : List Nat} (h : in15 M) : ∀ j, j ≤ M.length → -30 ≤ exP b M j ∧ exP b M j ≤ 6 + 4 * (j : Int)
  | 0, _ => by
    have := pc_le b.1; have := pc_le b.2
    unfold exP; omega
  | j + 1, hj => by
    have ih := exP_in (b := b) h j (by omega)
    have := h.at (show j < M.length by omega)
    have := ct_in (b := b) (j := j) this.1 this.2
    unfold exP; omega
theorem exP_app (b : Nat × Nat) (M E : List Nat) : ∀ j, j ≤ M.length → exP b (M ++ E) j = exP b M j
  | 0, _ => rfl
  | j + 1, h => by
    unfold exP
    rw [exP_app b M E j (by omega)]
    have : (M ++ E).getD j 0 = M.getD j 0 := by
      rw [List.getD_eq_getElem?_getD, List.getD_eq_getElem?_getD, List.getElem?_append_left (by omega)]
    rw [this]
theorem exA_snoc (b : Nat × Nat) (M : List Nat) (x : Nat) : exA b (M ++ [x]) = exA b M + ct b M.length x := by
  unfold exA
  rw [List.length_append]
  show exP b (M ++ [x]) M.length + ct b M.length ((M ++ [x]).getD M.length 0) = _
  rw [exP_app b M [x] M.length (Nat.le_refl _), getD_app_eq]
/-- the search's rows, with some lengths chosen -/
def SrI (ls : List Lane) (L0 : List Nat) (B : List (Nat × Nat)) (pre : List Nat) (σ : St) : Prop := σ.1 72 0 = nI ls.length ∧ σ.1 72 1 = nI B.length ∧ (∀ i b, B[i]? = some b → σ.1 73 i = nI b.1 ∧ σ.1 74 i = nI b.2 ∧ ∀ j, j ≤ pre.length → σ.1 (76 + j) i = zI (exP b pre j)) ∧ rowAt (σ.1 83) 0 L0 ∧ rowAt (σ.1 84) 0 (ls.map (·.2.2)) ∧ rowAt (σ.1 85) 0 pre
def okBd (B : List (Nat × Nat)) : Prop := B.length ≤ 20 ∧ ∀ b ∈ B, b.1 < 64 ∧ b.2 < 64 ∧ ∀ j, ¬ (b.1.testBit j = true ∧ b.2.testBit j = true)
section SRCH
variable {ls : List Lane} {L0 : List Nat} {B : List (Nat × Nat)} {pre : List Nat} {s : St}
theorem SrI.dn {E : List Nat} (h : SrI ls L0 B (pre ++ E) s) : SrI ls L0 B pre s := by
  obtain ⟨h1, h2, h3, h4, h5, h6⟩ := h
  refine ⟨h1, h2, fun i b hb => ?_, h4, h5, fun k p hp => h6 k p ?_⟩
  · obtain ⟨a1, a2, a3⟩ := h3 i b hb
    refine ⟨a1, a2, fun j hj => ?_⟩
    rw [a3 j (by rw [List.length_append]; omega), exP_app b pre E j hj]
  · rw [List.getElem?_append_left (List.getElem?_eq_some_iff.mp hp).1]; exact hp
theorem bd_get {i : Nat} (h : i < B.length) : B[i]? = some (B.getD i (0, 0)) := by rw [List.getD_eq_getElem?_getD, List.getElem?_eq_getElem h]; rfl
theorem sX4_lowest {Q : Int32 → St → Prop} (hI : SrI ls L0 B pre s) (hB : okBd B) (hl : pre.length < 6) (hp : in15 pre) (hQ : ∀ lo : Int, 1 ≤ lo → lo ≤ 50 → (∀ x : Int, lo ≤ x ↔ (1 ≤ x ∧ ∀ b ∈ B, b.2.testBit pre.length = true → 5 + exA b pre ≤ x)) → Q (zI lo) s) : wX4_lowest 72 (nI pre.length) s Q := by
  obtain ⟨h1, h2, h3, -⟩ := hI
  have key : ∀ d i (lo : Int), i + d = B.length → 1 ≤ lo → lo ≤ 50 → (∀ x : Int, lo ≤ x ↔ (1 ≤ x ∧ ∀ j b, j < i → B[j]? = some b → b.2.testBit pre.length = true → 5 + exA b pre ≤ x)) → wX4_lowest_4 72 (nI pre.length) Q (d + 1) (zI lo) (nI i) s := by
    intro d
    induction d with
    | zero =>
      intro i lo hi g1 g2 g3
      unfold wX4_lowest_4
      have e : B.length ≤ i := by omega
      have hb := hB.1
      simp (disch := omega) only [h2, e, lit_nI, nI_ltI, nI_leI, nI_eq, nI_clamp, vp_in_nI, forall_eq, true_and, and_true, false_and, and_false, true_implies, false_implies, implies_true, not_true, not_false_eq_true, nI_add, pk_mul, nI_sub, shl1, shr1, fa_or, fa_and, nI_m9, nI_m9s]
      refine hQ lo g1 g2 (fun x => (g3 x).trans ⟨fun z => ⟨z.1, fun b hb => ?_⟩, fun z => ⟨z.1, fun j b _ hj => z.2 b (List.mem_of_getElem? hj)⟩⟩)
      obtain ⟨j, hj⟩ := List.getElem?_of_mem hb
      have := (List.getElem?_eq_some_iff.mp hj).1
      exact z.2 j b (by omega) hj
    | succ d ih =>
      intro i lo hi g1 g2 g3
      have hi2 : i < B.length := by omega
      have hb := hB.1
      obtain ⟨a1, a2, a3⟩ := h3 i _ (bd_get hi2)
      obtain ⟨b1, b2, b3⟩ := hB.2 _ (List.mem_of_getElem? (bd_get hi2))
      have e : ¬ B.length ≤ i := by omega
      have hx := a3 pre.length (Nat.le_refl _)
      have hin := exP_in (b := B.getD i (0, 0)) hp pre.length (Nat.le_refl _)
      unfold wX4_lowest_4 wX4_lowest_41
      cases c : (B.getD i (0, 0)).2.testBit pre.length with
      | false =>
        simp (disch := omega) only [h2, e, a2, c, Bool.false_eq_true, if_false, Nat.zero_ne_one, lit_nI, nI_ltI, nI_leI, nI_eq, nI_clamp, vp_in_nI, forall_eq, true_and, and_true, false_and, and_false, true_implies, false_implies, implies_true, not_true, not_false_eq_true, nI_add, pk_mul, nI_sub, shl1, shr1, fa_or, fa_and, nI_m9, nI_m9s]
        refine ih (i + 1) lo (by omega) g1 g2 (fun x => (g3 x).trans ⟨fun z => ⟨z.1, fun j b hj hb hc => ?_⟩, fun z => ⟨z.1, fun j b hj => z.2 j b (by omega)⟩⟩)
        by_cases cj : j = i
        · subst cj; rw [bd_get hi2] at hb; cases hb; rw [c] at hc; cases hc
        · exact z.2 j b (by omega) hb hc
      | true =>
        simp (disch := omega) only [h2, e, a2, c, if_true, lit_nI, nI_ltI, nI_leI, nI_eq, nI_clamp, vp_in_nI, forall_eq, true_and, and_true, false_and, and_false, true_implies, false_implies, implies_true, not_true, not_false_eq_true, nI_add, pk_mul, nI_sub, shl1, shr1, fa_or, fa_and, nI_m9, nI_m9s]
        have hx' : s.1 (72 + 4 + 1 * pre.length) i = zI (exP (B.getD i (0, 0)) pre pre.length) := by rw [show 72 + 4 + 1 * pre.length = 76 + pre.length by omega]; exact hx
        have hm : (if zI lo < nI 5 + s.1 (72 + 4 + 1 * pre.length) i then nI 5 + s.1 (72 + 4 + 1 * pre.length) i else zI lo) = zI (if lo < 5 + exA (B.getD i (0, 0)) pre then 5 + exA (B.getD i (0, 0)) pre else lo) := by
          rw [hx', show nI 5 = zI 5 from rfl, zI_add]
          by_cases cc : lo < 5 + exP (B.getD i (0, 0)) pre pre.length
          · rw [if_pos ((zI_lt (by omega) (by omega) (by omega) (by omega)).mpr cc)]; exact congrArg zI (if_pos cc).symm
          · rw [if_neg (fun z => cc ((zI_lt (by omega) (by omega) (by omega) (by omega)).mp z))]; exact congrArg zI (if_neg cc).symm
        rw [hm]
        have hxA : exA (B.getD i (0, 0)) pre = exP (B.getD i (0, 0)) pre pre.length := rfl
        refine ih (i + 1) _ (by omega) (by split <;> omega) (by split <;> omega) (fun x => ⟨fun z => ?_, fun z => ?_⟩)
        · have z2 := (g3 x).mp (by split at z <;> omega)
          refine ⟨z2.1, fun j b hj hb hc => ?_⟩
          by_cases cj : j = i
          · subst cj; rw [bd_get hi2] at hb; cases hb; split at z <;> omega
          · exact z2.2 j b (by omega) hb hc
        · have z2 := (g3 x).mpr ⟨z.1, fun j b hj => z.2 j b (by omega)⟩
          have z3 := z.2 i _ (by omega) (bd_get hi2) c
          split <;> omega
  unfold wX4_lowest
  exact ⟨_, key B.length 0 1 (by omega) (by omega) (by omega) (fun x => ⟨fun z => ⟨z, fun j b hj => by omega⟩, fun z => z.1⟩)⟩
theorem sX4_highest {Q : Int32 → St → Prop} (hI : SrI ls L0 B pre s) (hB : okBd B) (hl : pre.length < 6) (hp : in15 pre) (hQ : ∀ hi : Int, hi ≤ 5 → -50 ≤ hi → (∀ x : Int, x ≤ hi ↔ (x ≤ 5 ∧ ∀ b ∈ B, b.1.testBit pre.length = true → x ≤ 1 - exA b pre)) → Q (zI hi) s) : wX4_highest 72 (nI pre.length) s Q := by
  obtain ⟨h1, h2, h3, -⟩ := hI
  have key : ∀ d i (lo : Int), i + d = B.length → lo ≤ 5 → -50 ≤ lo → (∀ x : Int, x ≤ lo ↔ (x ≤ 5 ∧ ∀ j b, j < i → B[j]? = some b → b.1.testBit pre.length = true → x ≤ 1 - exA b pre)) → wX4_highest_4 72 (nI pre.length) Q (d + 1) (zI lo) (nI i) s := by
    intro d
    induction d with
    | zero =>
      intro i lo hi g1 g2 g3
      unfold wX4_highest_4
      have e : B.length ≤ i := by omega
      have hb := hB.1
      simp (disch := omega) only [h2, e, lit_nI, nI_ltI, nI_leI, nI_eq, nI_clamp, vp_in_nI, forall_eq, true_and, and_true, false_and, and_false, true_implies, false_implies, implies_true, not_true, not_false_eq_true, nI_add, pk_mul, nI_sub, shl1, shr1, fa_or, fa_and, nI_m9, nI_m9s]
      refine hQ lo g1 g2 (fun x => (g3 x).trans ⟨fun z => ⟨z.1, fun b hb => ?_⟩, fun z => ⟨z.1, fun j b _ hj => z.2 b (List.mem_of_getElem? hj)⟩⟩)
      obtain ⟨j, hj⟩ := List.getElem?_of_mem hb
      have := (List.getElem?_eq_some_iff.mp hj).1
      exact z.2 j b (by omega) hj
    | succ d ih =>
      intro i lo hi g1 g2 g3
      have hi2 : i < B.length := by omega
      have hb := hB.1
      obtain ⟨a1, a2, a3⟩ := h3 i _ (bd_get hi2)
      obtain ⟨b1, b2, b3⟩ := hB.2 _ (List.mem_of_getElem? (bd_get hi2))
      have e : ¬ B.length ≤ i := by omega
      have hx := a3 pre.length (Nat.le_refl _)
      have hin := exP_in (b := B.getD i (0, 0)) hp pre.length (Nat.le_refl _)
      unfold wX4_highest_4 wX4_highest_41
      cases c : (B.getD i (0, 0)).1.testBit pre.length with
      | false =>
        simp (disch := omega) only [h2, e, a1, c, Bool.false_eq_true, if_false, Nat.zero_ne_one, lit_nI, nI_ltI, nI_leI, nI_eq, nI_clamp, vp_in_nI, forall_eq, true_and, and_true, false_and, and_false, true_implies, false_implies, implies_true, not_true, not_false_eq_true, nI_add, pk_mul, nI_sub, shl1, shr1, fa_or, fa_and, nI_m9, nI_m9s]
        refine ih (i + 1) lo (by omega) g1 g2 (fun x => (g3 x).trans ⟨fun z => ⟨z.1, fun j b hj hb hc => ?_⟩, fun z => ⟨z.1, fun j b hj => z.2 j b (by omega)⟩⟩)
        by_cases cj : j = i
        · subst cj; rw [bd_get hi2] at hb; cases hb; rw [c] at hc; cases hc
        · exact z.2 j b (by omega) hb hc
      | true =>
        simp (disch := omega) only [h2, e, a1, c, if_true, lit_nI, nI_ltI, nI_leI, nI_eq, nI_clamp, vp_in_nI, forall_eq, true_and, and_true, false_and, and_false, true_implies, false_implies, implies_true, not_true, not_false_eq_true, nI_add, pk_mul, nI_sub, shl1, shr1, fa_or, fa_and, nI_m9, nI_m9s]
        have hx' : s.1 (72 + 4 + 1 * pre.length) i = zI (exP (B.getD i (0, 0)) pre pre.length) := by rw [show 72 + 4 + 1 * pre.length = 76 + pre.length by omega]; exact hx
        have hm : (if nI 1 - s.1 (72 + 4 + 1 * pre.length) i < zI lo then nI 1 - s.1 (72 + 4 + 1 * pre.length) i else zI lo) = zI (if 1 - exA (B.getD i (0, 0)) pre < lo then 1 - exA (B.getD i (0, 0)) pre else lo) := by
          rw [hx', show nI 1 = zI 1 from rfl, zI_sub]
          by_cases cc : 1 - exP (B.getD i (0, 0)) pre pre.length < lo
          · rw [if_pos ((zI_lt (by omega) (by omega) (by omega) (by omega)).mpr cc)]; exact congrArg zI (if_pos cc).symm
          · rw [if_neg (fun z => cc ((zI_lt (by omega) (by omega) (by omega) (by omega)).mp z))]; exact congrArg zI (if_neg cc).symm
        rw [hm]
        have hxA : exA (B.getD i (0, 0)) pre = exP (B.getD i (0, 0)) pre pre.length := rfl
        refine ih (i + 1) _ (by omega) (by split <;> omega) (by split <;> omega) (fun x => ⟨fun z => ?_, fun z => ?_⟩)
        · have z2 := (g3 x).mp (by split at z <;> omega)
          refine ⟨z2.1, fun j b hj hb hc => ?_⟩
          by_cases cj : j = i
          · subst cj; rw [bd_get hi2] at hb; cases hb; split at z <;> omega
          · exact z2.2 j b (by omega) hb hc
        · have z2 := (g3 x).mpr ⟨z.1, fun j b hj => z.2 j b (by omega)⟩
          have z3 := z.2 i _ (by omega) (bd_get hi2) c
          split <;> omega
  unfold wX4_highest
  exact ⟨_, key B.length 0 5 (by omega) (by omega) (by omega) (fun x => ⟨fun z => ⟨z, fun j b hj => by omega⟩, fun z => z.1⟩)⟩
def Frs (s u : St) : Prop := Fr (fun k => 72 ≤ k ∧ k ≤ 85) s u
theorem sX4_choose {x : Nat} {Q : St → Prop} (hI : SrI ls L0 B pre s) (hB : okBd B) (hl : pre.length < 6) (hp : in15 pre) (h1x : 1 ≤ x) (h5x : x ≤ 5) (hQ : ∀ u, Frs s u → u.1 72 = s.1 72 → SrI ls L0 B (pre ++ [x]) u → Q u) : wX4_choose 72 (nI pre.length) (nI x) s Q := by
  obtain ⟨h1, h2, h3, h4, h5, h6⟩ := hI
  unfold wX4_choose
  refine ⟨vp_in_nI hl (by omega), ?_⟩
  intro t ht
  rw [nI_clamp (by omega)] at ht
  have tk : ∀ k, k ≠ 85 → t.1 k = s.1 k := fun k hk => by rw [ht, rI_ne hk]
  have hft : Frs s t := by rw [ht]; exact Fr.rf.I (by omega)
  have key : ∀ d i u, i + d = B.length → Fr (fun k => k = 77 + pre.length) t u → (∀ j b, j < i → B[j]? = some b → u.1 (77 + pre.length) j = zI (exP b pre pre.length + ct b pre.length x)) → wX4_choose_9 72 (nI pre.length) (nI x) Q (d + 1) (nI i) u := by
    intro d
    induction d with
    | zero =>
      intro i u hi hfu hu
      unfold wX4_choose_9
      have e : B.length ≤ i := by omega
      have hb := hB.1
      have e2 : u.1 72 1 = nI B.length := by rw [hfu.1 72 (by omega), tk 72 (by omega)]; exact h2
      simp (disch := omega) only [e2, e, lit_nI, nI_ltI, nI_leI, nI_eq, nI_clamp, vp_in_nI, forall_eq, true_and, and_true, false_and, and_false, true_implies, false_implies, implies_true, not_true, not_false_eq_true, nI_add, pk_mul, nI_sub, shl1, shr1, fa_or, fa_and, nI_m9, nI_m9s]
      refine hQ u (hft.tr (hfu.wk (by intro k; omega))) (by rw [hfu.1 72 (by omega), tk 72 (by omega)]) ⟨?_, e2, fun i b hb => ?_, ?_, ?_, ?_⟩
      · rw [hfu.1 72 (by omega), tk 72 (by omega)]; exact h1
      · obtain ⟨a1, a2, a3⟩ := h3 i b hb
        refine ⟨by rw [hfu.1 73 (by omega), tk 73 (by omega)]; exact a1, by rw [hfu.1 74 (by omega), tk 74 (by omega)]; exact a2, fun j hj => ?_⟩
        rw [List.length_append] at hj
        simp at hj
        by_cases cj : j = pre.length + 1
        · subst cj
          have := hu i b (by have := (List.getElem?_eq_some_iff.mp hb).1; omega) hb
          rw [show 76 + (pre.length + 1) = 77 + pre.length by omega, this]
          have e3 := exA_snoc b pre x
          unfold exA at e3
          rw [List.length_append] at e3
          exact congrArg zI e3.symm
        · rw [hfu.1 _ (by omega), tk _ (by omega), a3 j (by omega), exP_app b pre [x] j (by omega)]
      · rw [hfu.1 83 (by omega), tk 83 (by omega)]; exact h4
      · rw [hfu.1 84 (by omega), tk 84 (by omega)]; exact h5
      · have e85 : u.1 85 = t.1 85 := hfu.1 85 (by omega)
        rw [e85]
        have r6 : rowAt (t.1 85) 0 pre := h6.cg (fun k hk => by rw [ht, rI_nj (by omega)])
        exact r6.app (fun _ _ => rfl) (by rw [ht, Nat.zero_add, rI_eq])
    | succ d ih =>
      intro i u hi hfu hu
      have hi2 : i < B.length := by omega
      have hb := hB.1
      obtain ⟨a1, a2, a3⟩ := h3 i _ (bd_get hi2)
      obtain ⟨b1, b2, b3⟩ := hB.2 _ (List.mem_of_getElem? (bd_get hi2))
      have e : ¬ B.length ≤ i := by omega
      have e2 : u.1 72 1 = nI B.length := by rw [hfu.1 72 (by omega), tk 72 (by omega)]; exact h2
      have a1' : u.1 73 i = nI (B.getD i (0, 0)).1 := by rw [hfu.1 73 (by omega), tk 73 (by omega)]; exact a1
      have a2' : u.1 74 i = nI (B.getD i (0, 0)).2 := by rw [hfu.1 74 (by omega), tk 74 (by omega)]; exact a2
      have hx : u.1 (72 + 4 + 1 * pre.length) i = zI (exP (B.getD i (0, 0)) pre pre.length) := by
        rw [show 72 + 4 + 1 * pre.length = 76 + pre.length by omega, hfu.1 _ (by omega), tk _ (by omega)]; exact a3 _ (Nat.le_refl _)
      have fin : ∀ w : Int32, w = zI (ct (B.getD i (0, 0)) pre.length x) → wX4_choose_61 (wX4_choose_9 72 (nI pre.length) (nI x) Q (d + 1)) Q 72 (nI pre.length) (nI x) (nI i) w u := by
        intro w hw
        unfold wX4_choose_61
        have hz : pre.length + 1 < 7 := by omega
        simp (disch := omega) only [hx, lit_nI, nI_ltI, nI_leI, nI_eq, nI_clamp, vp_in_nI, forall_eq, true_and, and_true, false_and, and_false, true_implies, false_implies, implies_true, not_true, not_false_eq_true, nI_add, pk_mul, nI_sub, shl1, shr1, fa_or, fa_and, nI_m9, nI_m9s]
        refine ih (i + 1) _ (by omega) (Fr.I (k := 72 + 4 + 1 * (pre.length + 1)) hfu (by omega)) (fun j b hj hb => ?_)
        by_cases cj : j = i
        · subst cj
          rw [bd_get hi2] at hb
          cases hb
          rw [show 77 + pre.length = 72 + 4 + 1 * (pre.length + 1) by omega, rI_eq, hw, zI_add]
        · rw [show 77 + pre.length = 72 + 4 + 1 * (pre.length + 1) by omega, rI_nj cj, show 72 + 4 + 1 * (pre.length + 1) = 77 + pre.length by omega]
          exact hu j b (by omega) hb
      unfold wX4_choose_9
      cases c : (B.getD i (0, 0)).1.testBit pre.length with
      | true =>
        simp (disch := omega) only [e2, e, a1', c, if_true, lit_nI, nI_ltI, nI_leI, nI_eq, nI_clamp, vp_in_nI, forall_eq, true_and, and_true, false_and, and_false, true_implies, false_implies, implies_true, not_true, not_false_eq_true, nI_add, pk_mul, nI_sub, shl1, shr1, fa_or, fa_and, nI_m9, nI_m9s]
        refine fin _ ?_
        unfold ct
        rw [if_pos c, nI_z]
        congr 1
        omega
      | false =>
        cases c2 : (B.getD i (0, 0)).2.testBit pre.length with
        | true =>
          simp (disch := omega) only [e2, e, a1', a2', c, c2, if_true, Bool.false_eq_true, if_false, Nat.zero_ne_one, lit_nI, nI_ltI, nI_leI, nI_eq, nI_clamp, vp_in_nI, forall_eq, true_and, and_true, false_and, and_false, true_implies, false_implies, implies_true, not_true, not_false_eq_true, nI_add, pk_mul, nI_sub, shl1, shr1, fa_or, fa_and, nI_m9, nI_m9s]
          refine fin _ ?_
          unfold ct
          rw [if_neg (by rw [c]; decide), if_pos c2, nI_z]
          congr 1
          omega
        | false =>
          simp (disch := omega) only [e2, e, a1', a2', c, c2, Bool.false_eq_true, if_false, Nat.zero_ne_one, lit_nI, nI_ltI, nI_leI, nI_eq, nI_clamp, vp_in_nI, forall_eq, true_and, and_true, false_and, and_false, true_implies, false_implies, implies_true, not_true, not_false_eq_true, nI_add, pk_mul, nI_sub, shl1, shr1, fa_or, fa_and, nI_m9, nI_m9s]
          refine fin _ ?_
          unfold ct
          rw [if_neg (by rw [c]; decide), if_neg (by rw [c2]; decide)]
          rfl
  exact ⟨_, key B.length 0 t (by omega) Fr.rf (fun j b hj => by omega)⟩
end SRCH
