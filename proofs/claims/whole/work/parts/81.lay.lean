/-! the class's search: its bonds are laid; the least cost, whether there are lengths -/
def bcF (x0 : Int32) : Int32 := ((((((((x0 - (((x0.toUInt32 >>> ((1 : Int32).toUInt32 &&& Int32.toUInt32 31)).toInt32) &&& (1431655765 : Int32))) &&& (858993459 : Int32)) + ((((x0 - (((x0.toUInt32 >>> ((1 : Int32).toUInt32 &&& Int32.toUInt32 31)).toInt32) &&& (1431655765 : Int32))).toUInt32 >>> ((2 : Int32).toUInt32 &&& Int32.toUInt32 31)).toInt32) &&& (858993459 : Int32))) + (((((x0 - (((x0.toUInt32 >>> ((1 : Int32).toUInt32 &&& Int32.toUInt32 31)).toInt32) &&& (1431655765 : Int32))) &&& (858993459 : Int32)) + ((((x0 - (((x0.toUInt32 >>> ((1 : Int32).toUInt32 &&& Int32.toUInt32 31)).toInt32) &&& (1431655765 : Int32))).toUInt32 >>> ((2 : Int32).toUInt32 &&& Int32.toUInt32 31)).toInt32) &&& (858993459 : Int32))).toUInt32 >>> ((4 : Int32).toUInt32 &&& Int32.toUInt32 31)).toInt32)) &&& (252645135 : Int32)) + (((((((x0 - (((x0.toUInt32 >>> ((1 : Int32).toUInt32 &&& Int32.toUInt32 31)).toInt32) &&& (1431655765 : Int32))) &&& (858993459 : Int32)) + ((((x0 - (((x0.toUInt32 >>> ((1 : Int32).toUInt32 &&& Int32.toUInt32 31)).toInt32) &&& (1431655765 : Int32))).toUInt32 >>> ((2 : Int32).toUInt32 &&& Int32.toUInt32 31)).toInt32) &&& (858993459 : Int32))) + (((((x0 - (((x0.toUInt32 >>> ((1 : Int32).toUInt32 &&& Int32.toUInt32 31)).toInt32) &&& (1431655765 : Int32))) &&& (858993459 : Int32)) + ((((x0 - (((x0.toUInt32 >>> ((1 : Int32).toUInt32 &&& Int32.toUInt32 31)).toInt32) &&& (1431655765 : Int32))).toUInt32 >>> ((2 : Int32).toUInt32 &&& Int32.toUInt32 31)).toInt32) &&& (858993459 : Int32))).toUInt32 >>> ((4 : Int32).toUInt32 &&& Int32.toUInt32 31)).toInt32)) &&& (252645135 : Int32)).toUInt32 >>> ((8 : Int32).toUInt32 &&& Int32.toUInt32 31)).toInt32)) + ((((((((x0 - (((x0.toUInt32 >>> ((1 : Int32).toUInt32 &&& Int32.toUInt32 31)).toInt32) &&& (1431655765 : Int32))) &&& (858993459 : Int32)) + ((((x0 - (((x0.toUInt32 >>> ((1 : Int32).toUInt32 &&& Int32.toUInt32 31)).toInt32) &&& (1431655765 : Int32))).toUInt32 >>> ((2 : Int32).toUInt32 &&& Int32.toUInt32 31)).toInt32) &&& (858993459 : Int32))) + (((((x0 - (((x0.toUInt32 >>> ((1 : Int32).toUInt32 &&& Int32.toUInt32 31)).toInt32) &&& (1431655765 : Int32))) &&& (858993459 : Int32)) + ((((x0 - (((x0.toUInt32 >>> ((1 : Int32).toUInt32 &&& Int32.toUInt32 31)).toInt32) &&& (1431655765 : Int32))).toUInt32 >>> ((2 : Int32).toUInt32 &&& Int32.toUInt32 31)).toInt32) &&& (858993459 : Int32))).toUInt32 >>> ((4 : Int32).toUInt32 &&& Int32.toUInt32 31)).toInt32)) &&& (252645135 : Int32)) + (((((((x0 - (((x0.toUInt32 >>> ((1 : Int32).toUInt32 &&& Int32.toUInt32 31)).toInt32) &&& (1431655765 : Int32))) &&& (858993459 : Int32)) + ((((x0 - (((x0.toUInt32 >>> ((1 : Int32).toUInt32 &&& Int32.toUInt32 31)).toInt32) &&& (1431655765 : Int32))).toUInt32 >>> ((2 : Int32).toUInt32 &&& Int32.toUInt32 31)).toInt32) &&& (858993459 : Int32))) + (((((x0 - (((x0.toUInt32 >>> ((1 : Int32).toUInt32 &&& Int32.toUInt32 31)).toInt32) &&& (1431655765 : Int32))) &&& (858993459 : Int32)) + ((((x0 - (((x0.toUInt32 >>> ((1 : Int32).toUInt32 &&& Int32.toUInt32 31)).toInt32) &&& (1431655765 : Int32))).toUInt32 >>> ((2 : Int32).toUInt32 &&& Int32.toUInt32 31)).toInt32) &&& (858993459 : Int32))).toUInt32 >>> ((4 : Int32).toUInt32 &&& Int32.toUInt32 31)).toInt32)) &&& (252645135 : Int32)).toUInt32 >>> ((8 : Int32).toUInt32 &&& Int32.toUInt32 31)).toInt32)).toUInt32 >>> ((16 : Int32).toUInt32 &&& Int32.toUInt32 31)).toInt32)) &&& (63 : Int32))
theorem bcF64 : ∀ m : Nat, m < 64 → bcF (nI m) = nI (pc m) := by decide
theorem sJ6 {m : Nat} {s : St} {Q : Int32 → St → Prop} (h : m < 64) (hQ : Q (nI (pc m)) s) : wJ6_bitCount_0f7a4 (nI m) s Q := by
  show Q (bcF (nI m)) s
  rw [bcF64 m h]; exact hQ
theorem andnI {a b : Nat} (ha : a < 64) (hb : b < 64) : nI a &&& (nI b ^^^ -1) = nI (andn a b) := by
  have h : ∀ b : Nat, b < 64 → nI b ^^^ -1 = nI ((b ^^^ 63) ||| 4294967232) := by decide
  rw [h b hb, fa_and]
  congr 1
  unfold andn
  apply Nat.eq_of_testBit_eq
  intro i
  rw [Nat.testBit_and, Nat.testBit_and, Nat.testBit_or]
  by_cases c : i < 6
  · have : (4294967232 : Nat).testBit i = false := by
      rcases (show i = 0 ∨ i = 1 ∨ i = 2 ∨ i = 3 ∨ i = 4 ∨ i = 5 by omega) with rfl | rfl | rfl | rfl | rfl | rfl <;> decide
    rw [this, Bool.or_false]
  · rw [tb_hi ha (by omega)]; rfl
def lI (n : Nat) : Int64 := Int64.ofNat n
theorem lI_or (a b : Nat) : lI a ||| lI b = lI (a ||| b) := by
  apply Int64.toBitVec_inj.mp
  apply BitVec.eq_of_toNat_eq
  simp [lI, Int64.toBitVec_or, Nat.or_mod_two_pow]
theorem lI_and (a b : Nat) : lI a &&& lI b = lI (a &&& b) := by
  apply Int64.toBitVec_inj.mp
  apply BitVec.eq_of_toNat_eq
  simp [lI, Int64.toBitVec_and, Nat.and_mod_two_pow]
theorem lI_one : ∀ w : Nat, w < 33 → (1 : Int64) <<< ((nI w).toInt64 &&& 63) = lI (2 ^ w) := by decide
theorem lI_sm : ∀ w : Nat, w < 33 → (((nI w).toInt64 &&& 63).toBitVec.smod 64).toNat = w := by decide
theorem lI_shr {m w : Nat} (hm : m < 2 ^ 63) (hw : w < 33) : lI m >>> ((nI w).toInt64 &&& 63) = lI (m / 2 ^ w) := by
  apply Int64.toInt_inj.mp
  have h2 : m / 2 ^ w ≤ m := Nat.div_le_self _ _
  show ((lI m).toBitVec.sshiftRight (((nI w).toInt64 &&& 63).toBitVec.smod 64).toNat).toInt = _
  rw [lI_sm w hw, BitVec.toInt_sshiftRight]
  show (lI m).toInt >>> w = _
  unfold lI
  rw [Int64.toInt_ofNat_of_lt hm, Int64.toInt_ofNat_of_lt (by omega), Int.shiftRight_eq_div_pow]
  rfl
theorem lI_tb {m w : Nat} (hm : m < 2 ^ 63) (hw : w < 33) : lg_cmp ((lI m >>> ((nI w).toInt64 &&& 63)) &&& 1) 1 = 0 ↔ m.testBit w = true := by
  rw [lI_shr hm hw, show (1 : Int64) = lI 1 from rfl, lI_and, Nat.and_one_is_mod, Nat.testBit_eq_decide_div_mod_eq]
  have h : m / 2 ^ w % 2 = 0 ∨ m / 2 ^ w % 2 = 1 := by omega
  rcases h with h | h <;> rw [h] <;> decide
/-- the least cost of the lengths that are good -/
def IsMin (ls : List Lane) (L0 : List Nat) (p : List Nat → Bool) (r : Option Nat) : Prop := (∀ M, M ∈ allL ls.length → p M = true → ∃ m, r = some m ∧ m ≤ costL ls L0 M) ∧ (∀ m, r = some m → ∃ M, M ∈ allL ls.length ∧ p M = true ∧ m = costL ls L0 M)
theorem IsMin.uq {ls : List Lane} {L0 : List Nat} {p : List Nat → Bool} {r r2 : Option Nat} (h : IsMin ls L0 p r) (h2 : IsMin ls L0 p r2) : r = r2 := by
  cases r with
  | none =>
    cases r2 with
    | none => rfl
    | some m =>
      obtain ⟨M, a, b, c⟩ := h2.2 m rfl
      obtain ⟨m', e, -⟩ := h.1 M a b
      cases e
  | some m =>
    obtain ⟨M, a, b, c⟩ := h.2 m rfl
    obtain ⟨m2, e, hle⟩ := h2.1 M a b
    subst e
    obtain ⟨M2, a2, b2, c2⟩ := h2.2 m2 rfl
    obtain ⟨m', e, hle2⟩ := h.1 M2 a2 b2
    cases e
    congr 1
    omega
theorem IsMin.cg {ls : List Lane} {L0 : List Nat} {p q : List Nat → Bool} {r : Option Nat} (h : IsMin ls L0 p r) (hpq : ∀ M, M ∈ allL ls.length → p M = q M) : IsMin ls L0 q r := by
  refine ⟨fun M hM hq => h.1 M hM (by rw [hpq M hM]; exact hq), fun m hm => ?_⟩
  obtain ⟨M, a, b, c⟩ := h.2 m hm
  exact ⟨M, a, by rw [← hpq M a]; exact b, c⟩
theorem costL_le : ∀ {ls : List Lane} {L0 M : List Nat}, (∀ ln ∈ ls, ln.2.2 ≤ 9) → in15 L0 → in15 M → costL ls L0 M ≤ 36 * ls.length
  | [], L0, M, _, _, _ => by cases L0 <;> cases M <;> simp [costL]
  | ln :: r, [], M, _, _, _ => by simp [costL]
  | ln :: r, x :: L, [], _, _, _ => by simp [costL]
  | ln :: r, x :: L, y :: M, h, h1, h2 => by
    have ih := costL_le (ls := r) (L0 := L) (M := M) (fun z hz => h z (List.mem_cons_of_mem _ hz)) (fun z hz => h1 z (List.mem_cons_of_mem _ hz)) (fun z hz => h2 z (List.mem_cons_of_mem _ hz))
    have a := h1 x (List.mem_cons_self ..)
    have b := h2 y (List.mem_cons_self ..)
    have d : dif x y ≤ 4 := by unfold dif; split <;> omega
    have c : ln.2.2 * dif x y ≤ 9 * 4 := Nat.mul_le_mul (h ln (List.mem_cons_self ..)) d
    rw [costL_cons, List.length_cons]
    omega
theorem best_min {la : Land} {L0 : List Nat} {ok : List Nat → Bool} : IsMin la.2 L0 ok ((best la L0 ok).map (·.1)) := by
  unfold best IsMin
  generalize allL la.2.length = A
  have key : ∀ (A P : List (List Nat)) (b : Option (Nat × List Nat)), ((∀ M, M ∈ P → ok M = true → ∃ m, b.map (·.1) = some m ∧ m ≤ costL la.2 L0 M) ∧ (∀ m, b.map (·.1) = some m → ∃ M, M ∈ P ∧ ok M = true ∧ m = costL la.2 L0 M)) → ((∀ M, M ∈ P ++ A → ok M = true → ∃ m, (A.foldl (fun b M => if ok M && betterC (costL la.2 L0 M) b then some (costL la.2 L0 M, M) else b) b).map (·.1) = some m ∧ m ≤ costL la.2 L0 M) ∧ (∀ m, (A.foldl (fun b M => if ok M && betterC (costL la.2 L0 M) b then some (costL la.2 L0 M, M) else b) b).map (·.1) = some m → ∃ M, M ∈ P ++ A ∧ ok M = true ∧ m = costL la.2 L0 M)) := by
    intro A
    induction A with
    | nil => intro P b h; rw [List.append_nil]; exact h
    | cons M A ih =>
      intro P b h
      rw [List.foldl_cons, show P ++ M :: A = (P ++ [M]) ++ A by simp]
      refine ih (P ++ [M]) _ ?_
      by_cases c : ok M = true
      · rw [c, Bool.true_and]
        cases hb : b with
        | none =>
          rw [if_pos (show betterC (costL la.2 L0 M) none = true from rfl)]
          refine ⟨fun N hN hk => ?_, fun m hm => ?_⟩
          · rcases List.mem_append.mp hN with hN | hN
            · obtain ⟨m, e, -⟩ := h.1 N hN hk
              rw [hb] at e; cases e
            · rw [List.mem_singleton.mp hN]; exact ⟨_, rfl, Nat.le_refl _⟩
          · cases hm; exact ⟨M, List.mem_append.mpr (Or.inr (List.mem_singleton.mpr rfl)), c, rfl⟩
        | some q =>
          rw [hb] at h
          by_cases cc : costL la.2 L0 M < q.1
          · rw [if_pos (show betterC (costL la.2 L0 M) (some q) = true from decide_eq_true cc)]
            refine ⟨fun N hN hk => ?_, fun m hm => ?_⟩
            · rcases List.mem_append.mp hN with hN | hN
              · obtain ⟨m, e, hle⟩ := h.1 N hN hk
                cases e; exact ⟨_, rfl, by dsimp only at hle ⊢; omega⟩
              · rw [List.mem_singleton.mp hN]; exact ⟨_, rfl, Nat.le_refl _⟩
            · cases hm; exact ⟨M, List.mem_append.mpr (Or.inr (List.mem_singleton.mpr rfl)), c, rfl⟩
          · rw [if_neg (show ¬ betterC (costL la.2 L0 M) (some q) = true from fun z => cc (of_decide_eq_true z))]
            refine ⟨fun N hN hk => ?_, fun m hm => ?_⟩
            · rcases List.mem_append.mp hN with hN | hN
              · exact h.1 N hN hk
              · rw [List.mem_singleton.mp hN]; exact ⟨_, rfl, by dsimp only; omega⟩
            · obtain ⟨N, a1, a2⟩ := h.2 m hm
              exact ⟨N, List.mem_append.mpr (Or.inl a1), a2⟩
      · have c' : ok M = false := by cases h : ok M with | false => rfl | true => exact absurd h c
        rw [c', Bool.false_and, if_neg (by decide)]
        refine ⟨fun N hN hk => ?_, fun m hm => ?_⟩
        · rcases List.mem_append.mp hN with hN | hN
          · exact h.1 N hN hk
          · rw [List.mem_singleton.mp hN] at hk; rw [c'] at hk; cases hk
        · obtain ⟨N, a1, a2⟩ := h.2 m hm
          exact ⟨N, List.mem_append.mpr (Or.inl a1), a2⟩
  have := key A [] none ⟨fun M hM => absurd hM (by simp), fun m hm => by simp at hm⟩
  rw [List.nil_append] at this
  exact this
/-- the best lengths are the first of those that cost no more -/
theorem best_first {la : Land} {L0 : List Nat} {ok : List Nat → Bool} {q : Nat × List Nat} (h : best la L0 ok = some q) : (allL la.2.length).find? (fun M => ok M && decide (costL la.2 L0 M ≤ q.1)) = some q.2 := by
  revert h
  unfold best
  generalize allL la.2.length = A
  have key : ∀ (A : List (List Nat)) (b : Option (Nat × List Nat)), (A.foldl (fun b M => if ok M && betterC (costL la.2 L0 M) b then some (costL la.2 L0 M, M) else b) b = some q) → (b = some q ∧ (∀ M, M ∈ A → ok M = true → ¬ costL la.2 L0 M < q.1)) ∨ ((∀ z, b = some z → q.1 < z.1) ∧ A.find? (fun M => ok M && decide (costL la.2 L0 M ≤ q.1)) = some q.2) := by
    intro A
    induction A with
    | nil => intro b h; left; exact ⟨h, fun M hM => by cases hM⟩
    | cons M A ih =>
      intro b h
      rw [List.foldl_cons] at h
      rw [List.find?_cons]
      cases c : ok M with
      | false =>
        rw [c, Bool.false_and, if_neg (by decide)] at h
        rcases ih b h with ⟨h1, h2⟩ | ⟨h1, h2⟩
        · left
          refine ⟨h1, fun N hN hk => ?_⟩
          rcases List.mem_cons.mp hN with rfl | hN
          · rw [c] at hk; cases hk
          · exact h2 N hN hk
        · right; exact ⟨h1, by simpa using h2⟩
      | true =>
        rw [c, Bool.true_and] at h
        by_cases cb : betterC (costL la.2 L0 M) b = true
        · rw [if_pos cb] at h
          have hb : ∀ z, b = some z → costL la.2 L0 M < z.1 := fun z hz => by rw [hz] at cb; exact of_decide_eq_true cb
          rcases ih _ h with ⟨h1, h2⟩ | ⟨h1, h2⟩
          · cases h1
            right
            exact ⟨hb, by simp⟩
          · have h1' := h1 _ rfl
            right
            refine ⟨fun z hz => by have := hb z hz; dsimp only at h1'; omega, ?_⟩
            dsimp only at h1'
            rw [decide_eq_false (show ¬ costL la.2 L0 M ≤ q.1 by omega)]
            exact h2
        · rw [if_neg cb] at h
          rcases ih b h with ⟨h1, h2⟩ | ⟨h1, h2⟩
          · left
            refine ⟨h1, fun N hN hk => ?_⟩
            rcases List.mem_cons.mp hN with rfl | hN
            · intro z
              rw [h1] at cb
              exact cb (decide_eq_true z)
            · exact h2 N hN hk
          · right
            refine ⟨h1, ?_⟩
            cases hb : b with
            | none => rw [hb] at cb; exact absurd rfl cb
            | some z =>
              rw [hb] at cb
              have := h1 z hb
              have h3 : ¬ costL la.2 L0 M < z.1 := fun y => cb (decide_eq_true y)
              rw [decide_eq_false (show ¬ costL la.2 L0 M ≤ q.1 by omega)]
              exact h2
  intro h
  rcases key A none h with ⟨h1, -⟩ | ⟨-, h2⟩
  · cases h1
  · exact h2
