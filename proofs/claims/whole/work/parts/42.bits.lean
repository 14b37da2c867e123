/-! bits and small numbers -/
theorem fa_and (a b : Nat) : nI a &&& nI b = nI (a &&& b) := by
  apply Int32.toBitVec_inj.mp
  apply BitVec.eq_of_toNat_eq
  simp [nI, Int32.toBitVec_and, Nat.and_mod_two_pow]
theorem fa_or (a b : Nat) : nI a ||| nI b = nI (a ||| b) := by
  apply Int32.toBitVec_inj.mp
  apply BitVec.eq_of_toNat_eq
  simp [nI, Int32.toBitVec_or, Nat.or_mod_two_pow]
theorem nI_31 {l : Nat} (hl : l < 32) : nI l &&& nI 31 = nI l := by
  rw [fa_and]
  congr 1
  have := Nat.and_two_pow_sub_one_eq_mod l 5
  simp at this
  rw [this]
  omega
theorem sm_nI {l : Nat} (hl : l < 32) : ((nI l).toBitVec.smod 32).toNat = l := by
  rcases (show l = 0 ∨ l = 1 ∨ l = 2 ∨ l = 3 ∨ l = 4 ∨ l = 5 ∨ l = 6 ∨ l = 7 ∨ l = 8 ∨ l = 9 ∨ l = 10 ∨ l = 11 ∨ l = 12 ∨ l = 13 ∨ l = 14 ∨ l = 15 ∨ l = 16 ∨ l = 17 ∨ l = 18 ∨ l = 19 ∨ l = 20 ∨ l = 21 ∨ l = 22 ∨ l = 23 ∨ l = 24 ∨ l = 25 ∨ l = 26 ∨ l = 27 ∨ l = 28 ∨ l = 29 ∨ l = 30 ∨ l = 31 by omega) with rfl | rfl | rfl | rfl | rfl | rfl | rfl | rfl | rfl | rfl | rfl | rfl | rfl | rfl | rfl | rfl | rfl | rfl | rfl | rfl | rfl | rfl | rfl | rfl | rfl | rfl | rfl | rfl | rfl | rfl | rfl | rfl <;> decide
/-- 1 << l -/
theorem shl1 {l : Nat} (hl : l < 31) : nI 1 <<< nI (l &&& 31) = nI (2 ^ l) := by
  rw [← fa_and, nI_31 (by omega)]
  have h2 : 2 ^ l < 2 ^ 31 := Nat.pow_lt_pow_right (by omega) hl
  rw [pk_shlN (nI l) l (sm_nI (by omega)) (by omega)]
  congr 1
  omega
/-- b >> l & 1 -/
theorem shr1 {b l : Nat} (hb : b < 2 ^ 31) (hl : l < 32) : (nI b >>> nI (l &&& 31)) &&& nI 1 = nI (if b.testBit l then 1 else 0) := by
  rw [← fa_and, nI_31 hl, pk_shrN hb (nI l) l (sm_nI hl), fa_and]
  congr 1
  rw [Nat.and_one_is_mod, Nat.testBit_eq_decide_div_mod_eq]
  by_cases h : b / 2 ^ l % 2 = 1
  · simp [h]
  · simp [h]; omega
theorem nI_m9 {n : Nat} (h : n < 2 ^ 31) : (nI n = -nI 9) = False := by
  apply eq_false
  intro e
  have := congrArg Int32.toInt e
  rw [nI_toInt h] at this
  have h2 : (-nI 9).toInt = -9 := by decide
  omega
theorem nI_m9s {n : Nat} (h : n < 2 ^ 31) : (-nI 9 = nI n) = False := by
  apply eq_false
  intro e
  exact (nI_m9 h ▸ e.symm : False)
theorem nI_inj {a b : Nat} (ha : a < 2 ^ 31) (hb : b < 2 ^ 31) (h : nI a = nI b) : a = b := (nI_eq ha hb).mp h
theorem bit01 (c : Bool) : (if c then 1 else 0 : Nat) < 2 ^ 31 := by cases c <;> decide
