/-! PURE ROWS: reading a changed state; frames; small numbers -/
theorem rI (σ : St) (k j : Nat) (v : Int32) (a b : Nat) : (stI σ k j v).1 a b = if a = k ∧ b = j then v else σ.1 a b := by
  unfold stI va_up upd
  by_cases h : a = k
  · subst h
    by_cases h2 : b = j <;> simp [h2]
  · simp [h]
theorem rI_eq {σ : St} {k j : Nat} {v : Int32} : (stI σ k j v).1 k j = v := by rw [rI]; simp
theorem rI_ne {σ : St} {k j a : Nat} {v : Int32} (h : a ≠ k) : (stI σ k j v).1 a = σ.1 a := up_ne h
theorem rI_nj {σ : St} {k j b : Nat} {v : Int32} (h : b ≠ j) : (stI σ k j v).1 k b = σ.1 k b := by rw [rI]; simp [h]
theorem rI_2 (σ : St) (k j : Nat) (v : Int32) : (stI σ k j v).2 = σ.2 := rfl
theorem rC_ne {σ : St} {x k i j n a : Nat} (h : a ≠ k) : (stC σ x k i j n).1 a = σ.1 a := up_ne h
theorem rC_eq {σ : St} {x k i j n : Nat} : (stC σ x k i j n).1 k = va_cpy (σ.1 x) (σ.1 k) i j n := up_eq
/-- what is outside of some cells stays, and all that isn't an int -/
def Fr (M : Nat → Prop) (σ τ : St) : Prop := (∀ k, ¬ M k → τ.1 k = σ.1 k) ∧ τ.2 = σ.2
theorem Fr.rf {M : Nat → Prop} {σ : St} : Fr M σ σ := ⟨fun _ _ => rfl, rfl⟩
theorem Fr.tr {M : Nat → Prop} {σ τ υ : St} (h : Fr M σ τ) (h2 : Fr M τ υ) : Fr M σ υ := ⟨fun k hk => (h2.1 k hk).trans (h.1 k hk), h2.2.trans h.2⟩
theorem Fr.wk {M N : Nat → Prop} {σ τ : St} (h : Fr M σ τ) (hm : ∀ k, M k → N k) : Fr N σ τ := ⟨fun k hk => h.1 k (fun z => hk (hm k z)), h.2⟩
theorem Fr.I {M : Nat → Prop} {σ τ : St} {k j : Nat} {v : Int32} (h : Fr M σ τ) (hk : M k) : Fr M σ (stI τ k j v) := ⟨fun a ha => (rI_ne (fun z => by subst z; exact ha hk)).trans (h.1 a ha), h.2⟩
theorem Fr.C {M : Nat → Prop} {σ τ : St} {x k i j n : Nat} (h : Fr M σ τ) (hk : M k) : Fr M σ (stC τ x k i j n) := ⟨fun a ha => (rC_ne (fun z => by subst z; exact ha hk)).trans (h.1 a ha), h.2⟩
theorem lit_nI (n : Nat) : (OfNat.ofNat n : Int32) = nI n := rfl
theorem nI_sub {a b : Nat} (h : b ≤ a) : nI a - nI b = nI (a - b) := pk_sub h
/-- an argument: a number that isn't below 0 and below n, or another -/
theorem arg_cases (x : Int32) (n : Nat) (hn : n < 2 ^ 31) : (x < 0) ∨ (¬ x < 0 ∧ nI n ≤ x) ∨ ∃ j : Nat, j < n ∧ x = nI j := by
  by_cases h : x < 0
  · exact Or.inl h
  · rcases pk_ix x hn with h1 | h1 | h1
    · exact Or.inl h1
    · exact Or.inr (Or.inl ⟨h, h1⟩)
    · exact Or.inr (Or.inr h1)
/-- a number of Java as one of mathematics, if it is below n -/
def num (x : Int32) (n : Nat) : Option Nat := if 0 ≤ x.toInt ∧ x.toInt < n then some x.toInt.toNat else none
theorem num_some {x : Int32} {n j : Nat} (hn : n < 2 ^ 31) : num x n = some j ↔ j < n ∧ x = nI j := by
  unfold num
  constructor
  · intro h
    split at h
    · rename_i hh
      cases h
      refine ⟨by omega, ?_⟩
      rw [← Int32.toInt_inj, nI_toInt (by omega)]
      omega
    · cases h
  · rintro ⟨h1, rfl⟩
    rw [nI_toInt (by omega)]
    rw [if_pos (by omega)]
    simp
theorem num_none {x : Int32} {n : Nat} (hn : n < 2 ^ 31) : num x n = none ↔ x < 0 ∨ nI n ≤ x := by
  unfold num
  rw [Int32.lt_iff_toInt_lt, Int32.le_iff_toInt_le, nI_toInt hn, show (0 : Int32).toInt = 0 from rfl]
  split
  · rename_i h; constructor
    · intro z; cases z
    · intro z; omega
  · rename_i h; constructor
    · intro _; omega
    · intro _; rfl
theorem num_nI {n j : Nat} (hn : n < 2 ^ 31) (h : j < n) : num (nI j) n = some j := (num_some hn).mpr ⟨h, rfl⟩
theorem vp_num {x : Int32} {n j : Nat} (hn : n < 2 ^ 31) (h : num x n = some j) : vp_in x n := by
  obtain ⟨h1, rfl⟩ := (num_some hn).mp h
  exact vp_in_nI h1 hn
