/-! bonds and shortest ways: mathematics -/
def andn (a b : Nat) : Nat := a &&& (b ^^^ 63)
theorem tb63 {j : Nat} : (63 : Nat).testBit j = decide (j < 6) := by
  have := Nat.testBit_two_pow_sub_one 6 j
  simpa using this
theorem tb_hi {a j : Nat} (h : a < 64) (hj : 6 ≤ j) : a.testBit j = false := by
  apply Nat.testBit_lt_two_pow
  have : 2 ^ 6 ≤ 2 ^ j := Nat.pow_le_pow_right (by omega) hj
  omega
theorem andn_tb {a b j : Nat} (ha : a < 64) : (andn a b).testBit j = (a.testBit j && !b.testBit j) := by
  unfold andn
  rw [Nat.testBit_and, Nat.testBit_xor, tb63]
  by_cases c : j < 6
  · rw [decide_eq_true c]; cases a.testBit j <;> cases b.testBit j <;> rfl
  · rw [tb_hi ha (by omega)]; rfl
theorem andn_lt {a b : Nat} (ha : a < 64) : andn a b < 64 := Nat.lt_of_le_of_lt Nat.and_le_left ha
theorem lenP_diff {M : List Nat} {a b : Nat} (ha : a < 64) (hb : b < 64) : ∀ k, lenP M a k + lenP M (andn b a) k = lenP M b k + lenP M (andn a b) k
  | 0 => rfl
  | k + 1 => by
    have ih := lenP_diff (M := M) ha hb k
    unfold lenP
    rw [andn_tb ha, andn_tb hb]
    cases a.testBit k <;> cases b.testBit k <;> simp <;> omega
def cnt (m : Nat) : Nat → Nat
  | 0 => 0
  | j + 1 => cnt m j + (m.testBit j).toNat
theorem cnt6 (m : Nat) : cnt m 6 = pc m := by
  unfold pc
  simp only [cnt, Nat.zero_add]
theorem cnt_top {m n : Nat} (h : m < 2 ^ n) (hn : n ≤ 6) : cnt m n = pc m := by
  rw [← cnt6]
  have : ∀ d, cnt m (n + d) = cnt m n := by
    intro d
    induction d with
    | zero => rfl
    | succ d ih =>
      show cnt m (n + d) + (m.testBit (n + d)).toNat = cnt m n
      rw [ih, Nat.testBit_lt_two_pow (Nat.lt_of_lt_of_le h (Nat.pow_le_pow_right (by omega) (by omega)))]
      rfl
  have := this (6 - n)
  rw [show n + (6 - n) = 6 by omega] at this
  exact this.symm
theorem exP_len {b : Nat × Nat} {M : List Nat} (hd : ∀ j, ¬ (b.1.testBit j = true ∧ b.2.testBit j = true)) : ∀ j, exP b M j = (lenP M b.1 j : Int) - (lenP M b.2 j : Int) + ((pc b.1 : Int) - (cnt b.1 j : Int)) - 5 * ((pc b.2 : Int) - (cnt b.2 j : Int))
  | 0 => by unfold exP lenP cnt; omega
  | j + 1 => by
    have ih := exP_len (M := M) hd j
    have h := hd j
    unfold exP lenP cnt ct
    rw [ih]
    cases c1 : b.1.testBit j <;> cases c2 : b.2.testBit j <;> simp_all <;> omega
theorem exA_len {b : Nat × Nat} {M : List Nat} (hd : ∀ j, ¬ (b.1.testBit j = true ∧ b.2.testBit j = true)) (hM : M.length ≤ 6) (h1 : b.1 < 2 ^ M.length) (h2 : b.2 < 2 ^ M.length) : exA b M = (lenOf M b.1 : Int) - (lenOf M b.2 : Int) := by
  unfold exA lenOf
  rw [exP_len hd, cnt_top h1 hM, cnt_top h2 hM]
  omega
theorem exP_mono {b : Nat × Nat} {M : List Nat} (h : in15 M) : ∀ d j, j + d ≤ M.length → exP b M j ≤ exP b M (j + d)
  | 0, j, _ => Int.le_refl _
  | d + 1, j, hj => by
    have ih := exP_mono (b := b) h d j (by omega)
    have := h.at (show j + d < M.length by omega)
    have := ct_in (b := b) (j := j + d) this.1 this.2
    rw [← Nat.add_assoc]
    show exP b M j ≤ exP b M (j + d) + ct b (j + d) (M.getD (j + d) 0)
    omega
theorem lenP_no {M : List Nat} {m : Nat} : ∀ j, (∀ i, i < j → m.testBit i = false) → lenP M m j = 0
  | 0, _ => rfl
  | j + 1, h => by
    unfold lenP
    rw [h j (by omega), lenP_no j (fun i hi => h i (by omega))]
    rfl
/-- what the search keeps is that each bond holds -/
theorem okP_iff {B : List (Nat × Nat)} {M : List Nat} (hB : okBd B) (hM : M.length ≤ 6) (h15 : in15 M) (hb : ∀ b ∈ B, b.1 < 2 ^ M.length ∧ b.2 < 2 ^ M.length) : okP B M = true ↔ ∀ b ∈ B, lenOf M b.1 ≤ lenOf M b.2 := by
  have hx : ∀ b ∈ B, exA b M = (lenOf M b.1 : Int) - (lenOf M b.2 : Int) := fun b h => exA_len (hB.2 b h).2.2 hM (hb b h).1 (hb b h).2
  constructor
  · intro h b hbb
    have key : ∀ j, pOK B M j = true → (∀ i, i < j → b.1.testBit i = false ∧ b.2.testBit i = false) ∨ exP b M j ≤ 0 := by
      intro j
      induction j with
      | zero => intro _; left; intro i hi; omega
      | succ j ih =>
        intro h
        unfold pOK at h
        rw [Bool.and_eq_true, List.all_eq_true] at h
        have h2 := h.2 b hbb
        rcases ih h.1 with h1 | h1
        · cases c1 : b.1.testBit j <;> cases c2 : b.2.testBit j
          · left
            intro i hi
            by_cases ci : i = j
            · subst ci; exact ⟨c1, c2⟩
            · exact h1 i (by omega)
          · right; rw [c1, c2] at h2; simpa using h2
          · right; rw [c1, c2] at h2; simpa using h2
          · right; rw [c1, c2] at h2; simpa using h2
        · right
          cases c1 : b.1.testBit j <;> cases c2 : b.2.testBit j
          · unfold exP ct; rw [c1, c2]; simpa using h1
          · rw [c1, c2] at h2; simpa using h2
          · rw [c1, c2] at h2; simpa using h2
          · rw [c1, c2] at h2; simpa using h2
    rcases key M.length h with h1 | h1
    · unfold lenOf
      rw [lenP_no _ (fun i hi => (h1 i hi).1)]
      omega
    · have := hx b hbb
      unfold exA at this
      omega
  · intro h
    have key : ∀ j, j ≤ M.length → pOK B M j = true := by
      intro j
      induction j with
      | zero => intro _; rfl
      | succ j ih =>
        intro hj
        unfold pOK
        rw [Bool.and_eq_true, List.all_eq_true]
        refine ⟨ih (by omega), fun b hbb => ?_⟩
        have h1 := exP_mono (b := b) h15 (M.length - (j + 1)) (j + 1) (by omega)
        rw [show j + 1 + (M.length - (j + 1)) = M.length by omega] at h1
        have h2 := hx b hbb
        have h3 := h b hbb
        unfold exA at h2
        have : exP b M (j + 1) ≤ 0 := by omega
        rw [decide_eq_true this, Bool.or_true]
    exact key M.length (Nat.le_refl _)
/-! a shortest way -/
theorem lsP_le1 {ls : List Lane} {L : List Nat} {W : List (List Nat)} {k : Nat} : ∀ {n i : Nat}, i < n → endK (W.getD i []) = k → ∃ m, lsP ls L W k n = some m ∧ m ≤ lenOf L (bitsOf ls (W.getD i []))
  | 0, i, h, _ => by omega
  | n + 1, i, h, hk => by
    unfold lsP
    by_cases c : i = n
    · subst c
      rw [if_pos hk]
      cases lsP ls L W k i with
      | none => exact ⟨_, rfl, Nat.le_refl _⟩
      | some m => refine ⟨_, rfl, ?_⟩; split <;> omega
    · obtain ⟨m, hm, hle⟩ := lsP_le1 (L := L) (W := W) (show i < n by omega) hk
      rw [hm]
      split
      · refine ⟨_, rfl, ?_⟩; split <;> omega
      · exact ⟨m, rfl, hle⟩
theorem lsP_ex {ls : List Lane} {L : List Nat} {W : List (List Nat)} {k : Nat} : ∀ {n m : Nat}, lsP ls L W k n = some m → ∃ i, i < n ∧ endK (W.getD i []) = k ∧ m = lenOf L (bitsOf ls (W.getD i []))
  | 0, m, h => by simp [lsP] at h
  | n + 1, m, h => by
    unfold lsP at h
    split at h
    · rename_i hk
      cases hz : lsP ls L W k n with
      | none => rw [hz] at h; cases h; exact ⟨n, by omega, hk, rfl⟩
      | some q =>
        rw [hz] at h
        dsimp only at h
        obtain ⟨i, h1, h2, h3⟩ := lsP_ex hz
        split at h
        · cases h; exact ⟨n, by omega, hk, rfl⟩
        · cases h; exact ⟨i, by omega, h2, h3⟩
    · obtain ⟨i, h1, h2, h3⟩ := lsP_ex h
      exact ⟨i, by omega, h2, h3⟩
/-- a way is a shortest one iff it is no longer than each rival -/
theorem shB_iff {la : Land} {L : List Nat} {i : Nat} (hi : i < (waysL la).length) : shB la L ((waysL la).getD i []) = true ↔ ∀ v, v < (waysL la).length → endK ((waysL la).getD v []) = endK ((waysL la).getD i []) → lenOf L (wB la i) ≤ lenOf L (wB la v) := by
  unfold shB lsL
  rw [decide_eq_true_eq]
  obtain ⟨m, hm, hle⟩ := lsP_le1 (ls := la.2) (L := L) (W := waysL la) hi rfl
  obtain ⟨j, hj1, hj2, hj3⟩ := lsP_ex hm
  rw [hm]
  constructor
  · intro h v hv hk
    obtain ⟨m2, hm2, hle2⟩ := lsP_le1 (ls := la.2) (L := L) (W := waysL la) hv hk
    rw [hm] at hm2
    cases hm2
    have : m = lenOf L (bitsOf la.2 ((waysL la).getD i [])) := by simpa using h
    unfold wB
    omega
  · intro h
    have := h j hj1 hj2
    unfold wB at this
    congr 1
    omega
/-! the bonds of some ways -/
def bdsW (la : Land) (w : Nat) : Nat → List (Nat × Nat)
  | 0 => []
  | v + 1 => bdsW la w v ++ (if v ≠ w ∧ endK ((waysL la).getD v []) = endK ((waysL la).getD w []) then [(andn (wB la w) (wB la v), andn (wB la v) (wB la w))] else [])
def bds (la : Land) (held : Nat) : Nat → List (Nat × Nat)
  | 0 => []
  | w + 1 => bds la held w ++ (if held.testBit w then bdsW la w (waysL la).length else [])
theorem bdsW_mem {la : Land} {w : Nat} {b : Nat × Nat} : ∀ {n : Nat}, b ∈ bdsW la w n ↔ ∃ v, v < n ∧ v ≠ w ∧ endK ((waysL la).getD v []) = endK ((waysL la).getD w []) ∧ b = (andn (wB la w) (wB la v), andn (wB la v) (wB la w))
  | 0 => by unfold bdsW; simp
  | n + 1 => by
    unfold bdsW
    rw [List.mem_append, bdsW_mem (n := n)]
    constructor
    · rintro (⟨v, h1, h2⟩ | h)
      · exact ⟨v, by omega, h2⟩
      · split at h
        · rename_i hc
          exact ⟨n, by omega, hc.1, hc.2, List.mem_singleton.mp h⟩
        · simp at h
    · rintro ⟨v, h1, h2, h3, h4⟩
      by_cases c : v = n
      · subst c; right; rw [if_pos ⟨h2, h3⟩]; exact List.mem_singleton.mpr h4
      · left; exact ⟨v, by omega, h2, h3, h4⟩
theorem bds_mem {la : Land} {held : Nat} {b : Nat × Nat} : ∀ {n : Nat}, b ∈ bds la held n ↔ ∃ w, w < n ∧ held.testBit w = true ∧ b ∈ bdsW la w (waysL la).length
  | 0 => by unfold bds; simp
  | n + 1 => by
    unfold bds
    rw [List.mem_append, bds_mem (n := n)]
    constructor
    · rintro (⟨w, h1, h2⟩ | h)
      · exact ⟨w, by omega, h2⟩
      · split at h
        · rename_i hc; exact ⟨n, by omega, hc, h⟩
        · simp at h
    · rintro ⟨w, h1, h2, h3⟩
      by_cases c : w = n
      · subst c; right; rw [if_pos h2]; exact h3
      · left; exact ⟨w, by omega, h2, h3⟩
theorem bds_len {la : Land} {held : Nat} (h4 : ∀ w, (bdsW la w (waysL la).length).length ≤ 4) : ∀ n, (bds la held n).length ≤ 4 * nF (fun w => held.testBit w) n
  | 0 => by unfold bds nF; simp
  | n + 1 => by
    have ih := bds_len (held := held) h4 n
    have := h4 n
    unfold bds nF
    rw [List.length_append]
    split
    · omega
    · simp; omega
theorem wB_n {la : Land} (i : Nat) : wB la i < 2 ^ la.2.length := by
  unfold wB bitsOf
  have : ∀ (w : List Nat) k, bitsP la.2 w k < 2 ^ la.2.length := by
    intro w k
    induction k with
    | zero => exact Nat.two_pow_pos _
    | succ k ih =>
      cases k with
      | zero => exact Nat.two_pow_pos _
      | succ k =>
        show bitsP la.2 w (k + 1) ||| lb la.2 (w.getD k 0) (w.getD (k + 1) 0) < _
        refine Nat.or_lt_two_pow ih ?_
        unfold lb
        split
        · rename_i l hl; exact Nat.pow_lt_pow_right (by omega) (lnB_lt hl)
        · exact Nat.two_pow_pos _
  exact this _ _
theorem bds_ok {la : Land} {held : Nat} (h : okLand la) (hlen : (bds la held (waysL la).length).length ≤ 20) : okBd (bds la held (waysL la).length) ∧ ∀ b ∈ bds la held (waysL la).length, b.1 < 2 ^ la.2.length ∧ b.2 < 2 ^ la.2.length := by
  refine ⟨⟨hlen, fun b hb => ?_⟩, fun b hb => ?_⟩
  · obtain ⟨w, h1, h2, h3⟩ := bds_mem.mp hb
    obtain ⟨v, h4, h5, h6, rfl⟩ := bdsW_mem.mp h3
    refine ⟨andn_lt (wB_lt h w), andn_lt (wB_lt h v), fun j => ?_⟩
    dsimp only
    rw [andn_tb (wB_lt h w), andn_tb (wB_lt h v)]
    cases (wB la w).testBit j <;> cases (wB la v).testBit j <;> simp
  · obtain ⟨w, h1, h2, h3⟩ := bds_mem.mp hb
    obtain ⟨v, h4, h5, h6, rfl⟩ := bdsW_mem.mp h3
    exact ⟨Nat.lt_of_le_of_lt Nat.and_le_left (wB_n w), Nat.lt_of_le_of_lt Nat.and_le_left (wB_n v)⟩
/-- lengths keep the bonds of some ways iff by them each of these is a shortest one -/
theorem bds_iff {la : Land} {held : Nat} {M : List Nat} (h : okLand la) (hlen : (bds la held (waysL la).length).length ≤ 20) (hM : M.length = la.2.length) (h15 : in15 M) : okP (bds la held (waysL la).length) M = true ↔ ∀ w, w < (waysL la).length → held.testBit w = true → shB la M ((waysL la).getD w []) = true := by
  obtain ⟨o1, o2⟩ := bds_ok h hlen
  have l6 := h.2.2.1
  rw [okP_iff o1 (by omega) h15 (by rw [hM]; exact o2)]
  constructor
  · intro hk w hw ht
    rw [shB_iff hw]
    intro v hv he
    by_cases c : v = w
    · rw [c]; exact Nat.le_refl _
    · have := hk _ (bds_mem.mpr ⟨w, hw, ht, bdsW_mem.mpr ⟨v, hv, c, he, rfl⟩⟩)
      have d := lenP_diff (M := M) (wB_lt h w) (wB_lt h v) M.length
      unfold lenOf at this ⊢
      dsimp only at this
      omega
  · intro hk b hb
    obtain ⟨w, h1, h2, h3⟩ := bds_mem.mp hb
    obtain ⟨v, h4, h5, h6, rfl⟩ := bdsW_mem.mp h3
    have := (shB_iff h1).mp (hk w h1 h2) v h4 h6
    have d := lenP_diff (M := M) (wB_lt h w) (wB_lt h v) M.length
    unfold lenOf at this ⊢
    dsimp only
    omega
