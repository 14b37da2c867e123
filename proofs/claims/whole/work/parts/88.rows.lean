/-! rows of places and their lanes: mathematics -/
section RWS
variable {ls : List Lane}
theorem lnB_at : ∀ {ls : List Lane} {a b l : Nat}, lnB ls a b = some l → joins (ls.getD l (0, 0, 0)) a b = true
  | [], a, b, l, h => by cases h
  | ln :: r, a, b, l, h => by
    unfold lnB at h
    split at h
    · rename_i hj
      cases h
      exact hj
    · cases hq : lnB r a b with
      | none => rw [hq] at h; cases h
      | some q =>
        rw [hq] at h
        cases h
        have := lnB_at hq
        simpa using this
theorem lnB_isSome : ∀ {ls : List Lane} {a b l : Nat}, l < ls.length → joins (ls.getD l (0, 0, 0)) a b = true → (lnB ls a b).isSome = true
  | [], a, b, l, h, _ => by simp at h
  | ln :: r, a, b, l, h, hj => by
    unfold lnB
    split
    · rfl
    · rename_i hn
      cases l with
      | zero => exact absurd hj (by simpa using hn)
      | succ l =>
        have := lnB_isSome (ls := r) (l := l) (a := a) (b := b) (by simpa using h) (by simpa using hj)
        cases hq : lnB r a b with
        | none => rw [hq] at this; cases this
        | some q => rfl
end RWS
/-- all that is used of the land: lanes join unlike places below 5, no two the same -/
def okLs (ls : List Lane) : Prop := (∀ l, l < ls.length → (ls.getD l (0, 0, 0)).1 < 5 ∧ (ls.getD l (0, 0, 0)).2.1 < 5 ∧ (ls.getD l (0, 0, 0)).1 ≠ (ls.getD l (0, 0, 0)).2.1) ∧ (∀ l m, l < ls.length → m < ls.length → joins (ls.getD l (0, 0, 0)) (ls.getD m (0, 0, 0)).1 (ls.getD m (0, 0, 0)).2.1 = true → l = m) ∧ ls.length ≤ 6
theorem okLand.ls {la : Land} (h : okLand la) : okLs la.2 := by
  obtain ⟨h1, h2, h3, h4, h5⟩ := h
  refine ⟨fun l hl => ?_, fun l m hl hm hj => h5 l m _ _ (laneG hl) (laneG hm) hj, h3⟩
  have := h4 l _ _ _ (laneG hl)
  exact ⟨Nat.lt_of_lt_of_le this.1 h2, Nat.lt_of_lt_of_le this.2.1 h2, this.2.2.1⟩
theorem lane_lt {la : Land} (h : okLand la) {l : Nat} (hl : l < la.2.length) : (la.2.getD l (0, 0, 0)).1 < la.1 ∧ (la.2.getD l (0, 0, 0)).2.1 < la.1 := by
  have := h.2.2.2.1 l _ _ _ (laneG hl)
  exact ⟨this.1, this.2.1⟩
section RW2
variable {ls : List Lane}
theorem lnB_uq (h : okLs ls) {a b l : Nat} (hl : l < ls.length) (hj : joins (ls.getD l (0, 0, 0)) a b = true) : lnB ls a b = some l := by
  have hs := lnB_isSome hl hj
  cases hz : lnB ls a b with
  | none => rw [hz] at hs; cases hs
  | some m =>
    have h1 := lnB_at hz
    have h2 := lnB_lt hz
    congr 1
    refine h.2.1 m l h2 hl ?_
    rw [joins_iff] at h1 hj ⊢
    omega
/-- a lane is at a place -/
def incB (ln : Lane) (p : Nat) : Bool := ln.1 == p || ln.2.1 == p
theorem incB_iff {ln : Lane} {p : Nat} : incB ln p = true ↔ ln.1 = p ∨ ln.2.1 = p := by
  unfold incB
  rw [Bool.or_eq_true, beq_iff_eq, beq_iff_eq]
def oth (ln : Lane) (p : Nat) : Nat := if ln.1 = p then ln.2.1 else ln.1
theorem joins_inc {ln : Lane} {a b p : Nat} (h : joins ln a b = true) : incB ln p = true ↔ p = a ∨ p = b := by
  rw [joins_iff] at h
  rw [incB_iff]
  omega
theorem oth_joins {ln : Lane} {p : Nat} (h : incB ln p = true) : joins ln p (oth ln p) = true := by
  rw [incB_iff] at h
  rw [joins_iff]
  unfold oth
  split
  · rename_i e; left; exact ⟨e, rfl⟩
  · rename_i e
    right
    exact ⟨rfl, by omega⟩
theorem joins_oth {ln : Lane} {a b : Nat} (h : joins ln a b = true) : oth ln a = b := by
  rw [joins_iff] at h
  unfold oth
  split
  · omega
  · omega
theorem bitsP_tb (w : List Nat) (l : Nat) : ∀ k, (bitsP ls w k).testBit l = true ↔ ∃ j, j + 1 < k ∧ lnB ls (w.getD j 0) (w.getD (j + 1) 0) = some l
  | 0 => by unfold bitsP; simp
  | 1 => by unfold bitsP; simp
  | k + 2 => by
    unfold bitsP
    rw [Nat.testBit_or, Bool.or_eq_true, bitsP_tb w l (k + 1)]
    have e : (lb ls (w.getD k 0) (w.getD (k + 1) 0)).testBit l = true ↔ lnB ls (w.getD k 0) (w.getD (k + 1) 0) = some l := by
      unfold lb
      cases hz : lnB ls (w.getD k 0) (w.getD (k + 1) 0) with
      | none => simp
      | some m =>
        show (2 ^ m).testBit l = true ↔ _
        rw [Nat.testBit_two_pow, decide_eq_true_iff]
        constructor
        · intro z; rw [z]
        · intro z; exact Option.some.inj z
    rw [e]
    constructor
    · rintro (⟨j, h1, h2⟩ | h)
      · exact ⟨j, by omega, h2⟩
      · exact ⟨k, by omega, h⟩
    · rintro ⟨j, h1, h2⟩
      by_cases c : j = k
      · subst c; right; exact h2
      · left; exact ⟨j, by omega, h2⟩
theorem bits_tb {w : List Nat} {l : Nat} : (bitsOf ls w).testBit l = true ↔ ∃ j, j + 1 < w.length ∧ lnB ls (w.getD j 0) (w.getD (j + 1) 0) = some l := bitsP_tb w l w.length
theorem bits_one (p : Nat) : bitsOf ls [p] = 0 := rfl
theorem bits_cons (p q : Nat) (r : List Nat) : bitsOf ls (p :: q :: r) = lb ls p q ||| bitsOf ls (q :: r) := by
  apply Nat.eq_of_testBit_eq
  intro l
  rw [Bool.eq_iff_iff, Nat.testBit_or, Bool.or_eq_true, bits_tb, bits_tb]
  have e : (lb ls p q).testBit l = true ↔ lnB ls p q = some l := by
    unfold lb
    cases hz : lnB ls p q with
    | none => simp
    | some m =>
      show (2 ^ m).testBit l = true ↔ _
      rw [Nat.testBit_two_pow, decide_eq_true_iff]
      constructor
      · intro z; rw [z]
      · intro z; exact Option.some.inj z
  rw [e]
  constructor
  · rintro ⟨j, h1, h2⟩
    cases j with
    | zero => left; exact h2
    | succ j => right; exact ⟨j, by simpa using h1, by simpa using h2⟩
  · rintro (h | ⟨j, h1, h2⟩)
    · exact ⟨0, by simp, h⟩
    · exact ⟨j + 1, by simpa using h1, by simpa using h2⟩
theorem rev_getD {w : List Nat} {k : Nat} (h : k < w.length) : w.reverse.getD k 0 = w.getD (w.length - 1 - k) 0 := by
  have e := List.getElem?_reverse h
  rw [List.getD_eq_getElem?_getD, e, ← List.getD_eq_getElem?_getD]
theorem bits_rev (w : List Nat) : bitsOf ls w.reverse = bitsOf ls w := by
  have half : ∀ w : List Nat, ∀ l, (bitsOf ls w.reverse).testBit l = true → (bitsOf ls w).testBit l = true := by
    intro w l h
    rw [bits_tb, List.length_reverse] at h
    obtain ⟨j, h1, h2⟩ := h
    rw [rev_getD (by omega), rev_getD (by omega), lnB_comm] at h2
    rw [bits_tb]
    refine ⟨w.length - 1 - (j + 1), by omega, ?_⟩
    rw [show w.length - 1 - (j + 1) + 1 = w.length - 1 - j by omega]
    exact h2
  apply Nat.eq_of_testBit_eq
  intro l
  rw [Bool.eq_iff_iff]
  refine ⟨half w l, fun h => half w.reverse l ?_⟩
  rw [List.reverse_reverse]
  exact h
theorem nd_rev {w : List Nat} (h : w.Nodup) : w.reverse.Nodup := by
  unfold List.Nodup at *
  rw [List.pairwise_reverse]
  exact h.imp (fun z => z.symm)
theorem isRow_rev {n : Nat} {w : List Nat} (h : isRow n ls w) : isRow n ls w.reverse := by
  obtain ⟨h1, h2, h3, h4⟩ := h
  refine ⟨fun p hp => h1 p (List.mem_reverse.mp hp), by rw [List.length_reverse]; exact h2, fun k hk => ?_, nd_rev h4⟩
  rw [List.length_reverse] at hk
  rw [rev_getD (by omega), rev_getD (by omega), lnB_comm]
  have := h3 (w.length - 1 - (k + 1)) (by omega)
  rw [show w.length - 1 - (k + 1) + 1 = w.length - 1 - k by omega] at this
  exact this
theorem isRow_tl {n p : Nat} {w : List Nat} (h : isRow n ls (p :: w)) : isRow n ls w := by
  obtain ⟨h1, h2, h3, h4⟩ := h
  refine ⟨fun q hq => h1 q (List.mem_cons_of_mem _ hq), by simp at h2; omega, fun k hk => ?_, (List.nodup_cons.mp h4).2⟩
  have := h3 (k + 1) (by simp; omega)
  simpa using this
theorem isRow_cons {n p q : Nat} {r : List Nat} (h : isRow n ls (q :: r)) (hp : p < n) (hl : r.length ≤ 3) (hj : (lnB ls p q).isSome = true) (hn : p ∉ q :: r) : isRow n ls (p :: q :: r) := by
  obtain ⟨h1, h2, h3, h4⟩ := h
  refine ⟨fun x hx => ?_, by simp; omega, fun k hk => ?_, List.nodup_cons.mpr ⟨hn, h4⟩⟩
  · rcases List.mem_cons.mp hx with rfl | hx
    · exact hp
    · exact h1 x hx
  · cases k with
    | zero => exact hj
    | succ k =>
      have := h3 k (by simp at hk ⊢; omega)
      simpa using this
/-! every row is among the ways, forward or backward -/
theorem waysFrom_mem {n : Nat} : ∀ (e t : List Nat) (d : Nat), isRow n ls (t ++ e) → 1 ≤ t.length → t.length + d = 6 → (t ++ e).getD 0 0 < lastOf (t ++ e) → t ++ e ∈ waysFrom n ls d t
  | [], t, d, hr, h1, hd, hlt => by
    rw [List.append_nil] at hr hlt ⊢
    have h5 := hr.2.1
    obtain ⟨d, rfl⟩ : ∃ e, d = e + 1 := ⟨d - 1, by omega⟩
    unfold waysFrom
    rw [if_pos hlt]
    exact List.mem_append_left _ (List.mem_singleton.mpr rfl)
  | p :: e, t, d, hr, h1, hd, hlt => by
    have h5 := hr.2.1
    rw [List.length_append, List.length_cons] at h5
    obtain ⟨d, rfl⟩ : ∃ e, d = e + 1 := ⟨d - 1, by omega⟩
    have ih := waysFrom_mem e (t ++ [p]) d (by rw [List.append_assoc]; exact hr) (by simp) (by simp; omega) (by rw [List.append_assoc]; exact hlt)
    rw [List.append_assoc] at ih
    unfold waysFrom
    refine List.mem_append_right _ ?_
    rw [if_pos (by omega)]
    refine List.mem_flatMap.mpr ⟨p, List.mem_range.mpr (hr.1 p (by simp)), ?_⟩
    have hj := hr.2.2.1 (t.length - 1) (by simp; omega)
    have e1 : (t ++ p :: e).getD (t.length - 1) 0 = lastOf t := by
      rw [lastOf_eq, List.getD_eq_getElem?_getD, List.getElem?_append_left (by omega), ← List.getD_eq_getElem?_getD]
    have e2 : (t ++ p :: e).getD (t.length - 1 + 1) 0 = p := by
      rw [List.getD_eq_getElem?_getD, List.getElem?_append_right (by omega), show t.length - 1 + 1 - t.length = 0 by omega]
      rfl
    rw [e1, e2] at hj
    have hc : t.contains p = false := by
      have := hr.2.2.2
      rw [List.nodup_append] at this
      rw [Bool.eq_false_iff]
      intro z
      exact this.2.2 p (by simpa using z) p (by simp) rfl
    rw [hj, hc]
    exact ih
theorem lastOf_rev {w : List Nat} (h : 1 ≤ w.length) : lastOf w.reverse = w.getD 0 0 := by
  rw [lastOf_eq, List.length_reverse, rev_getD (by omega)]
  congr 1
  omega
theorem row_ends {n : Nat} {w : List Nat} (h : isRow n ls w) (h2 : 2 ≤ w.length) : w.getD 0 0 ≠ lastOf w := by
  intro e
  rw [lastOf_eq] at e
  have g1 := getD_get (L := w) (l := 0) (by omega)
  have g2 := getD_get (L := w) (l := w.length - 1) (by omega)
  rw [← e] at g2
  have := (List.getElem?_inj (i := 0) (j := w.length - 1) (by omega) h.2.2.2).mp (g1.trans g2.symm)
  omega
theorem way_mem2 {la : Land} {w : List Nat} (h : isRow la.1 la.2 w) (h2 : 2 ≤ w.length) (hlt : w.getD 0 0 < lastOf w) : w ∈ waysL la := by
  match w, h, h2, hlt with
  | p :: e, h, h2, hlt =>
    unfold waysL
    refine List.mem_flatMap.mpr ⟨p, List.mem_range.mpr (h.1 p (by simp)), ?_⟩
    exact waysFrom_mem e [p] 5 h (by simp) (by simp) hlt
theorem wIx_some {b : Nat} : ∀ {W : List (List Nat)} {w : List Nat}, w ∈ W → bitsOf ls w = b → (wIx ls b W).isSome = true
  | [], w, h, _ => by cases h
  | v :: r, w, h, hb => by
    unfold wIx
    split
    · rfl
    · rename_i hn
      rcases List.mem_cons.mp h with rfl | h
      · exact absurd hb hn
      · have := wIx_some h hb
        cases hq : wIx ls b r with
        | none => rw [hq] at this; cases this
        | some q => rfl
/-- a way, or the same the other way round -/
theorem row_way {la : Land} {w : List Nat} (h : isRow la.1 la.2 w) (h2 : 2 ≤ w.length) : w ∈ waysL la ∨ w.reverse ∈ waysL la := by
  have hne := row_ends h h2
  by_cases c : w.getD 0 0 < lastOf w
  · exact Or.inl (way_mem2 h h2 c)
  · right
    refine way_mem2 (isRow_rev h) (by rw [List.length_reverse]; exact h2) ?_
    rw [lastOf_rev (by omega), rev_getD (by omega), Nat.sub_zero, ← lastOf_eq]
    omega
theorem way_some {la : Land} {w : List Nat} (h : isRow la.1 la.2 w) (h2 : 2 ≤ w.length) : (wayIx la (bitsOf la.2 w)).isSome = true := by
  unfold wayIx
  rcases row_way h h2 with c | c
  · exact wIx_some c rfl
  · exact wIx_some c (bits_rev w)
end RW2
