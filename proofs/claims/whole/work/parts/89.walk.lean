/-! lanes at places; a set of lanes gone through from end to end -/
def degP (ls : List Lane) (b p : Nat) : Nat → Nat
  | 0 => 0
  | l + 1 => degP ls b p l + if b.testBit l && incB (ls.getD l (0, 0, 0)) p then 1 else 0
def deg (ls : List Lane) (b p : Nat) : Nat := degP ls b p ls.length
/-- the last lane of a set at a place -/
def lstP (ls : List Lane) (b p : Nat) : Nat → Option Nat
  | 0 => none
  | l + 1 => if b.testBit l && incB (ls.getD l (0, 0, 0)) p then some l else lstP ls b p l
def lstL (ls : List Lane) (b p : Nat) : Option Nat := lstP ls b p ls.length
/-- the way from a place on by lanes of a set: what is left, the places -/
def wk (ls : List Lane) : Nat → Nat → Nat → Nat × List Nat
  | 0, b, _ => (b, [])
  | n + 1, b, p => match lstL ls b p with
    | none => wk ls n b p
    | some l => ((wk ls n (andn b (2 ^ l)) (oth (ls.getD l (0, 0, 0)) p)).1, oth (ls.getD l (0, 0, 0)) p :: (wk ls n (andn b (2 ^ l)) (oth (ls.getD l (0, 0, 0)) p)).2)
section WLK
variable {ls : List Lane}
theorem degP_clear {b l p : Nat} (hb : b < 64) (h : b.testBit l = true) : ∀ k, degP ls b p k = degP ls (andn b (2 ^ l)) p k + if l < k ∧ incB (ls.getD l (0, 0, 0)) p = true then 1 else 0
  | 0 => by unfold degP; simp
  | k + 1 => by
    have ih := degP_clear (p := p) hb h k
    unfold degP
    rw [ih, andn_tb hb, Nat.testBit_two_pow]
    by_cases c : l = k
    · subst c
      rw [h, decide_eq_true rfl]
      simp
    · rw [decide_eq_false c]
      simp only [Bool.not_false, Bool.and_true]
      have : (l < k ∧ incB (ls.getD l (0, 0, 0)) p = true) = (l < k + 1 ∧ incB (ls.getD l (0, 0, 0)) p = true) := by
        apply propext
        constructor
        · rintro ⟨a, z⟩; exact ⟨by omega, z⟩
        · rintro ⟨a, z⟩; exact ⟨by omega, z⟩
      simp only [this]
      exact Nat.add_right_comm _ _ _
theorem deg_clear {b l p : Nat} (hb : b < 64) (hl : l < ls.length) (h : b.testBit l = true) : deg ls b p = deg ls (andn b (2 ^ l)) p + if incB (ls.getD l (0, 0, 0)) p = true then 1 else 0 := by
  unfold deg
  rw [degP_clear hb h]
  congr 2
  apply propext
  exact ⟨fun z => z.2, fun z => ⟨hl, z⟩⟩
theorem degP_zero (p : Nat) : ∀ k, degP ls 0 p k = 0
  | 0 => rfl
  | k + 1 => by unfold degP; rw [degP_zero p k]; simp
theorem deg_zero (p : Nat) : deg ls 0 p = 0 := degP_zero p _
theorem lstP_some {b p l : Nat} : ∀ {k : Nat}, lstP ls b p k = some l → l < k ∧ b.testBit l = true ∧ incB (ls.getD l (0, 0, 0)) p = true
  | 0, h => by cases h
  | k + 1, h => by
    unfold lstP at h
    split at h
    · rename_i c
      cases h
      rw [Bool.and_eq_true] at c
      exact ⟨by omega, c.1, c.2⟩
    · have := lstP_some h
      exact ⟨by omega, this.2⟩
theorem lstP_uq {b p l : Nat} (h1 : b.testBit l = true) (h2 : incB (ls.getD l (0, 0, 0)) p = true) (hu : ∀ m, b.testBit m = true → m < ls.length → incB (ls.getD m (0, 0, 0)) p = true → m = l) : ∀ k, k ≤ ls.length → l < k → lstP ls b p k = some l
  | 0, _, h => by omega
  | k + 1, hk, h => by
    unfold lstP
    by_cases c : k = l
    · subst c
      rw [h1, h2]
      rfl
    · rw [if_neg, lstP_uq h1 h2 hu k (by omega) (by omega)]
      intro z
      rw [Bool.and_eq_true] at z
      exact c (hu k z.1 (by omega) z.2)
theorem or_andn {b l : Nat} (hb : b < 64) (h : b.testBit l = true) : 2 ^ l ||| andn b (2 ^ l) = b := by
  apply Nat.eq_of_testBit_eq
  intro j
  rw [Nat.testBit_or, andn_tb hb, Nat.testBit_two_pow]
  by_cases c : l = j
  · subst c; rw [h, decide_eq_true rfl]; rfl
  · rw [decide_eq_false c]; simp
theorem andn_or {b l : Nat} (hb : b < 64) (hl : l < 6) (h : b.testBit l = false) : andn (2 ^ l ||| b) (2 ^ l) = b := by
  have h2 : 2 ^ l < 64 := Nat.pow_lt_pow_right (n := 6) (by omega) hl
  apply Nat.eq_of_testBit_eq
  intro j
  rw [andn_tb (or_lt64 h2 hb), Nat.testBit_or, Nat.testBit_two_pow]
  by_cases c : l = j
  · subst c; rw [h, decide_eq_true rfl]; rfl
  · rw [decide_eq_false c]; simp
theorem lb_some {a b l : Nat} (h : lnB ls a b = some l) : lb ls a b = 2 ^ l := by
  unfold lb
  rw [h]
/-- a row's own lanes lead along it -/
theorem row_first {n p q l : Nat} {r : List Nat} (ho : okLs ls) (h : isRow n ls (p :: q :: r)) (hl : lnB ls p q = some l) : (bitsOf ls (q :: r)).testBit l = false ∧ lstL ls (bitsOf ls (p :: q :: r)) p = some l ∧ oth (ls.getD l (0, 0, 0)) p = q ∧ ∀ m, (bitsOf ls (q :: r)).testBit m = true → incB (ls.getD m (0, 0, 0)) p = false := by
  have hj := lnB_at hl
  have hl6 := lnB_lt hl
  have hnd := List.nodup_cons.mp h.2.2.2
  have key : ∀ m, (bitsOf ls (q :: r)).testBit m = true → incB (ls.getD m (0, 0, 0)) p = false := by
    intro m hm
    obtain ⟨j, h1, h2⟩ := bits_tb.mp hm
    rw [Bool.eq_false_iff]
    intro z
    rcases (joins_inc (lnB_at h2)).mp z with e | e
    · exact hnd.1 (by rw [e]; exact List.mem_of_getElem? (getD_get (show j < (q :: r).length by omega)))
    · exact hnd.1 (by rw [e]; exact List.mem_of_getElem? (getD_get (show j + 1 < (q :: r).length by omega)))
  have hinc : incB (ls.getD l (0, 0, 0)) p = true := (joins_inc hj).mpr (Or.inl rfl)
  have hno : (bitsOf ls (q :: r)).testBit l = false := by
    rw [Bool.eq_false_iff]
    intro z
    have := key l z
    rw [hinc] at this
    cases this
  refine ⟨hno, ?_, joins_oth hj, key⟩
  have hb : bitsOf ls (p :: q :: r) = 2 ^ l ||| bitsOf ls (q :: r) := by rw [bits_cons, lb_some hl]
  unfold lstL
  refine lstP_uq ?_ hinc ?_ _ (Nat.le_refl _) hl6
  · rw [hb, Nat.testBit_or, Nat.testBit_two_pow, decide_eq_true rfl, Bool.true_or]
  · intro m h1 h2 h3
    rw [hb, Nat.testBit_or, Nat.testBit_two_pow, Bool.or_eq_true] at h1
    rcases h1 with h1 | h1
    · exact (of_decide_eq_true h1).symm
    · rw [key m h1] at h3; cases h3
theorem lstP_none0 (p : Nat) : ∀ k, lstP ls 0 p k = none
  | 0 => rfl
  | k + 1 => by unfold lstP; rw [lstP_none0 p k]; simp
theorem wk_zero : ∀ (n p : Nat), wk ls n 0 p = (0, [])
  | 0, p => rfl
  | n + 1, p => by
    unfold wk lstL
    rw [lstP_none0]
    exact wk_zero n p
theorem wk_row {n : Nat} (ho : okLs ls) : ∀ (r : List Nat) (p k : Nat), isRow n ls (p :: r) → r.length ≤ k → wk ls k (bitsOf ls (p :: r)) p = (0, r)
  | [], p, k, h, hk => by rw [bits_one]; exact wk_zero k p
  | q :: r, p, k, h, hk => by
    have hj := h.2.2.1 0 (by simp)
    cases hl : lnB ls p q with
    | none =>
      rw [show (p :: q :: r).getD 0 0 = p from rfl, show (p :: q :: r).getD (0 + 1) 0 = q from rfl, hl] at hj
      cases hj
    | some l =>
      obtain ⟨a1, a2, a3, -⟩ := row_first ho h hl
      have hl6 := lnB_lt hl
      have h6 := ho.2.2
      obtain ⟨k, rfl⟩ : ∃ e, k = e + 1 := ⟨k - 1, by simp at hk; omega⟩
      unfold wk
      rw [a2]
      dsimp only
      rw [a3, bits_cons, lb_some hl, andn_or (b := bitsOf ls (q :: r)) (bitsP_lt h6 _ _) (by omega) a1, wk_row ho r q k (isRow_tl h) (by simp at hk; omega)]
theorem nd_len : ∀ (n : Nat) (w : List Nat), w.Nodup → (∀ p ∈ w, p < n) → w.length ≤ n
  | 0, [], _, _ => Nat.le_refl _
  | 0, a :: r, _, h => absurd (h a (by simp)) (by omega)
  | n + 1, w, hn, h => by
    by_cases c : n ∈ w
    · have e := List.length_erase_of_mem c
      have := nd_len n (w.erase n) (hn.erase n) (fun p hp => by
        have z := (List.Nodup.mem_erase_iff hn).mp hp
        have := h p z.2
        omega)
      omega
    · have := nd_len n w hn (fun p hp => by
        have z := h p hp
        have : p ≠ n := fun e => c (e ▸ hp)
        omega)
      omega
/-- gone through to the end: the places are a row, its lanes the set -/
theorem wk_is {n : Nat} (ho : okLs ls) (hn : n ≤ 5) (hln : ∀ l, l < ls.length → (ls.getD l (0, 0, 0)).1 < n ∧ (ls.getD l (0, 0, 0)).2.1 < n) : ∀ (k b p : Nat) (vis : List Nat), b < 64 → p < n → (∀ q, deg ls b q ≤ 2) → deg ls b p ≤ 1 → (∀ q ∈ vis, deg ls b q = 0) → p ∉ vis → (wk ls k b p).1 = 0 → ((p :: (wk ls k b p).2).Nodup ∧ (∀ q ∈ p :: (wk ls k b p).2, q < n ∧ q ∉ vis) ∧ (∀ j, j + 1 < (p :: (wk ls k b p).2).length → (lnB ls ((p :: (wk ls k b p).2).getD j 0) ((p :: (wk ls k b p).2).getD (j + 1) 0)).isSome = true)) ∧ bitsOf ls (p :: (wk ls k b p).2) = b
  | 0, b, p, vis, hb, hp, h2, h1, hv, hpv, hz => by
    have hz' : b = 0 := hz
    subst hz'
    unfold wk
    exact ⟨⟨by simp, fun q hq => by rw [List.mem_singleton.mp hq]; exact ⟨hp, hpv⟩, fun j hj => by simp at hj⟩, bits_one p⟩
  | k + 1, b, p, vis, hb, hp, h2, h1, hv, hpv, hz => by
    unfold wk at hz ⊢
    cases hl : lstL ls b p with
    | none =>
      rw [hl] at hz
      exact wk_is ho hn hln k b p vis hb hp h2 h1 hv hpv hz
    | some l =>
      rw [hl] at hz
      dsimp only at hz ⊢
      obtain ⟨l1, l2, l3⟩ := lstP_some hl
      have hj := oth_joins l3
      have hlan := ho.1 l l1
      have hln2 := hln l l1
      have hq : oth (ls.getD l (0, 0, 0)) p < n := by unfold oth; split; exact hln2.2; exact hln2.1
      have hqp : oth (ls.getD l (0, 0, 0)) p ≠ p := by
        rw [joins_iff] at hj
        intro e
        rw [e] at hj
        exact hlan.2.2 (by omega)
      generalize hqe : oth (ls.getD l (0, 0, 0)) p = q at hz hj hq hqp ⊢
      have dc := fun x => deg_clear (p := x) hb l1 l2
      have iq : incB (ls.getD l (0, 0, 0)) q = true := (joins_inc hj).mpr (Or.inr rfl)
      have dp := dc p
      rw [l3, if_pos rfl] at dp
      have dq := dc q
      rw [iq, if_pos rfl] at dq
      have hqv : q ∉ vis := fun z => by have := hv q z; omega
      have hd2 := h2 q
      have ih := wk_is ho hn hln k (andn b (2 ^ l)) q (p :: vis) (andn_lt hb) hq (fun x => by have := dc x; have := h2 x; omega) (by omega) (fun x hx => by
        rcases List.mem_cons.mp hx with rfl | hx
        · omega
        · have := dc x
          have := hv x hx
          omega) (fun z => by
        rcases List.mem_cons.mp z with z | z
        · exact hqp z
        · exact hqv z) hz
      generalize (wk ls k (andn b (2 ^ l)) q).2 = r at ih ⊢
      obtain ⟨⟨i1, i2, i3⟩, i4⟩ := ih
      have hlnb : lnB ls p q = some l := lnB_uq ho l1 hj
      refine ⟨⟨List.nodup_cons.mpr ⟨fun z => (i2 p z).2 (by simp), i1⟩, fun x hx => ?_, fun j hj2 => ?_⟩, ?_⟩
      · rcases List.mem_cons.mp hx with rfl | hx
        · exact ⟨hp, hpv⟩
        · have := i2 x hx
          exact ⟨this.1, fun z => this.2 (List.mem_cons_of_mem _ z)⟩
      · cases j with
        | zero =>
          show (lnB ls p q).isSome = true
          rw [hlnb]; rfl
        | succ j => exact i3 j (by simp at hj2 ⊢; omega)
      · rw [bits_cons, i4, lb_some hlnb, or_andn hb l2]
/-- the lanes of a row at a place -/
theorem row_deg {n : Nat} (ho : okLs ls) : ∀ (r : List Nat) (p q : Nat), isRow n ls (p :: q :: r) → ∀ x, deg ls (bitsOf ls (p :: q :: r)) x = if x ∈ p :: q :: r then (if x = p ∨ x = lastOf (q :: r) then 1 else 2) else 0
  | r, p, q, h, x => by
    have hj := h.2.2.1 0 (by simp)
    cases hl : lnB ls p q with
    | none =>
      rw [show (p :: q :: r).getD 0 0 = p from rfl, show (p :: q :: r).getD (0 + 1) 0 = q from rfl, hl] at hj
      cases hj
    | some l =>
      obtain ⟨a1, a2, a3, -⟩ := row_first ho h hl
      have hl6 := lnB_lt hl
      have h6 := ho.2.2
      have hb : bitsOf ls (p :: q :: r) = 2 ^ l ||| bitsOf ls (q :: r) := by rw [bits_cons, lb_some hl]
      have h64 : bitsOf ls (q :: r) < 64 := bitsP_lt h6 _ _
      have h64' : bitsOf ls (p :: q :: r) < 64 := bitsP_lt h6 _ _
      have ht : (bitsOf ls (p :: q :: r)).testBit l = true := by rw [hb, Nat.testBit_or, Nat.testBit_two_pow, decide_eq_true rfl, Bool.true_or]
      have hdc := deg_clear (ls := ls) (p := x) h64' hl6 ht
      rw [hb, andn_or h64 (by omega) a1] at hdc
      rw [hb, hdc]
      have hinc := joins_inc (p := x) (lnB_at hl)
      have hnd := List.nodup_cons.mp h.2.2.2
      have hpq : p ≠ q := fun e => hnd.1 (by rw [e]; simp)
      match r, h, h64, hnd, hdc with
      | [], h, h64, hnd, hdc =>
        rw [bits_one, deg_zero]
        show 0 + _ = if x ∈ [p, q] then (if x = p ∨ x = q then 1 else 2) else 0
        by_cases c : x = p ∨ x = q
        · rw [if_pos (hinc.mpr c), if_pos (by simpa using c), if_pos c]
        · rw [if_neg (fun z => c (hinc.mp z)), if_neg (by simpa using c)]
      | y :: r, h, h64, hnd, hdc =>
        rw [row_deg ho r q y (isRow_tl h) x]
        have hnd2 := List.nodup_cons.mp hnd.2
        have hlast : lastOf (q :: y :: r) = lastOf (y :: r) := rfl
        have hlm : lastOf (y :: r) ∈ y :: r := by
          rw [lastOf_eq]
          exact List.mem_of_getElem? (getD_get (show (y :: r).length - 1 < (y :: r).length by simp))
        have hql : q ≠ lastOf (y :: r) := fun e => hnd2.1 (e ▸ hlm)
        have hpl : p ≠ lastOf (y :: r) := fun e => hnd.1 (List.mem_cons_of_mem _ (e ▸ hlm))
        rw [hlast]
        by_cases c : x = p
        · subst c
          rw [if_neg hnd.1, if_pos (hinc.mpr (Or.inl rfl)), if_pos (by simp), if_pos (Or.inl rfl)]
        · by_cases c2 : x = q
          · subst c2
            rw [if_pos (by simp), if_pos (Or.inl rfl), if_pos (hinc.mpr (Or.inr rfl)), if_pos (by simp), if_neg (by omega)]
          · rw [if_neg (show ¬ incB (ls.getD l (0, 0, 0)) x = true from fun z => by have := hinc.mp z; omega), Nat.add_zero]
            have e1 : (x ∈ p :: q :: y :: r) = (x ∈ q :: y :: r) := by
              apply propext
              constructor
              · intro z
                rcases List.mem_cons.mp z with z | z
                · exact absurd z c
                · exact z
              · exact List.mem_cons_of_mem _
            have e2 : (x = q ∨ x = lastOf (y :: r)) = (x = p ∨ x = lastOf (y :: r)) := by
              apply propext
              constructor <;> intro z <;> omega
            simp only [e1, e2]
end WLK
