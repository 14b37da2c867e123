/-! the reference reads its text -/
def FrD (x : Nat) (s u : St) : Prop := Fr (fun k => k = x ∨ (x + 2 ≤ k ∧ k ≤ x + 6)) s u ∧ (∀ j, j < 4 ∨ 8 < j → u.1 x j = s.1 x j) ∧ (∀ j, j < 2 → u.1 (x + 2) j = s.1 (x + 2) j) ∧ ∀ c, 3 ≤ c → c ≤ 5 → ∀ j, j < 6 → u.1 (x + c) j = s.1 (x + c) j
def RdM (x : Nat) (D : Dt) (u : St) : Prop := u.1 (x + 2) 2 = nI D.1 ∧ u.1 (x + 2) 3 = nI D.2.1.length ∧ (∀ l a b sp, D.2.1[l]? = some (a, b, sp) → u.1 (x + 3) (6 + l) = nI a ∧ u.1 (x + 4) (6 + l) = nI b ∧ u.1 (x + 5) (6 + l) = nI sp) ∧ NowM (u.1 (x + 6)) 0 (nwD D)
section FRD
variable {x : Nat} {s t u : St}
theorem FrD.rf : FrD x s s := ⟨Fr.rf, fun _ _ => rfl, fun _ _ => rfl, fun _ _ _ _ _ => rfl⟩
theorem FrD.tr (h : FrD x s t) (h2 : FrD x t u) : FrD x s u := ⟨h.1.tr h2.1, fun j hj => (h2.2.1 j hj).trans (h.2.1 j hj), fun j hj => (h2.2.2.1 j hj).trans (h.2.2.1 j hj), fun c a b j hj => (h2.2.2.2 c a b j hj).trans (h.2.2.2 c a b j hj)⟩
theorem FrD.X (h : FrX x s u) : FrD x s u := ⟨h.1.wk (by intro k; omega), fun j hj => h.2 j (by omega), fun j _ => by rw [h.1.1 _ (by omega)], fun c a b j _ => by rw [h.1.1 _ (by omega)]⟩
theorem FrD.f {v : Int32} (h : FrD x s t) : FrD x s (stI t x 8 v) := ⟨h.1.I (Or.inl rfl), fun j hj => by rw [rI_nj (by omega)]; exact h.2.1 j hj, fun j hj => by rw [rI_ne (by omega)]; exact h.2.2.1 j hj, fun c a b j hj => by rw [rI_ne (by omega)]; exact h.2.2.2 c a b j hj⟩
theorem FrD.d {i : Nat} {v : Int32} (h : FrD x s t) : FrD x s (stI t (x + 6) i v) := ⟨h.1.I (Or.inr ⟨by omega, by omega⟩), fun j hj => by rw [rI_ne (by omega)]; exact h.2.1 j hj, fun j hj => by rw [rI_ne (by omega)]; exact h.2.2.1 j hj, fun c a b j hj => by rw [rI_ne (by omega)]; exact h.2.2.2 c a b j hj⟩
theorem FrD.m {i : Nat} {v : Int32} (h : FrD x s t) (hi : 2 ≤ i) : FrD x s (stI t (x + 2) i v) := ⟨h.1.I (Or.inr ⟨by omega, by omega⟩), fun j hj => by rw [rI_ne (by omega)]; exact h.2.1 j hj, fun j hj => by rw [rI_nj (by omega)]; exact h.2.2.1 j hj, fun c a b j hj => by rw [rI_ne (by omega)]; exact h.2.2.2 c a b j hj⟩
theorem FrD.l {c i : Nat} {v : Int32} (h : FrD x s t) (h3 : 3 ≤ c) (h5 : c ≤ 5) (hi : 6 ≤ i) : FrD x s (stI t (x + c) i v) := ⟨h.1.I (Or.inr ⟨by omega, by omega⟩), fun j hj => by rw [rI_ne (by omega)]; exact h.2.1 j hj, fun j hj => by rw [rI_ne (by omega)]; exact h.2.2.1 j hj, fun c' a b j hj => by
  by_cases e : c' = c
  · subst e; rw [rI_nj (by omega)]; exact h.2.2.2 c' a b j hj
  · rw [rI_ne (by omega)]; exact h.2.2.2 c' a b j hj⟩
theorem TextM.frd {T : List Nat} (h : TextM x T s) (hf : FrD x s u) : TextM x T u := h.cg (hf.2.1 3 (by omega)) (hf.1.1 _ (by omega))
theorem RdM.cg {D : Dt} (h : RdM x D s) (h2 : u.1 (x + 2) = s.1 (x + 2)) (h3 : u.1 (x + 3) = s.1 (x + 3)) (h4 : u.1 (x + 4) = s.1 (x + 4)) (h5 : u.1 (x + 5) = s.1 (x + 5)) (h6 : u.1 (x + 6) = s.1 (x + 6)) : RdM x D u := by unfold RdM at *; rw [h2, h3, h4, h5, h6]; exact h
theorem RdM.frx {D : Dt} (h : RdM x D s) (hf : FrX x s u) : RdM x D u := h.cg (hf.1.1 _ (by omega)) (hf.1.1 _ (by omega)) (hf.1.1 _ (by omega)) (hf.1.1 _ (by omega)) (hf.1.1 _ (by omega))
theorem RM.frd {S : Sp} (h : RM x S s) (hok : okLand S.2.1) (hf : FrD x s u) : RM x S u := by
  obtain ⟨a1, a2, a3, a4, a5, a6, a7, a8⟩ := h
  have ne : ∀ c, 7 ≤ c → u.1 (x + c) = s.1 (x + c) := fun c hc => hf.1.1 _ (by omega)
  have nj : ∀ j, 8 < j → u.1 x j = s.1 x j := fun j hj => hf.2.1 j (Or.inr hj)
  have l6 := hok.2.2.1
  refine ⟨a1.frd hf, ⟨by rw [hf.2.2.1 0 (by omega)]; exact a2.1, by rw [hf.2.2.1 1 (by omega)]; exact a2.2.1, fun l a b sp hl => ?_⟩, by rw [ne 7 (by omega)]; exact a3, a4.cg (nj 18 (by omega)) (ne 10 (by omega)), a5.cg (ne 8 (by omega)) (ne 9 (by omega)), a6.cg (nj 21 (by omega)) (ne 11 (by omega)) (ne 12 (by omega)), a7.cg (nj 26 (by omega)) (ne 13 (by omega)) (ne 15 (by omega)) (ne 16 (by omega)) (by rw [ne 14 (by omega)]), by rw [hf.1.2]; exact a8⟩
  have hll := (List.getElem?_eq_some_iff.mp hl).1
  rw [hf.2.2.2 3 (by omega) (by omega) l (by omega), hf.2.2.2 4 (by omega) (by omega) l (by omega), hf.2.2.2 5 (by omega) (by omega) l (by omega)]
  exact a2.2.2 l a b sp hl
end FRD
section RDM
variable {x : Nat} {s : St} {T : List Nat} {D : Dt}
theorem fa_neg : ¬ (0 : Int32) ≤ -1 := by decide
theorem sX10_takesT {p : Nat} {c : Int32} {Q : Int32 → St → Prop} (h : TextM x T s) (hT : T.length ≤ 120) (hT2 : ∀ a ∈ T, a ≤ 255) (hw : s.1 x 8 = -1) (hc : c ≠ 0) (hp : p ≤ T.length) (e4 : s.1 x 4 = nI p) (hQ : ∀ u, FrX x s u → CurM x (tok T p) u → Q (s.1 x 7) u) : wX10_takes x c s Q := by
  unfold wX10_takes wX10_isWell
  rw [hw]
  refine ⟨fun z => absurd z fa_neg, fun _ => ⟨fun _ => ⟨fun _ => ?_, fun z => absurd z hc⟩, fun z => absurd z (by decide)⟩⟩
  exact sX10_advances h hT hT2 hp e4 hQ
theorem sX10_takes0 {f : Nat} {Q : Int32 → St → Prop} (hw : s.1 x 8 = -1) (e6 : s.1 x 6 = nI f) (hQ : ∀ u, u = stI s x 8 (nI f) → Q 0 u) : wX10_takes x 0 s Q := by
  unfold wX10_takes wX10_isWell
  rw [hw]
  refine ⟨fun z => absurd z fa_neg, fun _ => ⟨fun _ => ⟨fun z => absurd rfl z, fun _ u hu => hQ u ?_⟩, fun z => absurd z (by decide)⟩⟩
  rw [e6] at hu
  exact hu
theorem sX10_takesF {f : Nat} {c : Int32} {Q : Int32 → St → Prop} (hw : s.1 x 8 = nI f) (hf : f ≤ 200) (hQ : Q 0 s) : wX10_takes x c s Q := by
  unfold wX10_takes wX10_isWell
  rw [hw]
  exact ⟨fun _ => ⟨fun z => absurd rfl z, fun _ => hQ⟩, fun z => absurd (nI_pos' (by omega)) z⟩
theorem sX10_inN {v lo hi : Nat} {Q : Int32 → St → Prop} (hv : v ≤ 1000) (hlo : lo ≤ 100) (hhi : hi ≤ 100) (hQ : Q (if (decide (lo ≤ v) && decide (v ≤ hi)) = true then 1 else 0) s) : wX10_in (nI v) (nI lo) (nI hi) s Q := by
  unfold wX10_in
  have no : (decide (lo ≤ v) && decide (v ≤ hi)) = false → Q 0 s := fun h => by rw [h] at hQ; exact hQ
  refine ⟨fun c => no ?_, fun c => ⟨fun c2 => no ?_, fun c2 => ?_⟩⟩
  · have := (nI_ltI (by omega) (by omega)).mp c
    rw [decide_eq_false (by omega), Bool.false_and]
  · have := (nI_ltI (by omega) (by omega)).mp c2
    rw [decide_eq_false (show ¬ v ≤ hi by omega), Bool.and_false]
  · have c' : ¬ v < lo := fun z => c ((nI_ltI (by omega) (by omega)).mpr z)
    have c2' : ¬ hi < v := fun z => c2 ((nI_ltI (by omega) (by omega)).mpr z)
    rw [decide_eq_true (show lo ≤ v by omega), decide_eq_true (show v ≤ hi by omega)] at hQ
    exact hQ
theorem rk_le (k : Nat) : rk k ≤ 4 := by unfold rk; split; omega; split; omega; split; omega; split <;> omega
theorem rk_2 {k : Nat} : rk k = 2 ↔ k = 1 := by
  unfold rk
  constructor
  · intro h
    split at h
    · omega
    · split at h
      · assumption
      · split at h
        · omega
        · split at h <;> omega
  · intro h; subst h; rfl
theorem rk_3 {k : Nat} : rk k = 3 ↔ k = 59 := by
  unfold rk
  constructor
  · intro h
    split at h
    · omega
    · split at h
      · omega
      · split at h
        · omega
        · split at h
          · assumption
          · omega
  · intro h; subst h; rfl
theorem rk_0 {k : Nat} : rk k = 0 ↔ k = 0 := by
  unfold rk
  constructor
  · intro h
    split at h
    · assumption
    · split at h
      · omega
      · split at h
        · omega
        · split at h <;> omega
  · intro h; subst h; rfl
theorem rk_1 {k : Nat} : rk k = 1 ↔ k ≠ 0 ∧ k ≠ 1 ∧ k ≠ 2 ∧ k ≠ 59 := by
  unfold rk
  constructor
  · intro h
    split at h
    · omega
    · split at h
      · omega
      · split at h
        · omega
        · split at h
          · omega
          · omega
  · intro h
    rw [if_neg h.1, if_neg h.2.1, if_neg h.2.2.1, if_neg h.2.2.2]
theorem rkI (k m : Nat) (hm : m ≤ 10) : nI (rk k) = nI m ↔ rk k = m := by
  have := rk_le k
  exact nI_eq (by omega) (by omega)
theorem sX10_numberW {t : Tk} {lo hi : Nat} {Q : Int32 → St → Prop} (h : TextM x T s) (hT : T.length ≤ 120) (hT2 : ∀ a ∈ T, a ≤ 255) (hw : s.1 x 8 = -1) (hc : CurM x t s) (hp : t.2.2.2 ≤ T.length) (hv : t.2.1 ≤ 999) (hlo : lo ≤ 100) (hhi : hi ≤ 100) (h1 : inR t lo hi = true → ∀ u, FrX x s u → CurM x (tok T t.2.2.2) u → Q (nI t.2.1) u) (h0 : inR t lo hi = false → ∀ u, u = stI s x 8 (nI t.2.2.1) → Q 0 u) : wX10_number x (nI lo) (nI hi) s Q := by
  obtain ⟨c4, c5, c6, c7, -⟩ := hc
  unfold wX10_number wX10_number_25 wX10_number_26
  rw [c5]
  refine ⟨fun z => ?_, fun z => ?_⟩
  · refine sX10_takes0 hw c6 (h0 ?_)
    rw [Bool.eq_false_iff]
    intro y
    exact z ((rkI t.1 2 (by omega)).mpr (rk_2.mpr (inR_iff.mp y).1))
  · have z' := rk_2.mp ((rkI t.1 2 (by omega)).mp z)
    rw [c7 z']
    refine sX10_inN (by omega) hlo hhi ?_
    have e : inR t lo hi = (decide (lo ≤ t.2.1) && decide (t.2.1 ≤ hi)) := by unfold inR; rw [decide_eq_true z', Bool.true_and]
    rw [← e]
    cases hz : inR t lo hi with
    | false => exact ⟨fun _ => sX10_takes0 hw c6 (h0 hz), fun y => absurd rfl y⟩
    | true =>
      refine ⟨fun y => absurd y (show ¬ (1 : Int32) = 0 by decide), fun _ => ?_⟩
      refine sX10_takesT h hT hT2 hw (by decide) hp c4 (fun u hf hcu => ?_)
      rw [c7 z']
      exact h1 hz u hf hcu
theorem sX10_numberF {f : Nat} {lo hi : Int32} {Q : Int32 → St → Prop} (hw : s.1 x 8 = nI f) (hf : f ≤ 200) (hQ : Q 0 s) : wX10_number x lo hi s Q := by
  unfold wX10_number wX10_number_25 wX10_number_26 wX10_in
  have tk : ∀ c, wX10_takes x c s (fun r_26 s_26 => Q r_26 s_26) := fun c => sX10_takesF hw hf hQ
  exact ⟨fun _ => tk 0, fun _ => ⟨fun _ => ⟨fun _ => tk 0, fun z => absurd rfl z⟩, fun _ => ⟨fun _ => ⟨fun _ => tk 0, fun z => absurd rfl z⟩, fun _ => ⟨fun z => absurd z (by decide), fun _ => tk 1⟩⟩⟩⟩
end RDM
