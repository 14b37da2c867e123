/-! the ends of a set of lanes, as the reference finds them -/
def eS (ls : List Lane) (b : Nat) : Nat → Option Nat × Option Nat × Bool
  | 0 => (none, none, true)
  | p + 1 => (if deg ls b p = 1 ∧ (eS ls b p).1 = none then some p else (eS ls b p).1, if deg ls b p = 1 ∧ (eS ls b p).1 ≠ none ∧ (eS ls b p).2.1 = none then some p else (eS ls b p).2.1, (eS ls b p).2.2 && decide (deg ls b p < 3) && !(decide (deg ls b p = 1) && (eS ls b p).2.1.isSome))
def endsV (ls : List Lane) (b : Nat) : Nat := match eS ls b 5 with
  | (some lo, some hi, true) => if (wk ls 6 b lo).1 = 0 then 5 * lo + hi + 1 else 0
  | _ => 0
section EDS
variable {ls : List Lane}
theorem eS_two {b f e : Nat} (hf : f < e) (h1 : ∀ p, deg ls b p = 1 ↔ p = f ∨ p = e) (h2 : ∀ p, deg ls b p ≤ 2) : ∀ p, eS ls b p = (if f < p then some f else none, if e < p then some e else none, true)
  | 0 => rfl
  | p + 1 => by
    have ih := eS_two hf h1 h2 p
    unfold eS
    rw [ih]
    have d1 := h1 p
    have d2 := h2 p
    dsimp only
    by_cases c1 : p = f
    · subst c1
      have : deg ls b p = 1 := d1.mpr (Or.inl rfl)
      rw [this, if_neg (Nat.lt_irrefl p), if_neg (show ¬ e < p by omega), if_neg (show ¬ e < p + 1 by omega), if_pos (Nat.lt_succ_self p)]
      simp
    · by_cases c2 : p = e
      · subst c2
        have : deg ls b p = 1 := d1.mpr (Or.inr rfl)
        rw [this]
        simp [hf, show f < p + 1 by omega]
      · have hn : ¬ deg ls b p = 1 := fun z => by have := d1.mp z; omega
        have hlt : deg ls b p < 3 := by omega
        have g1 : (f < p + 1) = (f < p) := by apply propext; omega
        have g2 : (e < p + 1) = (e < p) := by apply propext; omega
        simp [hn, hlt, g1, g2]
theorem eS_ok {b : Nat} : ∀ {p : Nat}, (eS ls b p).2.2 = true → (∀ q, q < p → deg ls b q ≤ 2) ∧ (∀ lo, (eS ls b p).1 = some lo → lo < p ∧ deg ls b lo = 1)
  | 0, h => ⟨fun q hq => by omega, fun lo hl => by cases hl⟩
  | p + 1, h => by
    unfold eS at h
    dsimp only at h
    rw [Bool.and_eq_true, Bool.and_eq_true] at h
    obtain ⟨⟨h1, h2⟩, -⟩ := h
    have h2' := of_decide_eq_true h2
    obtain ⟨i1, i2⟩ := eS_ok h1
    refine ⟨fun q hq => ?_, fun lo hl => ?_⟩
    · by_cases c : q = p
      · subst c; omega
      · exact i1 q (by omega)
    · unfold eS at hl
      dsimp only at hl
      split at hl
      · rename_i c
        cases hl
        exact ⟨by omega, c.1⟩
      · have := i2 lo hl
        exact ⟨by omega, this.2⟩
theorem degP_big {b p : Nat} (h : ∀ l, l < ls.length → (ls.getD l (0, 0, 0)).1 < p ∧ (ls.getD l (0, 0, 0)).2.1 < p) : ∀ k, k ≤ ls.length → degP ls b p k = 0
  | 0, _ => rfl
  | k + 1, hk => by
    unfold degP
    rw [degP_big h k (by omega)]
    have := h k (by omega)
    rw [if_neg]
    intro z
    rw [Bool.and_eq_true] at z
    have := incB_iff.mp z.2
    omega
/-- the ends of a row's lanes -/
theorem row_eS {n : Nat} {w : List Nat} (ho : okLs ls) (h : isRow n ls w) (hn : n ≤ 5) (h2 : 2 ≤ w.length) (hlt : w.getD 0 0 < lastOf w) : eS ls (bitsOf ls w) 5 = (some (w.getD 0 0), some (lastOf w), true) := by
  match w, h, h2, hlt with
  | p :: q :: r, h, h2, hlt =>
    have hd := row_deg ho r p q h
    have hlq : lastOf (p :: q :: r) = lastOf (q :: r) := rfl
    have hlm : lastOf (q :: r) ∈ q :: r := by
      rw [lastOf_eq]
      exact List.mem_of_getElem? (getD_get (show (q :: r).length - 1 < (q :: r).length by simp))
    have h5 := h.1 _ (List.mem_cons_of_mem p hlm)
    have h6 := h.1 p (by simp)
    rw [hlq] at hlt ⊢
    have hlt' : p < lastOf (q :: r) := hlt
    rw [eS_two (f := p) (e := lastOf (q :: r)) hlt' (fun x => ?_) (fun x => ?_) 5]
    · rw [if_pos (by omega), if_pos (by omega)]
      rfl
    · rw [hd x]
      constructor
      · intro z
        split at z
        · split at z
          · assumption
          · omega
        · omega
      · intro z
        rw [if_pos, if_pos z]
        rcases z with z | z
        · rw [z]; simp
        · rw [z]; exact List.mem_cons_of_mem _ hlm
    · rw [hd x]
      split
      · split <;> omega
      · omega
/-- two ways of the same lanes are the same -/
theorem way_uq {n : Nat} {v w : List Nat} (ho : okLs ls) (hn : n ≤ 5) (hv : isRow n ls v) (hv2 : 2 ≤ v.length) (hvl : v.getD 0 0 < lastOf v) (hw : isRow n ls w) (hw2 : 2 ≤ w.length) (hwl : w.getD 0 0 < lastOf w) (hb : bitsOf ls v = bitsOf ls w) : v = w := by
  have e1 := row_eS ho hv hn hv2 hvl
  have e2 := row_eS ho hw hn hw2 hwl
  rw [hb, e2] at e1
  have hp : w.getD 0 0 = v.getD 0 0 := by
    have := congrArg (fun z => z.1) e1
    exact Option.some.inj this
  match v, w, hv, hv2, hw, hw2, hb, hp with
  | a :: v, c :: w, hv, hv2, hw, hw2, hb, hp =>
    have hp' : c = a := hp
    subst hp'
    have h5 := hv.2.1
    have h6 := hw.2.1
    have k1 := wk_row ho v c 6 hv (by simp at h5; omega)
    have k2 := wk_row ho w c 6 hw (by simp at h6; omega)
    rw [hb, k2] at k1
    have := congrArg (fun z => z.2) k1
    rw [show w = v from this]
end EDS
/-! the order of the ways -/
def ahB : List Nat → List Nat → Bool
  | [], [] => false
  | [], _ :: _ => true
  | _ :: _, [] => false
  | a :: r, b :: q => if a = b then ahB r q else decide (a < b)
theorem ahB_irr : ∀ w, ahB w w = false
  | [] => rfl
  | a :: r => by unfold ahB; rw [if_pos rfl]; exact ahB_irr r
theorem ahB_pre : ∀ (t : List Nat) (a : Nat) (e : List Nat), ahB t (t ++ a :: e) = true
  | [], a, e => rfl
  | x :: t, a, e => by
    show (if x = x then ahB t (t ++ a :: e) else decide (x < x)) = true
    rw [if_pos rfl]
    exact ahB_pre t a e
theorem ahB_fork : ∀ (t : List Nat) (a b : Nat) (e f : List Nat), a < b → ahB (t ++ a :: e) (t ++ b :: f) = true
  | [], a, b, e, f, h => by
    show (if a = b then ahB e f else decide (a < b)) = true
    rw [if_neg (by omega)]
    exact decide_eq_true h
  | x :: t, a, b, e, f, h => by
    show (if x = x then ahB (t ++ a :: e) (t ++ b :: f) else decide (x < x)) = true
    rw [if_pos rfl]
    exact ahB_fork t a b e f h
theorem waysFrom_pre {n : Nat} {ls : List Lane} : ∀ (d : Nat) (t : List Nat), ∀ w ∈ waysFrom n ls d t, ∃ e, w = t ++ e
  | 0, t, w, h => by cases h
  | d + 1, t, w, h => by
    unfold waysFrom at h
    rcases List.mem_append.mp h with h | h
    · split at h
      · exact ⟨[], by rw [List.append_nil]; exact List.mem_singleton.mp h⟩
      · cases h
    · split at h
      · obtain ⟨p, -, h2⟩ := List.mem_flatMap.mp h
        split at h2
        · obtain ⟨e, he⟩ := waysFrom_pre d (t ++ [p]) w h2
          exact ⟨p :: e, by rw [he, List.append_assoc]; rfl⟩
        · cases h2
      · cases h
theorem waysFrom_ord {n : Nat} {ls : List Lane} : ∀ (d : Nat) (t : List Nat), (waysFrom n ls d t).Pairwise (fun v w => ahB v w = true)
  | 0, t => List.Pairwise.nil
  | d + 1, t => by
    unfold waysFrom
    rw [List.pairwise_append]
    refine ⟨?_, ?_, ?_⟩
    · split
      · exact List.pairwise_singleton _ _
      · exact List.Pairwise.nil
    · split
      · rw [List.pairwise_flatMap]
        refine ⟨fun p _ => ?_, List.Pairwise.imp (R := fun a b => a < b) ?_ List.pairwise_lt_range⟩
        · split
          · exact waysFrom_ord d (t ++ [p])
          · exact List.Pairwise.nil
        · intro a b hab x hx y hy
          split at hx
          · split at hy
            · obtain ⟨e, he⟩ := waysFrom_pre d _ x hx
              obtain ⟨f, hf⟩ := waysFrom_pre d _ y hy
              rw [he, hf, List.append_assoc, List.append_assoc]
              exact ahB_fork t a b e f hab
            · cases hy
          · cases hx
      · exact List.Pairwise.nil
    · intro v hv w hw
      split at hv
      · rw [List.mem_singleton.mp hv]
        split at hw
        · obtain ⟨p, -, h2⟩ := List.mem_flatMap.mp hw
          split at h2
          · obtain ⟨e, he⟩ := waysFrom_pre d _ w h2
            rw [he, List.append_assoc]
            exact ahB_pre t p e
          · cases h2
        · cases hw
      · cases hv
theorem ways_ord (la : Land) : (waysL la).Pairwise (fun v w => ahB v w = true) := by
  unfold waysL
  rw [List.pairwise_flatMap]
  refine ⟨fun p _ => waysFrom_ord 5 [p], List.Pairwise.imp (R := fun a b => a < b) ?_ List.pairwise_lt_range⟩
  intro a b hab x hx y hy
  obtain ⟨e, he⟩ := waysFrom_pre 5 _ x hx
  obtain ⟨f, hf⟩ := waysFrom_pre 5 _ y hy
  rw [he, hf]
  exact ahB_fork [] a b e f hab
theorem ways_ah {la : Land} {i j : Nat} (hij : i < j) (hj : j < (waysL la).length) : ahB ((waysL la).getD i []) ((waysL la).getD j []) = true := by
  have h := List.pairwise_iff_getElem.mp (ways_ord la) i j (by omega) hj hij
  rw [List.getD_eq_getElem?_getD, List.getD_eq_getElem?_getD, List.getElem?_eq_getElem (by omega), List.getElem?_eq_getElem hj]
  exact h
theorem ways_ix {la : Land} (h : okLand la) {i : Nat} (hi : i < (waysL la).length) : wayIx la (wB la i) = some i := by
  have hs := wIx_some (ls := la.2) (b := wB la i) (way_mem hi) rfl
  unfold wayIx
  cases hz : wIx la.2 (wB la i) (waysL la) with
  | none => rw [hz] at hs; cases hs
  | some j =>
    obtain ⟨hj, hb⟩ := wIx_lt hz
    have r1 := ways_row (way_mem hi)
    have r2 := ways_row (way_mem hj)
    have he := way_uq h.ls h.2.1 r2.1 r2.2.1 r2.2.2 r1.1 r1.2.1 r1.2.2 hb
    congr 1
    rcases Nat.lt_trichotomy i j with c | c | c
    · have := ways_ah c hj
      rw [he, ahB_irr] at this
      cases this
    · exact c.symm
    · have := ways_ah c hi
      rw [he, ahB_irr] at this
      cases this
/-- what the reference finds is what there is -/
theorem endsV_eq {la : Land} (h : okLand la) {b : Nat} (h0 : b ≠ 0) (hb : b < 64) : endsV la.2 b = endsN la b := by
  unfold endsN
  cases hz : wayIx la b with
  | some i =>
    obtain ⟨hi, hbi⟩ := wIx_lt hz
    obtain ⟨r1, r2, r3⟩ := ways_row (way_mem hi)
    have he := row_eS h.ls r1 h.2.1 r2 r3
    unfold endsV
    rw [hbi] at he
    rw [he]
    dsimp only
    have hw : (wk la.2 6 b (((waysL la).getD i []).getD 0 0)).1 = 0 := by
      have h5 := r1.2.1
      generalize hg : (waysL la).getD i [] = w at r1 r2 h5 hbi
      match w, r1, r2, h5, hbi with
      | p :: r, r1, r2, h5, hbi =>
        rw [← hbi]
        have := wk_row h.ls r p 6 r1 (by simp at h5; omega)
        rw [show (p :: r).getD 0 0 = p from rfl, this]
    rw [if_pos hw]
    unfold endK
    omega
  | none =>
    dsimp only
    unfold endsV
    split
    · rename_i lo hi he
      split
      · rename_i hw
        exfalso
        have hok := eS_ok (ls := la.2) (b := b) (p := 5) (by rw [he])
        have hlo := hok.2 lo (by rw [he])
        have hd2 : ∀ q, deg la.2 b q ≤ 2 := fun q => by
          by_cases c : q < 5
          · exact hok.1 q c
          · have := degP_big (ls := la.2) (b := b) (p := q) (fun l hl => by have := h.ls.1 l hl; omega) la.2.length (Nat.le_refl _)
            unfold deg
            omega
        have hlon : lo < la.1 := by
          rcases Nat.lt_or_ge lo la.1 with c | c
          · exact c
          · have := degP_big (ls := la.2) (b := b) (p := lo) (fun l hl => by have := lane_lt h hl; omega) la.2.length (Nat.le_refl _)
            have h1 := hlo.2
            unfold deg at h1
            omega
        obtain ⟨⟨i1, i2, i3⟩, i4⟩ := wk_is h.ls h.2.1 (fun l hl => lane_lt h hl) 6 b lo [] hb hlon hd2 (by omega) (fun q hq => by cases hq) (by simp) hw
        have hlen := nd_len la.1 _ i1 (fun q hq => (i2 q hq).1)
        have hr : isRow la.1 la.2 (lo :: (wk la.2 6 b lo).2) := ⟨fun q hq => (i2 q hq).1, by have := h.2.1; omega, i3, i1⟩
        have h2 : 2 ≤ (lo :: (wk la.2 6 b lo).2).length := by
          cases hc : (wk la.2 6 b lo).2 with
          | nil =>
            rw [hc, bits_one] at i4
            exact absurd i4.symm h0
          | cons x y => simp
        have := way_some hr h2
        rw [i4, hz] at this
        cases this
      · rfl
    · rfl
