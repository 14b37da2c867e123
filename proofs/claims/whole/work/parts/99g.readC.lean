/-! the class reads its text -/
def FrR (g : Nat) (s u : St) : Prop := Fr (fun k => k = 1 ∨ (g ≤ k ∧ k ≤ g + 4) ∨ (17 ≤ k ∧ k ≤ 20)) s u
section RDC
variable {s : St} {T : List Nat} {g : Nat} {D : Dt}
theorem CurC.cg {t : Tk} {u : St} (h : CurC t s) (h1 : u.1 1 = s.1 1) : CurC t u := by unfold CurC at *; rw [h1]; exact h
theorem TextC.cg {u : St} (h : TextC T s) (h1 : u.1 1 = s.1 1) (h2 : u.1 2 = s.1 2) : TextC T u := by unfold TextC at *; rw [h1, h2]; exact h
theorem sX7_stepTo {p lo hi : Nat} {Q : Int32 → St → Prop} (h : TextC T s) (hT : T.length ≤ 120) (hT2 : ∀ a ∈ T, a ≤ 255) (hp : p ≤ T.length) (e3 : s.1 1 3 = nI p) (hlo : lo ≤ 100) (hhi : hi ≤ 100) (hQ : ∀ u, Fr (fun k => k = 1) s u → TextC T u → CurC (tok T p) u → Q (if inR (tok T p) lo hi then 1 else 0) u) : wX7_stepTo 1 (nI lo) (nI hi) s Q := by
  unfold wX7_stepTo
  refine sX7_step h hT hT2 hp e3 (fun u hf ht hc => ?_)
  have q := hQ u hf ht hc
  obtain ⟨c2, c3, c4, c5⟩ := hc
  have f := tok_facts hp
  have no : inR (tok T p) lo hi = false → Q 0 u := fun z => by rw [z] at q; exact q
  rw [c4]
  refine ⟨fun z => no ?_, fun z => ?_⟩
  · rw [Bool.eq_false_iff]
    intro y
    exact z (by rw [(inR_iff.mp y).1]; rfl)
  · have z' : (tok T p).1 = 1 := nI_inj (b := 1) (by omega) (by omega) z
    rw [c5 z']
    refine ⟨fun y => no ?_, fun y => ⟨fun y2 => no ?_, fun y2 => ?_⟩⟩
    · have y' := (nI_ltI (by omega) (by omega)).mp y
      rw [Bool.eq_false_iff]; intro w; have := inR_iff.mp w; omega
    · have y' := (nI_ltI (by omega) (by omega)).mp y2
      rw [Bool.eq_false_iff]; intro w; have := inR_iff.mp w; omega
    · have y' : ¬ (tok T p).2.1 < lo := fun w => y ((nI_ltI (by omega) (by omega)).mpr w)
      have y2' : ¬ hi < (tok T p).2.1 := fun w => y2 ((nI_ltI (by omega) (by omega)).mpr w)
      rw [inR_iff.mpr ⟨z', by omega, by omega⟩] at q
      exact q
theorem sX7_stepToEnd {p : Nat} {Q : Int32 → St → Prop} (h : TextC T s) (hT : T.length ≤ 120) (hT2 : ∀ a ∈ T, a ≤ 255) (hp : p ≤ T.length) (e3 : s.1 1 3 = nI p) (hQ : ∀ u, Fr (fun k => k = 1) s u → TextC T u → CurC (tok T p) u → Q (if (tok T p).1 = 59 then 1 else 0) u) : wX7_stepToEnd 1 s Q := by
  unfold wX7_stepToEnd
  refine sX7_step h hT hT2 hp e3 (fun u hf ht hc => ?_)
  have q := hQ u hf ht hc
  obtain ⟨c2, c3, c4, c5⟩ := hc
  have f := tok_facts hp
  rw [c4]
  refine ⟨fun z => ?_, fun z => ?_⟩
  · rw [if_neg (fun y => z (by rw [y]; rfl))] at q; exact q
  · rw [if_pos (nI_inj (b := 59) (by omega) (by omega) z)] at q; exact q
theorem FrR.of1 {u : St} (h : Fr (fun k => k = 1) s u) : FrR g s u := h.wk (by intro k; omega)
theorem isB01 (c : Prop) [Decidable c] : isB (if c then 1 else 0) := by
  unfold isB
  split
  · exact Or.inr rfl
  · exact Or.inl rfl
theorem sX7_readPlaces {tk : Tk} {Q : Int32 → St → Prop} (hg : g = 3 ∨ g = 8) (h : TextC T s) (hT : T.length ≤ 120) (hT2 : ∀ a ∈ T, a ≤ 255) (hp : tk.2.2.2 ≤ T.length) (e3 : s.1 1 3 = nI tk.2.2.2) (hG : GroundC g (laD D) s) (hN : NowC 17 (nwD D) s) (hQ : ∀ u, FrR g s u → TextC T u → CurC (placesS T D tk).2 u → (∀ D2, (placesS T D tk).1 = some D2 → GroundC g (laD D2) u ∧ NowC 17 (nwD D2) u) → Q (if (placesS T D tk).1.isSome then 1 else 0) u) : wX7_readPlaces 1 g s Q := by
  have f1 := tok_facts hp
  unfold wX7_readPlaces
  refine sX7_stepTo (lo := 2) (hi := 5) h hT hT2 hp e3 (by omega) (by omega) (fun u hf ht hc => ?_)
  unfold placesS at hQ
  cases hz : inR (tok T tk.2.2.2) 2 5 with
  | false =>
    rw [hz] at hQ
    refine ⟨fun z => absurd rfl z, fun _ => ?_⟩
    exact hQ u (FrR.of1 hf) ht hc (fun D2 hD => by cases hD)
  | true =>
    rw [hz, if_pos rfl] at hQ
    refine ⟨fun _ => ?_, fun z => absurd z (show ¬ (1 : Int32) = 0 by decide)⟩
    intro v hv
    rw [hc.2.2.2 (inR_iff.mp hz).1] at hv
    have hfv : Fr (fun k => k = 1 ∨ k = g) s v := by rw [hv]; exact (hf.wk (by intro k; omega)).I (Or.inr rfl)
    have h1v : v.1 1 = u.1 1 := by rw [hv]; exact rI_ne (by omega)
    have h2v : v.1 2 = u.1 2 := by rw [hv]; exact rI_ne (by omega)
    refine sX7_stepToEnd (ht.cg h1v h2v) hT hT2 f1.2.2.1 (by rw [h1v]; exact hc.2.1) (fun w hfw htw hcw => ⟨isB01 _, ?_⟩)
    have hfsw : FrR g s w := (hfv.wk (by intro k; omega)).tr (hfw.wk (by intro k; omega))
    have hGv : GroundC g ((tok T tk.2.2.2).2.1, D.2.1) v := by
      have hGu := hG.fr hf (by intro k; omega)
      obtain ⟨g1, g2, g3, g4⟩ := hGu
      have ne : ∀ k, k ≠ g → v.1 k = u.1 k := fun k hk => by rw [hv]; exact rI_ne hk
      refine ⟨by rw [hv, rI_eq], by rw [hv, rI_nj (by omega)]; exact g2, fun l a b sp hl => ?_, fun a b ha hb => ?_⟩
      · rw [ne (g + 1) (by omega), ne (g + 2) (by omega), ne (g + 3) (by omega)]; exact g3 l a b sp hl
      · rw [ne (g + 4) (by omega)]; exact g4 a b ha hb
    have hNw : NowC 17 (nwD D) w := (hN.fr hfv (by intro k; omega)).fr hfw (by intro k; omega)
    by_cases c : (tok T (tok T tk.2.2.2).2.2.2).1 = 59
    · rw [if_pos c] at hQ ⊢
      exact hQ w hfsw htw hcw (fun D2 hD => by cases hD; exact ⟨hGv.fr hfw (by intro k; omega), hNw⟩)
    · rw [if_neg c] at hQ ⊢
      exact hQ w hfsw htw hcw (fun D2 hD => by cases hD)
theorem lnI_none {ls : List Lane} {a b : Nat} (hl : ls.length ≤ 6) : lnI ls a b = -9 ↔ (lnB ls a b).isNone = true := by
  unfold lnI
  cases hz : lnB ls a b with
  | none => exact ⟨fun _ => rfl, fun _ => rfl⟩
  | some l =>
    have := lnB_lt hz
    constructor
    · intro z
      exact (nI_m9 (n := l) (by omega) ▸ z : False).elim
    · intro z; cases z
theorem sX7_readLane {tk : Tk} {Q : Int32 → St → Prop} (hg : g = 3 ∨ g = 8) (h : TextC T s) (hT : T.length ≤ 120) (hT2 : ∀ a ∈ T, a ≤ 255) (hp : tk.2.2.2 ≤ T.length) (e3 : s.1 1 3 = nI tk.2.2.2) (hok : okD D) (h6 : D.2.1.length < 6) (hG : GroundC g (laD D) s) (hN : NowC 17 (nwD D) s) (hQ : ∀ u, FrR g s u → TextC T u → CurC (laneS T D tk).2 u → (∀ D2, (laneS T D tk).1 = some D2 → GroundC g (laD D2) u ∧ NowC 17 (nwD D2) u) → Q (if (laneS T D tk).1.isSome then 1 else 0) u) : wX7_readLane 1 g 17 s Q := by
  have l1 : 2 ≤ D.1 := hok.1.1
  have l2 : D.1 ≤ 5 := hok.1.2.1
  have hLl : D.2.2.1.length = D.2.1.length := hok.2.1
  have f1 := tok_facts hp
  have f2 := tok_facts (T := T) f1.2.2.1
  have f3 := tok_facts (T := T) f2.2.2.1
  have f4 := tok_facts (T := T) f3.2.2.1
  have hhi : ∀ u : St, u.1 g 0 = nI D.1 → u.1 g 0 - (1 : Int32) = nI (D.1 - 1) := fun u hu => by
    rw [hu, show (1 : Int32) = nI 1 from rfl, nI_sub (by omega)]
  unfold laneS lane2S at hQ
  generalize htok1 : tok T tk.2.2.2 = t1 at hQ f1 f2 f3 f4
  generalize htok2 : tok T t1.2.2.2 = t2 at hQ f2 f3 f4
  generalize htok3 : tok T t2.2.2.2 = t3 at hQ f3 f4
  generalize htok4 : tok T t3.2.2.2 = t4 at hQ f4
  unfold wX7_readLane
  rw [hhi s hG.1]
  refine sX7_stepTo (lo := 0) (hi := D.1 - 1) h hT hT2 hp e3 (by omega) (by omega) (fun u1 hf1 ht1 hc1 => ?_)
  rw [htok1] at hc1 ⊢
  have hG1 := hG.fr hf1 (by intro k; omega)
  cases z1 : inR t1 0 (D.1 - 1) with
  | false =>
    rw [z1] at hQ
    exact ⟨fun z => absurd rfl z, fun _ => hQ u1 (FrR.of1 hf1) ht1 hc1 (fun D2 hD => by cases hD)⟩
  | true =>
    rw [z1, if_pos rfl] at hQ
    have r1 := inR_iff.mp z1
    refine ⟨fun _ => ?_, fun z => absurd z (show ¬ (1 : Int32) = 0 by decide)⟩
    rw [hhi u1 hG1.1]
    refine sX7_stepTo (lo := 0) (hi := D.1 - 1) ht1 hT hT2 f1.2.2.1 hc1.2.1 (by omega) (by omega) (fun u2 hf2 ht2 hc2 => ?_)
    rw [htok2] at hc2 ⊢
    have hG2 := hG1.fr hf2 (by intro k; omega)
    have hf12 := hf1.tr hf2
    cases z2 : inR t2 0 (D.1 - 1) with
    | false =>
      rw [z2, Bool.false_and, Bool.false_and] at hQ
      exact ⟨fun _ => hQ u2 (FrR.of1 hf12) ht2 hc2 (fun D2 hD => by cases hD), fun z => absurd rfl z⟩
    | true =>
      rw [z2, Bool.true_and] at hQ
      have r2 := inR_iff.mp z2
      refine ⟨fun z => absurd z (show ¬ (1 : Int32) = 0 by decide), fun _ => ?_⟩
      rw [hc1.2.2.2 r1.1, hc2.2.2.2 r2.1]
      have bad : (decide (t2.2.1 ≠ t1.2.1) && (lnB D.2.1 t1.2.1 t2.2.1).isNone) = false → Q 0 u2 := fun zb => by
        rw [zb] at hQ
        exact hQ u2 (FrR.of1 hf12) ht2 hc2 (fun D2 hD => by cases hD)
      refine ⟨fun ce => bad ?_, fun ce => ?_⟩
      · have := nI_inj (by omega) (by omega) ce
        rw [decide_eq_false (by omega), Bool.false_and]
      have ce' : t2.2.1 ≠ t1.2.1 := fun y => ce (by rw [y])
      refine sX1_laneBetween hG2 l2 (show t1.2.1 < D.1 by omega) (show t2.2.1 < D.1 by omega) ?_
      have hln := lnI_none (ls := D.2.1) (a := t1.2.1) (b := t2.2.1) (by omega)
      refine ⟨fun cl => ?_, fun cl => bad ?_⟩
      rotate_left
      · have : (lnB D.2.1 t1.2.1 t2.2.1).isNone = false := by
          cases hy : (lnB D.2.1 t1.2.1 t2.2.1).isNone with
          | false => rfl
          | true => exact absurd (hln.mpr hy) cl
        rw [this, Bool.and_false]
      have hnone := hln.mp cl
      rw [decide_eq_true ce', hnone, Bool.true_and, if_pos rfl] at hQ
      refine sX7_stepTo (lo := 1) (hi := 5) ht2 hT hT2 f2.2.2.1 hc2.2.1 (by omega) (by omega) (fun u3 hf3 ht3 hc3 => ?_)
      rw [htok3] at hc3 ⊢
      have hG3 := hG2.fr hf3 (by intro k; omega)
      have hf13 := hf12.tr hf3
      cases z3 : inR t3 1 5 with
      | false =>
        rw [z3] at hQ
        exact ⟨fun z => absurd rfl z, fun _ => hQ u3 (FrR.of1 hf13) ht3 hc3 (fun D2 hD => by cases hD)⟩
      | true =>
        rw [z3, if_pos rfl] at hQ
        have r3 := inR_iff.mp z3
        refine ⟨fun _ => ?_, fun z => absurd z (show ¬ (1 : Int32) = 0 by decide)⟩
        have e1 : u3.1 g 1 = nI D.2.1.length := hG3.2.1
        rw [e1, hc3.2.2.2 r3.1, nI_clamp (by omega)]
        refine ⟨vp_in_nI (by omega) (by omega), fun v hv => ?_⟩
        have hv2 : v = stI u3 18 D.2.1.length (nI t3.2.1) := hv
        have h1v : v.1 1 = u3.1 1 := by rw [hv2]; exact rI_ne (by omega)
        have h2v : v.1 2 = u3.1 2 := by rw [hv2]; exact rI_ne (by omega)
        have hfv : Fr (fun k => k = 1 ∨ k = 18) s v := by rw [hv2]; exact (hf13.wk (by intro k; omega)).I (Or.inr rfl)
        have hGv : GroundC g (laD D) v := hG.fr hfv (by intro k; omega)
        have hNv : NowC 17 (D.2.2.1 ++ [t3.2.1], D.2.2.2, [], 0) v := by
          have hN3 := hN.fr hf13 (by intro k; omega)
          obtain ⟨n1, n2, n3, n4, n5⟩ := hN3
          have ne : ∀ k, k ≠ 18 → v.1 k = u3.1 k := fun k hk => by rw [hv2]; exact rI_ne hk
          refine ⟨?_, by rw [ne 17 (by omega)]; exact n2, fun m w hw => ?_, ?_, by rw [ne 17 (by omega)]; exact n5⟩
          · refine n1.app (fun k hk => ?_) ?_
            · rw [hv2, rI_nj (by have : k < D.2.2.1.length := hk; omega)]
            · show v.1 18 (0 + D.2.2.1.length) = _
              rw [Nat.zero_add, hLl, hv2, rI_eq]
          · obtain ⟨a1, a2⟩ := n3 m w hw
            exact ⟨by rw [ne (17 + 2) (by omega)]; exact a1, by rw [ne (17 + 3) (by omega)]; exact a2⟩
          · obtain ⟨a1, a2⟩ := n4
            exact ⟨by rw [ne (17 + 2) (by omega)]; exact a1, by rw [ne (17 + 3) (by omega)]; exact a2⟩
        refine sX7_stepTo (lo := 1) (hi := 9) (ht3.cg h1v h2v) hT hT2 f3.2.2.1 (by rw [h1v]; exact hc3.2.1) (by omega) (by omega) (fun u4 hf4 ht4 hc4 => ?_)
        rw [htok4] at hc4 ⊢
        have hfs4 : Fr (fun k => k = 1 ∨ k = 18) s u4 := hfv.tr (hf4.wk (by intro k; omega))
        have hG4 := hGv.fr hf4 (by intro k; omega)
        have hN4 := hNv.fr hf4 (by intro k; omega)
        cases z4 : inR t4 1 9 with
        | false =>
          rw [z4] at hQ
          exact ⟨fun z => absurd rfl z, fun _ => hQ u4 (hfs4.wk (by intro k; omega)) ht4 hc4 (fun D2 hD => by cases hD)⟩
        | true =>
          rw [z4, if_pos rfl] at hQ
          have r4 := inR_iff.mp z4
          refine ⟨fun _ => ?_, fun z => absurd z (show ¬ (1 : Int32) = 0 by decide)⟩
          rw [hc2.2.2.2 r2.1, hc4.2.2.2 r4.1]
          have hnn : lnB D.2.1 t1.2.1 t2.2.1 = none := by simpa using hnone
          refine sX1_addLane (n := D.1) (ls := D.2.1) hG4 l2 h6 (by omega) (by omega) (fun y => ce' y.symm) hnn (fun u5 hf5 hG5 => ?_)
          have h15 : u5.1 1 = u4.1 1 := hf5.1 1 (by omega)
          have h25 : u5.1 2 = u4.1 2 := hf5.1 2 (by omega)
          have hN5 := hN4.fr hf5 (by intro k; omega)
          refine sX7_stepToEnd (ht4.cg h15 h25) hT hT2 f4.2.2.1 (by rw [h15]; exact hc4.2.1) (fun u6 hf6 ht6 hc6 => ⟨isB01 _, ?_⟩)
          have hfs6 : FrR g s u6 := ((hfs4.wk (by intro k; omega)).tr (hf5.wk (by intro k; omega))).tr (hf6.wk (by intro k; omega))
          by_cases c : (tok T t4.2.2.2).1 = 59
          · rw [if_pos c] at hQ ⊢
            exact hQ u6 hfs6 ht6 hc6 (fun D2 hD => by cases hD; exact ⟨hG5.fr hf6 (by intro k; omega), hN5.fr hf6 (by intro k; omega)⟩)
          · rw [if_neg c] at hQ ⊢
            exact hQ u6 hfs6 ht6 hc6 (fun D2 hD => by cases hD)
end RDC
