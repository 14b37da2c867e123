/-! the class: land -/
section LDC
variable {s : St} {T : List Nat} {g : Nat} {D : Dt}
/-- a row of a map that is being read -/
def MapI (D : Dt) (w : List Nat) (u : St) : Prop := rowAt (u.1 18) 0 D.2.2.1 ∧ u.1 17 3 = nI D.2.2.2.length ∧ (∀ m v, D.2.2.2[m]? = some v → rowC 17 m v u) ∧ rowC 17 4 [] u ∧ u.1 17 4 = nI 0 ∧ rowC 17 D.2.2.2.length w u
theorem MapI.fr {w : List Nat} {u v : St} {M : Nat → Prop} (h : MapI D w u) (hf : Fr M u v) (hd : ∀ k, 17 ≤ k → k ≤ 20 → ¬ M k) : MapI D w v := by
  unfold MapI rowC at *
  rw [hf.1 17 (hd _ (by omega) (by omega)), hf.1 18 (hd _ (by omega) (by omega)), hf.1 (17 + 2) (hd _ (by omega) (by omega)), hf.1 (17 + 3) (hd _ (by omega) (by omega))]
  exact h
theorem MapI.done {w : List Nat} {u v : St} (h : MapI D w u) (hv : v = stI u 17 3 (u.1 17 3 + 1)) : NowC 17 (nwD (D.1, D.2.1, D.2.2.1, D.2.2.2 ++ [w])) v := by
  obtain ⟨h1, h2, h3, h4, h5, h6⟩ := h
  rw [h2, show nI D.2.2.2.length + (1 : Int32) = nI (D.2.2.2.length + 1) from (nI_succ _).symm] at hv
  have ne : ∀ k, k ≠ 17 → v.1 k = u.1 k := fun k hk => by rw [hv]; exact rI_ne hk
  have rc : ∀ m r, rowC 17 m r u → rowC 17 m r v := fun m r hr => ⟨by rw [ne (17 + 2) (by omega)]; exact hr.1, by rw [ne (17 + 3) (by omega)]; exact hr.2⟩
  refine ⟨by rw [ne (17 + 1) (by omega)]; exact h1, ?_, fun m r hr => ?_, rc _ _ h4, by rw [hv, rI_nj (by omega)]; exact h5⟩
  · rw [hv, rI_eq]
    show _ = nI (D.2.2.2 ++ [w]).length
    rw [List.length_append]
    rfl
  · have hr' : (D.2.2.2 ++ [w])[m]? = some r := hr
    have hml : m < D.2.2.2.length + 1 := by
      have z := (List.getElem?_eq_some_iff.mp hr').1
      rw [List.length_append] at z
      simpa using z
    by_cases c : m < D.2.2.2.length
    · rw [List.getElem?_append_left c] at hr'
      exact rc _ _ (h3 m r hr')
    · rw [List.getElem?_append_right (by omega)] at hr'
      cases hk : m - D.2.2.2.length with
      | zero =>
        rw [hk] at hr'
        cases hr'
        rw [show m = D.2.2.2.length by omega]
        exact rc _ _ h6
      | succ k => rw [hk] at hr'; simp at hr'
theorem sX7_readMap_lp {Q : Int32 → St → Prop} (hg : g = 3 ∨ g = 8) (hT : T.length ≤ 120) (hT2 : ∀ a ∈ T, a ≤ 255) (hok : okD D) (h4 : D.2.2.2.length < 4) : ∀ (d : Nat) (w : List Nat) (tk : Tk) (u : St), w.length + d = 5 → isRow D.1 D.2.1 w → tk.2.2.2 ≤ T.length → u.1 1 3 = nI tk.2.2.2 → TextC T u → GroundC g (laD D) u → MapI D w u → FrR g s u → (∀ v, FrR g s v → TextC T v → CurC (mapR T D d w tk).2 v → (∀ D2, (mapR T D d w tk).1 = some D2 → GroundC g (laD D2) v ∧ NowC 17 (nwD D2) v) → Q (if (mapR T D d w tk).1.isSome then 1 else 0) v) → wX7_readMap_15 1 g 17 (nI D.2.2.2.length) (fun s_k54 => ∀ s_61 : St, s_61 = stI s_k54 17 3 ((s_k54.1 17 3) + (1 : Int32)) → Q 1 s_61) (fun s_k101 => ∀ s_108 : St, s_108 = stI s_k101 17 3 ((s_k101.1 17 3) + (1 : Int32)) → wX7_stepToEnd 1 s_108 (fun r_112 s_112 => (isB r_112 ∧ Q r_112 s_112))) Q (d + 1) (nI w.length) u := by
  intro d
  have l1 : 2 ≤ D.1 := hok.1.1
  have l2 : D.1 ≤ 5 := hok.1.2.1
  have l6 : D.2.1.length ≤ 6 := hok.1.2.2.1
  induction d with
  | zero =>
    intro w tk u hw hrow hp e3 ht hG hM hf hQ
    have f1 := tok_facts hp
    have ew : w.length = 5 := by omega
    unfold wX7_readMap_15
    rw [ew]
    refine ⟨fun _ => ?_, fun z => absurd (Int32.le_refl _) z⟩
    intro v hv
    have h1v : v.1 1 = u.1 1 := by rw [hv]; exact rI_ne (by omega)
    have h2v : v.1 2 = u.1 2 := by rw [hv]; exact rI_ne (by omega)
    have hN := hM.done hv
    have hfv : FrR g s v := by rw [hv]; exact hf.I (by omega)
    have hGv : GroundC g (laD D) v := by
      have : Fr (fun k => k = 17) u v := by rw [hv]; exact Fr.rf.I rfl
      exact hG.fr this (by intro k; omega)
    refine sX7_stepToEnd (ht.cg h1v h2v) hT hT2 hp (by rw [h1v]; exact e3) (fun y hfy hty hcy => ⟨isB01 _, ?_⟩)
    unfold mapR at hQ
    have hfsy : FrR g s y := hfv.tr (hfy.wk (by intro k; omega))
    by_cases c : (tok T tk.2.2.2).1 = 59
    · rw [if_pos c] at hQ ⊢
      exact hQ y hfsy hty hcy (fun D2 hD => by cases hD; exact ⟨hGv.fr hfy (by intro k; omega), hN.fr hfy (by intro k; omega)⟩)
    · rw [if_neg c] at hQ ⊢
      exact hQ y hfsy hty hcy (fun D2 hD => by cases hD)
  | succ d ih =>
    intro w tk u hw hrow hp e3 ht hG hM hf hQ
    have f1 := tok_facts hp
    unfold mapR at hQ
    unfold wX7_readMap_15 wX7_readMap_66
    have hhi : u.1 g 0 - (1 : Int32) = nI (D.1 - 1) := by
      rw [show u.1 g 0 = nI D.1 from hG.1, show (1 : Int32) = nI 1 from rfl, nI_sub (by omega)]
    rw [hhi]
    refine ⟨fun z => absurd ((nI_leI (a := 5) (by omega) (by omega)).mp z) (by omega), fun _ => ?_⟩
    refine sX7_stepTo (lo := 0) (hi := D.1 - 1) ht hT hT2 hp e3 (by omega) (by omega) (fun v hfv htv hcv => ?_)
    have hGv := hG.fr hfv (by intro k; omega)
    have hMv := hM.fr hfv (by intro k; omega)
    have hfsv : FrR g s v := hf.tr (hfv.wk (by intro k; omega))
    generalize htok : tok T tk.2.2.2 = t at hQ f1 hcv
    cases z1 : inR t 0 (D.1 - 1) with
    | false =>
      rw [z1, if_neg (by decide)] at hQ
      refine ⟨fun z => absurd rfl z, fun _ => ?_⟩
      rw [hcv.2.2.1]
      have no : ¬ (t.1 = 59 ∧ 2 ≤ w.length) → Q 0 v := fun hn => by
        rw [if_neg hn] at hQ
        exact hQ v hfsv htv hcv (fun D2 hD => by cases hD)
      refine ⟨fun c => ⟨fun _ => no (fun y => c (by rw [y.1]; rfl)), fun y => absurd rfl y⟩, fun c => ⟨fun c2 => ⟨fun _ => no (fun y => ?_), fun y => absurd rfl y⟩, fun c2 => ?_⟩⟩
      · have := (nI_ltI (b := 2) (by omega) (by omega)).mp c2
        omega
      · intro y hy
        have c' : t.1 = 59 := nI_inj (b := 59) (by omega) (by omega) c
        have c2' : 2 ≤ w.length := by
          rcases Nat.lt_or_ge w.length 2 with q | q
          · exact absurd ((nI_ltI (b := 2) (by omega) (by omega)).mpr q) c2
          · exact q
        rw [if_pos ⟨c', c2'⟩] at hQ
        have hN := hMv.done hy
        have h1y : y.1 1 = v.1 1 := by rw [hy]; exact rI_ne (by omega)
        have h2y : y.1 2 = v.1 2 := by rw [hy]; exact rI_ne (by omega)
        have hfy : Fr (fun k => k = 17) v y := by rw [hy]; exact Fr.rf.I rfl
        exact hQ y (hfsv.tr (hfy.wk (by intro k; omega))) (htv.cg h1y h2y) (hcv.cg h1y) (fun D2 hD => by cases hD; exact ⟨hGv.fr hfy (by intro k; omega), hN⟩)
    | true =>
      rw [z1, if_pos rfl] at hQ
      have r1 := inR_iff.mp z1
      refine ⟨fun _ => ⟨fun z => absurd z (show ¬ (1 : Int32) = 0 by decide), fun _ => ?_⟩, fun z => absurd z (show ¬ (1 : Int32) = 0 by decide)⟩
      rw [hcv.2.2.2 r1.1]
      refine sX2_fits (la := laD D) (w := w) hGv l2 l6 hMv.2.2.2.2.2 (by omega) hrow.2.1 hrow.1 (show t.2.1 < D.1 by omega) ?_
      have eok : okNext (laD D).2 w t.2.1 = okNext D.2.1 w t.2.1 := rfl
      rw [eok]
      cases z2 : okNext D.2.1 w t.2.1 with
      | false =>
        rw [z2] at hQ
        exact ⟨fun z => absurd rfl z, fun _ => hQ v hfsv htv hcv (fun D2 hD => by cases hD)⟩
      | true =>
        rw [z2, if_pos rfl] at hQ
        obtain ⟨hrow2, hw5⟩ := isRow_next hrow (show t.2.1 < D.1 by omega) z2
        refine ⟨fun _ => ?_, fun z => absurd z (show ¬ (1 : Int32) = 0 by decide)⟩
        rw [hcv.2.2.2 r1.1]
        obtain ⟨m1, m2, m3, m4, m5, m6⟩ := hMv
        refine sX2_append m6 (by omega) hw5 (fun y hfy hry hoth => ?_)
        have ne : ∀ k, k ≠ 19 → k ≠ 20 → y.1 k = v.1 k := fun k a b => hfy.1 k (by omega)
        have h1y := ne 1 (by omega) (by omega)
        have h2y := ne 2 (by omega) (by omega)
        have := ih (w ++ [t.2.1]) t y (by simp; omega) hrow2 f1.2.2.1 (by rw [h1y]; exact hcv.2.1) (htv.cg h1y h2y) (hGv.fr hfy (by intro k; omega)) ⟨by rw [ne 18 (by omega) (by omega)]; exact m1, by rw [ne 17 (by omega) (by omega)]; exact m2, fun m r hr => hoth m r (by have := (List.getElem?_eq_some_iff.mp hr).1; omega) (hok.2.2.2.2.1 r (List.mem_of_getElem? hr)).1.2.1 (m3 m r hr), hoth 4 [] (by omega) (by simp) m4, by rw [ne 17 (by omega) (by omega)]; exact m5, hry⟩ (hfsv.tr (hfy.wk (by intro k; omega))) hQ
        rw [show nI w.length + (1 : Int32) = nI (w.length + 1) from (nI_succ _).symm]
        rw [show (w ++ [t.2.1]).length = w.length + 1 by simp] at this
        exact this
theorem sX7_readMap {tk : Tk} {Q : Int32 → St → Prop} (hg : g = 3 ∨ g = 8) (h : TextC T s) (hT : T.length ≤ 120) (hT2 : ∀ a ∈ T, a ≤ 255) (hp : tk.2.2.2 ≤ T.length) (e3 : s.1 1 3 = nI tk.2.2.2) (hok : okD D) (h4 : D.2.2.2.length < 4) (hG : GroundC g (laD D) s) (hN : NowC 17 (nwD D) s) (hQ : ∀ u, FrR g s u → TextC T u → CurC (mapR T D 5 [] tk).2 u → (∀ D2, (mapR T D 5 [] tk).1 = some D2 → GroundC g (laD D2) u ∧ NowC 17 (nwD D2) u) → Q (if (mapR T D 5 [] tk).1.isSome then 1 else 0) u) : wX7_readMap 1 g 17 s Q := by
  obtain ⟨n1, n2, n3, n4, n5⟩ := hN
  have e17 : s.1 17 3 = nI D.2.2.2.length := n2
  unfold wX7_readMap
  rw [e17, nI_clamp (by omega)]
  refine ⟨vp_in_nI (by omega) (by omega), fun u hu => ⟨6, ?_⟩⟩
  have hfu : Fr (fun k => k = 19) s u := by rw [hu]; exact Fr.rf.I rfl
  have ne : ∀ k, k ≠ 19 → u.1 k = s.1 k := fun k hk => hfu.1 k hk
  have hrc : ∀ m r, m ≠ D.2.2.2.length → rowC 17 m r s → rowC 17 m r u := fun m r hm hr => by
    refine ⟨?_, by rw [ne (17 + 3) (by omega)]; exact hr.2⟩
    rw [hu]
    show (stI s 19 D.2.2.2.length 0).1 19 m = _
    rw [rI_nj hm]
    exact hr.1
  refine sX7_readMap_lp hg hT hT2 hok h4 5 [] tk u rfl (isRow_nil _ _) hp (by rw [ne 1 (by omega)]; exact e3) (h.cg (ne 1 (by omega)) (ne 2 (by omega))) (hG.fr hfu (by intro k; omega)) ⟨by rw [ne 18 (by omega)]; exact n1, by rw [ne 17 (by omega)]; exact n2, fun m r hr => hrc m r (by have := (List.getElem?_eq_some_iff.mp hr).1; have : m < D.2.2.2.length := this; omega) (n3 m r hr), hrc 4 [] (by omega) n4, by rw [ne 17 (by omega)]; exact n5, ⟨?_, rowAt.nil⟩⟩ (hfu.wk (by intro k; omega)) hQ
  rw [hu]
  show (stI s 19 D.2.2.2.length 0).1 19 D.2.2.2.length = _
  rw [rI_eq]
  rfl
theorem sX7_readItem {tk : Tk} {i : Nat} {Q : Int32 → St → Prop} (hg : g = 3 ∨ g = 8) (h : TextC T s) (hT : T.length ≤ 120) (hT2 : ∀ a ∈ T, a ≤ 255) (hp : tk.2.2.2 ≤ T.length) (hk : tk.1 ≤ 110) (hc : CurC tk s) (hok : okD D) (hi : i ≤ 120) (hG : GroundC g (laD D) s) (hN : NowC 17 (nwD D) s) (hQ : ∀ u, FrR g s u → TextC T u → CurC (itemS T D tk i).2 u → (∀ D2, (itemS T D tk i).1 = some D2 → GroundC g (laD D2) u ∧ NowC 17 (nwD D2) u) → Q (if (itemS T D tk i).1.isSome then 1 else 0) u) : wX7_readItem 1 g 17 (nI i) s Q := by
  have l6 : D.2.1.length ≤ 6 := hok.1.2.2.1
  have m4 : D.2.2.2.length ≤ 4 := hok.2.2.2.1
  have e4 := hc.2.2.1
  have eg : s.1 g 1 = nI D.2.1.length := hG.2.1
  have em : s.1 17 3 = nI D.2.2.2.length := hN.2.1
  have two : ∀ (r : Option Dt) (u : St), Q (if r.isSome then 1 else 0) u → ((if r.isSome then (1 : Int32) else 0) = 0 → Q 0 u) ∧ (¬ (if r.isSome then (1 : Int32) else 0) = 0 → Q 1 u) := fun r u q => by
    cases r with
    | none => exact ⟨fun _ => q, fun z => absurd rfl z⟩
    | some D2 => exact ⟨fun z => absurd z (show ¬ (1 : Int32) = 0 by decide), fun _ => q⟩
  unfold itemS at hQ
  unfold wX7_readItem
  rw [e4, eg, em]
  refine ⟨fun c => ?_, fun c => ⟨fun c2 => ?_, fun c2 => ⟨fun c3 => ?_, fun c3 => ?_⟩⟩⟩
  · have c' : tk.1 = 108 := nI_inj (b := 108) (by omega) (by omega) c
    rw [if_pos c'] at hQ
    refine ⟨fun y => ?_, fun y => ?_⟩
    · have y' := (nI_leI (a := 6) (by omega) (by omega)).mp y
      rw [if_pos y'] at hQ
      exact hQ s Fr.rf h hc (fun D2 hD => by cases hD)
    · have y' : ¬ 6 ≤ D.2.1.length := fun z => y ((nI_leI (a := 6) (by omega) (by omega)).mpr z)
      rw [if_neg y'] at hQ
      exact sX7_readLane hg h hT hT2 hp hc.2.1 hok (by omega) hG hN (fun u a b c d => two _ u (hQ u a b c d))
  · have n1 : ¬ tk.1 = 108 := fun z => c (by rw [z]; rfl)
    have c' : tk.1 = 109 := nI_inj (b := 109) (by omega) (by omega) c2
    rw [if_neg n1, if_pos c'] at hQ
    refine ⟨fun y => ?_, fun y => ?_⟩
    · have y' := (nI_leI (a := 4) (by omega) (by omega)).mp y
      rw [if_pos y'] at hQ
      exact hQ s Fr.rf h hc (fun D2 hD => by cases hD)
    · have y' : ¬ 4 ≤ D.2.2.2.length := fun z => y ((nI_leI (a := 4) (by omega) (by omega)).mpr z)
      rw [if_neg y'] at hQ
      exact sX7_readMap hg h hT hT2 hp hc.2.1 hok (by omega) hG hN (fun u a b c d => two _ u (hQ u a b c d))
  · have n1 : ¬ tk.1 = 108 := fun z => c (by rw [z]; rfl)
    have n2 : ¬ tk.1 = 109 := fun z => c2 (by rw [z]; rfl)
    have c' : tk.1 = 110 := nI_inj (b := 110) (by omega) (by omega) c3
    rw [if_neg n1, if_neg n2, if_pos c'] at hQ
    refine ⟨fun y => ?_, fun y => ?_⟩
    · rw [if_neg (fun z => y (by rw [z]; rfl))] at hQ
      exact hQ s Fr.rf h hc (fun D2 hD => by cases hD)
    · rw [if_pos (nI_inj (b := 0) (by omega) (by omega) y)] at hQ
      exact sX7_readPlaces hg h hT hT2 hp hc.2.1 hG hN (fun u a b c d => two _ u (hQ u a b c d))
  · have n1 : ¬ tk.1 = 108 := fun z => c (by rw [z]; rfl)
    have n2 : ¬ tk.1 = 109 := fun z => c2 (by rw [z]; rfl)
    have n3 : ¬ tk.1 = 110 := fun z => c3 (by rw [z]; rfl)
    rw [if_neg n1, if_neg n2, if_neg n3] at hQ
    exact hQ s Fr.rf h hc (fun D2 hD => by cases hD)
theorem itemsS_cnt : ∀ (f : Nat) {D : Dt} {p i : Nat}, p ≤ T.length → i ≤ (tok T p).2.2.1 → (∀ q, itemsS T f D (tok T p) i = Sum.inr q → q.2 ≤ T.length) ∧ (∀ e, itemsS T f D (tok T p) i = Sum.inl e → e ≤ T.length)
  | 0, D, p, i, hp, hi => by
    have f1 := tok_facts hp
    refine ⟨fun q hq => (by cases hq), fun e he => ?_⟩
    cases he
    omega
  | f + 1, D, p, i, hp, hi => by
    have f1 := tok_facts hp
    unfold itemsS
    split
    · refine ⟨fun q hq => ?_, fun e he => (by cases he)⟩
      cases hq
      dsimp only
      omega
    · rename_i c
      have nx := itemS_nx (T := T) (D := D) (tk := tok T p) (i := i) f1.2.2.1 f1.2.1
      split
      · rename_i t ht
        rw [ht] at nx
        refine ⟨fun q hq => (by cases hq), fun e he => ?_⟩
        cases he
        exact nx.2.2
      · rename_i D2 t ht
        rw [ht] at nx
        dsimp only at nx
        have f2 := tok_facts (T := T) nx.2.1
        have := f1.2.2.2.2.2.1 c
        exact itemsS_cnt f nx.2.1 (by omega)
theorem sX7_read {Q : Int32 → St → Prop} (hg : g = 3 ∨ g = 8) (h : TextC T s) (hT : T.length ≤ 120) (hT2 : ∀ a ∈ T, a ≤ 255) (hG : GroundC g (laD D0) s) (hN : NowC 17 (nwD D0) s) (hL : ∀ u e, FrR g s u → TextC T u → readS T = Sum.inl e → Q (-10 - nI e) u) (hR : ∀ u q, FrR g s u → TextC T u → readS T = Sum.inr q → GroundC g (laD q.1) u → NowC 17 (nwD q.1) u → Q (nI q.2) u) : wX7_read 1 g 17 s Q := by
  unfold wX7_read
  intro t ht
  have h2t : t.1 2 = s.1 2 := by rw [ht]; exact rI_ne (by omega)
  have htt : TextC T t := by
    unfold TextC at *
    rw [h2t, ht, rI_nj (by omega)]
    exact h
  have hft : Fr (fun k => k = 1) s t := by rw [ht]; exact Fr.rf.I rfl
  refine sX7_step (p := 0) htt hT hT2 (by omega) (by rw [ht, rI_eq]; rfl) (fun u hfu htu hcu => ?_)
  have key : ∀ (f : Nat) (D : Dt) (p i : Nat) (v : St), p ≤ T.length → T.length + 1 ≤ f + (tok T p).2.2.1 → i ≤ (tok T p).2.2.1 → okD D → (i = 0 → D = D0) → readS T = itemsS T f D (tok T p) i → FrR g s v → TextC T v → CurC (tok T p) v → GroundC g (laD D) v → NowC 17 (nwD D) v → wX7_read_11 1 g 17 Q f (nI i) v := by
    intro f
    induction f with
    | zero =>
      intro D p i v hp hf hi
      have := tok_facts hp
      omega
    | succ f ih =>
      intro D p i v hp hf hi hok hi0 hrd hfv htv hcv hGv hNv
      have f1 := tok_facts hp
      unfold wX7_read_11
      unfold itemsS at hrd
      rw [hcv.2.2.1]
      by_cases c0 : (tok T p).1 = 0
      · rw [if_pos c0] at hrd
        refine ⟨fun _ => hR v (D, i) hfv htv hrd hGv hNv, fun _ => ⟨fun _ => hR v (D, i) hfv htv hrd hGv hNv, fun z => absurd (by rw [c0]; rfl) z⟩⟩
      · rw [if_neg c0] at hrd
        have hlt := tok_end hp c0
        refine ⟨fun z => absurd ((nI_leI (a := 120) (by omega) (by omega)).mp z) (by omega), fun _ => ⟨fun z => absurd (nI_inj (b := 0) (by omega) (by omega) z) c0, fun _ => ?_⟩⟩
        have nx := itemS_nx (T := T) (D := D) (tk := tok T p) (i := i) f1.2.2.1 f1.2.1
        refine sX7_readItem hg htv hT hT2 f1.2.2.1 f1.2.2.2.2.1 hcv hok (by omega) hGv hNv (fun y hfy hty hcy hD => ?_)
        have hok2 : ∀ D2, (itemS T D (tok T p) i).1 = some D2 → okD D2 := fun D2 hz => itemS_ok hok hi0 hz
        cases hit : itemS T D (tok T p) i with
        | mk r tt =>
          rw [hit] at hrd hcy hD nx hok2
          cases r with
          | none =>
            refine ⟨fun z => absurd rfl z, fun _ => ?_⟩
            rw [hcy.1]
            exact hL y _ (hfv.tr hfy) hty hrd
          | some D2 =>
            refine ⟨fun _ => ?_, fun z => absurd z (show ¬ (1 : Int32) = 0 by decide)⟩
            obtain ⟨d1, d2⟩ := hD D2 rfl
            refine sX7_step hty hT hT2 nx.2.1 hcy.2.1 (fun w hfw htw hcw => ?_)
            have f2 := tok_facts (T := T) nx.2.1
            have hs := f1.2.2.2.2.2.1 c0
            have nx1 := nx.1
            dsimp only at nx1 f2
            rw [show nI i + (1 : Int32) = nI (i + 1) from (nI_succ _).symm]
            exact ih D2 tt.2.2.2 (i + 1) w nx.2.1 (by omega) (by omega) (hok2 D2 rfl) (fun z => by omega) hrd ((hfv.tr hfy).tr (hfw.wk (by intro k; omega))) htw hcw (d1.fr hfw (by intro k; omega)) (d2.fr hfw (by intro k; omega))
  have hfsu : Fr (fun k => k = 1) s u := hft.tr hfu
  exact ⟨_, key (T.length + 1) D0 0 0 u (by omega) (by omega) (by omega) okD0 (fun _ => rfl) rfl (FrR.of1 hfsu) htu hcu (hG.fr hfsu (by intro k; omega)) (hN.fr hfsu (by intro k; omega))⟩
end LDC
section LD2
variable {S : Sp} {s : St}
theorem RC.rd {u : St} {o : Nat} (h : RC S s) (ho : o = s.2.2.2) (hf : FrR o s u) (hT : TextC S.1 u) : RC S u := by
  obtain ⟨a1, a2, a3, a4, a5, a6, a7, a8, a9, a10, a11⟩ := h
  have g := a2.g
  have hgo : (s.2.2.1 = 3 ∧ o = 8) ∨ (s.2.2.1 = 8 ∧ o = 3) := by
    rcases a2 with z | z <;> rw [z] at ho ⊢ <;> omega
  refine ⟨hT, a2.fr hf, ?_, a4.fr hf (by intro k; omega), a5.fr hf (by intro k; omega), a6.fr hf ⟨by omega, by intro k; omega⟩, a7.fr hf (by omega), a8.fr hf (by intro k; omega), a9.fr hf (by omega), a10.fr hf (by omega), by rw [hf.2]; exact a11⟩
  rw [hf.2]
  exact a3.fr hf (by intro k; omega)
theorem kX9_land {Q : Int32 → St → Prop} (h : RC S s) (hok : okSp S) (hQ : ∀ t, RC (cLand S).2 t → KM s t → Q (cLand S).1 t) : wX9_land s Q := by
  obtain ⟨o1, o2, -⟩ := id hok
  obtain ⟨a1, a2, a3, a4, a5, a6, a7, a8, a9, a10, a11⟩ := id h
  have hgo : (s.2.2.1 = 3 ∧ s.2.2.2 = 8) ∨ (s.2.2.1 = 8 ∧ s.2.2.2 = 3) := by
    rcases a2 with z | z <;> rw [z] <;> simp
  generalize hoe : s.2.2.2 = o at hgo
  have ho : o = 3 ∨ o = 8 := by omega
  have hIG : IsG o := ho
  unfold cLand at hQ
  unfold wX9_land
  rw [hoe]
  refine ⟨hIG, ?_⟩
  refine sX1_empty (fun t1 hf1 hG1 => ?_)
  refine sX2_empty (fun t2 hf2 _ hN2 => ?_)
  have hr2 : t2.2 = s.2 := hf2.2.trans hf1.2
  rw [show t2.2.2.2 = o from by rw [hr2]; exact hoe]
  refine ⟨hIG, ?_⟩
  have hfs2 : Fr (fun k => (o ≤ k ∧ k ≤ o + 4) ∨ (17 ≤ k ∧ k ≤ 20)) s t2 := (hf1.wk (by intro k; omega)).tr (hf2.wk (by intro k; omega))
  have ht2 : TextC S.1 t2 := a1.fr hfs2 (by omega)
  refine sX7_read ho ht2 o1 o2 (hG1.fr hf2 (by intro k; omega)) hN2 (fun u e hfu htu hrd => ?_) (fun u q hfu htu hrd hGu hNu => ?_)
  · rw [hrd] at hQ
    have he : e ≤ S.1.length := (itemsS_cnt (T := S.1) (S.1.length + 1) (D := D0) (p := 0) (i := 0) (by omega) (by omega)).2 e hrd
    have hfsu : FrR o s u := (hfs2.wk (by intro k; omega)).tr hfu
    refine ⟨fun z => absurd z ?_, fun _ => hQ u (h.rd hoe.symm hfsu htu) (KM.of hfsu (by intro k; omega))⟩
    rw [Int32.le_iff_toInt_le]
    have : ((-10 : Int32) - nI e).toInt = -10 - (e : Int) := by
      have e1 : (-10 : Int32) - nI e = zI (-10 - (e : Int)) := by
        rw [nI_z, show (-10 : Int32) = zI (-10) from rfl, zI_sub]
      rw [e1, zI_to (by omega) (by omega)]
    rw [this, show (0 : Int32).toInt = 0 from rfl]
    omega
  · rw [hrd] at hQ
    have hok2 := readS_ok hrd
    have hq2 : q.2 ≤ S.1.length := (itemsS_cnt (T := S.1) (S.1.length + 1) (D := D0) (p := 0) (i := 0) (by omega) (by omega)).1 q hrd
    refine ⟨fun _ => ?_, fun z => absurd (nI_pos' (by omega)) z⟩
    unfold wX7_empty
    intro v hv
    have hfsu : FrR o s u := (hfs2.wk (by intro k; omega)).tr hfu
    have hfv : FrR o s v := by rw [hv]; exact hfsu.I (by omega)
    have hfuv : Fr (fun k => k = 1) u v := by rw [hv]; exact Fr.rf.I rfl
    have ev1 : v.2.2.1 = s.2.2.1 := by rw [hfv.2]
    have ev2 : v.2.2.2 = o := by rw [hfv.2]; exact hoe
    have hG1 : IsG v.2.2.1 := by rw [ev1]; show s.2.2.1 = 3 ∨ s.2.2.1 = 8; omega
    refine ⟨hG1, by rw [ev2]; exact hIG, ?_⟩
    intro w1 hw1 w2 hw2
    have hw : w2 = (v.1, v.2.1, (o, s.2.2.1)) := by rw [hw2, hw1]; unfold stG stH; rw [ev1, ev2]
    have eg : w2.2.2.1 = o := by rw [hw]
    rw [eg]
    refine ⟨hIG, ?_⟩
    have hGw : GroundC o (laD q.1) w2 := by
      have := hGu.fr hfuv (by intro k; omega)
      unfold GroundC at *
      rw [hw]
      exact this
    refine sX8_find (by omega) hok2.1 hGw (ways_33 hok2.1) (fun y hfy hWy => ?_)
    have hNy : NowC 17 (nwD q.1) y := by
      have h1 := hNu.fr hfuv (by intro k; omega)
      have h2 : NowC 17 (nwD q.1) w2 := by
        unfold NowC rowC at *
        rw [hw]
        exact h1
      exact h2.fr hfy (by intro k; omega)
    have hW := hok2.2.W hok2.1
    refine sX2_become hNy hW.1 hW.2.1 hW.2.2.1 hW.2.2.2 (by omega) (fun y2 hfy2 hNy2 => ?_)
    unfold wX3_empty wX6_empty
    intro b1 hb1 b2 hb2 b3 hb3 b4 hb4 b5 hb5
    refine sX9_forgetAnswers (fun c hfc c86 c88 => ?_)
    have hfb : Fr (fun k => k = 29 ∨ k = 0 ∨ k = 89) y2 b5 := by
      rw [hb5, hb4, hb3, hb2, hb1]
      exact ((((Fr.rf.I (by omega)).I (by omega)).I (by omega)).I (by omega)).I (by omega)
    have hfwc : Fr (fun k => ((21 ≤ k ∧ k ≤ 25) ∨ k = 28) ∨ (13 ≤ k ∧ k ≤ 16) ∨ k = 29 ∨ k = 0 ∨ k = 89 ∨ k = 86 ∨ k = 88) w2 c := (((hfy.wk (by intro k; omega)).tr (hfy2.wk (by intro k; omega))).tr (hfb.wk (by intro k; omega))).tr (hfc.wk (by intro k; omega))
    have hfy2c : Fr (fun k => k = 29 ∨ k = 0 ∨ k = 89 ∨ k = 86 ∨ k = 88) y2 c := (hfb.wk (by intro k; omega)).tr (hfc.wk (by intro k; omega))
    have cell : ∀ k, ¬ (((21 ≤ k ∧ k ≤ 25) ∨ k = 28) ∨ (13 ≤ k ∧ k ≤ 16) ∨ k = 29 ∨ k = 0 ∨ k = 89 ∨ k = 86 ∨ k = 88) → c.1 k = v.1 k := fun k hk => by rw [hfwc.1 k hk, hw]
    have ec2 : c.2 = (v.2.1, (o, s.2.2.1)) := by rw [hfwc.2, hw]
    have eb : ∀ k, k ≠ 86 → k ≠ 88 → c.1 k = b5.1 k := fun k h1 h2 => hfc.1 k (by omega)
    obtain ⟨xx, x1, x2, x3, -⟩ := a5
    refine hQ c ⟨⟨?_, rowAt.nil⟩, ?_, ?_, ?_, ⟨xx, x1, ?_, ?_, fun j N hj => by simp at hj⟩, ⟨⟨0, by omega, ?_, by simp, by simp⟩, fun N hN => (by cases hN), fun N hN => (by cases hN)⟩, ⟨?_, ?_, ?_⟩, ?_, Or.inl c86, Or.inl c88, ?_⟩ ⟨fun k hk => ?_, ?_⟩
    · rw [cell 1 (by omega), hv, rI_eq]; rfl
    · show c.2.2 = (3, 8) ∨ c.2.2 = (8, 3)
      rw [ec2]
      rcases hgo with z | z
      · right; rw [z.1, z.2]
      · left; rw [z.1, z.2]
    · rw [show c.2.2.1 = o by rw [ec2]]
      exact hGw.fr hfwc (by intro k; omega)
    · exact hNy2.fr hfy2c (by intro k; omega)
    · rw [eb 29 (by omega) (by omega), hb5, rI_ne (by omega), hb4, rI_ne (by omega), hb3, rI_ne (by omega), hb2, rI_ne (by omega), hb1, rI_nj (by omega), hfy2.1 29 (by omega), hfy.1 29 (by omega), hw]
      show v.1 29 1 = _
      rw [hfv.1 29 (by omega)]
      exact x2
    · rw [eb 29 (by omega) (by omega), hb5, rI_ne (by omega), hb4, rI_ne (by omega), hb3, rI_ne (by omega), hb2, rI_ne (by omega), hb1, rI_eq]; rfl
    · rw [eb 0 (by omega) (by omega), hb5, rI_ne (by omega), hb4, rI_ne (by omega), hb3, rI_ne (by omega), hb2, rI_eq]; rfl
    · rw [eb 89 (by omega) (by omega), hb5, rI_nj (by omega), hb4, rI_nj (by omega), hb3, rI_eq]; rfl
    · rw [eb 89 (by omega) (by omega), hb5, rI_nj (by omega), hb4, rI_eq]; rfl
    · rw [eb 89 (by omega) (by omega), hb5, rI_eq]; rfl
    · have hf' : Fr (fun k => (13 ≤ k ∧ k ≤ 16) ∨ k = 29 ∨ k = 0 ∨ k = 89 ∨ k = 86 ∨ k = 88) y c := (hfy2.wk (by intro k; omega)).tr (hfy2c.wk (by intro k; omega))
      exact hWy.fr hf' (by intro k; omega)
    · rw [ec2]
      show v.2.1 0 = _
      rw [hfv.2]
      exact a11
    · rw [cell k (by omega), hfv.1 k (by omega)]
    · rw [ec2]
      show v.2.1 99 = _
      rw [hfv.2]
end LD2
