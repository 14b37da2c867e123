/-! the reference: maps of the text; its reading as a whole -/
def MapM (x : Nat) (D : Dt) (w : List Nat) (u : St) : Prop := rowAt (u.1 (x + 6)) 0 D.2.2.1 ∧ u.1 (x + 6) 6 = nI D.2.2.2.length ∧ (∀ m r, D.2.2.2[m]? = some r → u.1 (x + 6) (7 + m) = nI r.length ∧ rowAt (u.1 (x + 6)) (11 + 5 * m) r) ∧ u.1 (x + 6) 36 = nI 0 ∧ u.1 (x + 6) 37 = nI 0 ∧ rowAt (u.1 (x + 6)) (11 + 5 * D.2.2.2.length) w
/-- lanes and counts as told, and the map's row so far -/
def MpI (x : Nat) (D : Dt) (w : List Nat) (u : St) : Prop := (u.1 (x + 2) 2 = nI D.1 ∧ u.1 (x + 2) 3 = nI D.2.1.length ∧ (∀ l a b sp, D.2.1[l]? = some (a, b, sp) → u.1 (x + 3) (6 + l) = nI a ∧ u.1 (x + 4) (6 + l) = nI b ∧ u.1 (x + 5) (6 + l) = nI sp)) ∧ MapM x D w u
def mpK (x m : Nat) (Q : St → Prop) : Int32 → St → Prop := fun x2_136 s_k136 => vp_in ((7 : Int32) + nI m) 38 ∧ ∀ s_145 : St, s_145 = stI s_k136 (x + 6) ((7 : Int32) + nI m).toNatClampNeg x2_136 → vp_in (6 : Int32) 38 ∧ vp_in (6 : Int32) 38 ∧ ∀ s_156 : St, s_156 = stI s_145 (x + 6) (6 : Int32).toNatClampNeg ((s_145.1 (x + 6) (6 : Int32).toNatClampNeg) + (1 : Int32)) → Q s_156
section MPM
variable {x : Nat} {s : St} {T : List Nat} {D : Dt}
theorem MpI.frx {w : List Nat} {u v : St} (h : MpI x D w u) (hf : FrX x u v) : MpI x D w v := by
  unfold MpI MapM at *
  rw [hf.1.1 (x + 2) (by omega), hf.1.1 (x + 3) (by omega), hf.1.1 (x + 4) (by omega), hf.1.1 (x + 5) (by omega), hf.1.1 (x + 6) (by omega)]
  exact h
theorem mpK_F {m f : Nat} {n : Int32} {u : St} {Q : St → Prop} (hm : m < 4) (hw : u.1 x 8 = nI f) (hQ : ∀ v, FrD x u v → v.1 x 8 = nI f → Q v) : mpK x m Q n u := by
  unfold mpK
  rw [show (7 : Int32) = nI 7 from rfl, nI_add, nI_clamp (by omega)]
  refine ⟨vp_in_nI (by omega) (by omega), fun a ha => ⟨vp_in_nI (n := 6) (by omega) (by omega), vp_in_nI (n := 6) (by omega) (by omega), fun b hb => hQ b ?_ ?_⟩⟩
  · rw [hb, ha]; exact (FrD.rf.d).d
  · rw [hb, rI_ne (by omega), ha, rI_ne (by omega)]; exact hw
theorem mpK_W {w : List Nat} {u : St} {Q : St → Prop} (hok : okD D) (hm : D.2.2.2.length < 4) (hw5 : w.length ≤ 5) (h : MpI x D w u) (hQ : ∀ v, FrD x u v → v.1 x = u.1 x → RdM x (D.1, D.2.1, D.2.2.1, D.2.2.2 ++ [w]) v → Q v) : mpK x D.2.2.2.length Q (nI w.length) u := by
  have hLl : D.2.2.1.length = D.2.1.length := hok.2.1
  have l6 : D.2.1.length ≤ 6 := hok.1.2.2.1
  unfold mpK
  rw [show (7 : Int32) = nI 7 from rfl, nI_add, nI_clamp (by omega)]
  refine ⟨vp_in_nI (by omega) (by omega), fun a ha => ⟨vp_in_nI (n := 6) (by omega) (by omega), vp_in_nI (n := 6) (by omega) (by omega), fun b hb => hQ b ?_ ?_ ?_⟩⟩
  · rw [hb, ha]; exact (FrD.rf.d).d
  · rw [hb, rI_ne (by omega), ha, rI_ne (by omega)]
  · obtain ⟨⟨d1, d2, d3⟩, n1, n2, n3, n5, n6, n7⟩ := h
    have a6 : a.1 (x + 6) 6 = nI D.2.2.2.length := by rw [ha, rI_nj (by omega)]; exact n2
    have hb2 : b = stI a (x + 6) 6 (nI (D.2.2.2.length + 1)) := by
      rw [hb]
      show stI a (x + 6) 6 (a.1 (x + 6) 6 + 1) = _
      rw [a6, show nI D.2.2.2.length + (1 : Int32) = nI (D.2.2.2.length + 1) from (nI_succ _).symm]
    have ne : ∀ k, k ≠ x + 6 → b.1 k = u.1 k := fun k hk => by rw [hb2, rI_ne hk, ha, rI_ne hk]
    have e6 : ∀ j, j ≠ 6 → j ≠ 7 + D.2.2.2.length → b.1 (x + 6) j = u.1 (x + 6) j := fun j j1 j2 => by rw [hb2, rI_nj j1, ha, rI_nj j2]
    refine ⟨by rw [ne (x + 2) (by omega)]; exact d1, by rw [ne (x + 2) (by omega)]; exact d2, fun l p q sp hl => by rw [ne (x + 3) (by omega), ne (x + 4) (by omega), ne (x + 5) (by omega)]; exact d3 l p q sp hl, ?_, ?_, fun m r hr => ?_, rowAt.nil, by rw [e6 _ (by omega) (by omega)]; exact n5, by rw [e6 _ (by omega) (by omega)]; exact n6⟩
    · exact n1.cg (fun k hk => by have hk' : k < D.2.2.1.length := hk; rw [e6 _ (by omega) (by omega)])
    · show b.1 (x + 6) (0 + 6) = nI (D.2.2.2 ++ [w]).length
      rw [List.length_append, Nat.zero_add, hb2, rI_eq]
      rfl
    · have hr' : (D.2.2.2 ++ [w])[m]? = some r := hr
      have hml : m < D.2.2.2.length + 1 := by
        have z := (List.getElem?_eq_some_iff.mp hr').1
        rw [List.length_append] at z
        simpa using z
      rw [Nat.zero_add, Nat.zero_add]
      by_cases c : m < D.2.2.2.length
      · rw [List.getElem?_append_left c] at hr'
        obtain ⟨a1, a2⟩ := n3 m r hr'
        exact ⟨by rw [e6 _ (by omega) (by omega)]; exact a1, a2.cg (fun k hk => by rw [e6 _ (by omega) (by omega)])⟩
      · have em : m = D.2.2.2.length := by omega
        rw [em, List.getElem?_append_right (Nat.le_refl _), Nat.sub_self] at hr'
        have er : w = r := Option.some.inj hr'
        rw [em, ← er]
        exact ⟨by rw [hb2, rI_nj (by omega), ha, rI_eq], n7.cg (fun k hk => by rw [e6 _ (by omega) (by omega)])⟩
theorem sX10_readsMap_lp {Q : St → Prop} (h : TextM x T s) (hT : T.length ≤ 120) (hT2 : ∀ a ∈ T, a ≤ 255) (hok : okD D) (h4 : D.2.2.2.length < 4) : ∀ (d : Nat) (w : List Nat) (tk : Tk) (u : St), w.length + d = 5 → isRow D.1 D.2.1 w → tk.2.2.2 ≤ T.length → u.1 x 8 = -1 → CurM x (tok T tk.2.2.2) u → MpI x D w u → FrD x s u → ItP x T s (mapR T D d w tk) Q → wX10_readsMap_10 x (nI D.2.2.2.length) (mpK x D.2.2.2.length Q) Q (d + 2) (nI w.length) u := by
  intro d
  have l1 : 2 ≤ D.1 := hok.1.1
  have l2 : D.1 ≤ 5 := hok.1.2.1
  have l6 : D.2.1.length ≤ 6 := hok.1.2.2.1
  have hhi : nI D.1 - (1 : Int32) = nI (D.1 - 1) := by rw [show (1 : Int32) = nI 1 from rfl, nI_sub (by omega)]
  have hls : ∀ (l p q sp : Nat), D.2.1[l]? = some (p, q, sp) → p < 100 ∧ q < 100 := fun l p q sp hl => by
    have := hok.1.2.2.2.1 l p q sp hl
    have h5' : p < D.1 := this.1
    have h6' : q < D.1 := this.2.1
    exact ⟨by omega, by omega⟩
  have bad : ∀ (e : Nat) (t : Tk) (n : Int32) (u : St), CurM x t u → t.2.2.1 ≤ 200 → u.1 x 8 = -1 → (∀ v, FrD x u v → v.1 x 8 = nI t.2.2.1 → Q v) → wX10_readsMap_103 (wX10_readsMap_10 x (nI D.2.2.2.length) (mpK x D.2.2.2.length Q) Q (e + 1)) (mpK x D.2.2.2.length Q) Q x (nI D.2.2.2.length) n 0 x u := by
    intro e t n u hc ht hw hq
    unfold wX10_readsMap_103 wX10_readsMap_133
    refine sX10_takes0 hw hc.2.2.1 (fun v hv => ?_)
    have v8 : v.1 x 8 = nI t.2.2.1 := by rw [hv, rI_eq]
    have hfv : FrD x u v := by rw [hv]; exact FrD.rf.f
    unfold wX10_isWell
    rw [v8]
    refine ⟨fun _ => ⟨fun _ => ?_, fun z => absurd rfl z⟩, fun z => absurd (nI_pos' (by omega)) z⟩
    unfold wX10_readsMap_10 wX10_isWell
    rw [v8]
    exact ⟨fun _ => ⟨fun _ => mpK_F h4 v8 (fun y hy hy8 => hq y (hfv.tr hy) hy8), fun z => absurd rfl z⟩, fun z => absurd (nI_pos' (by omega)) z⟩
  induction d with
  | zero =>
    intro w tk u hw hrow hp h8 hc hM hf hQ
    have f1 := tok_facts hp
    obtain ⟨hQ0, hQ1⟩ := hQ
    unfold mapR at hQ0 hQ1
    generalize htok : tok T tk.2.2.2 = t at hQ0 hQ1 f1 hc
    unfold wX10_readsMap_10 wX10_isWell
    rw [h8]
    refine ⟨fun z => absurd z fa_neg, fun _ => ⟨fun z => absurd z (by decide), fun _ => ⟨fun z => absurd ((nI_ltI (b := 2) (by omega) (by omega)).mp z) (by omega), fun _ => ?_⟩⟩⟩
    rw [hc.2.1]
    refine ⟨fun z => ?_, fun z => ?_⟩
    · have z' := rk_3.mp ((rkI t.1 3 (by omega)).mp z)
      rw [if_pos z'] at hQ1
      refine mpK_W hok h4 hrow.2.1 hM (fun v hv hvx hRv => ?_)
      exact hQ1 v t _ (hf.tr hv) (by rw [hvx]; exact h8) (by unfold CurM at *; rw [hvx]; exact hc) (by omega) (by omega) (by omega) hRv (by rw [if_pos z'])
    · have z' : ¬ t.1 = 59 := fun y => z ((rkI t.1 3 (by omega)).mpr (rk_3.mpr y))
      rw [if_neg z'] at hQ0
      have b103 := bad 0 t (nI w.length) u hc (by omega) h8 (fun v hv hv8 => hQ0 v (hf.tr hv) rfl (show t.2.2.1 ≤ 200 by omega) hv8)
      unfold wX10_readsMap_30 wX10_readsMap_61 wX10_readsMap_62 wX10_readsMap_102
      rw [hc.2.1]
      refine ⟨fun _ => ⟨fun _ => b103, fun y => absurd rfl y⟩, fun z2 => ⟨vp_in_nI (n := 2) (by omega) (by omega), ?_⟩⟩
      have z2' := rk_2.mp ((rkI t.1 2 (by omega)).mp z2)
      rw [hc.2.2.2.1 z2', show u.1 (x + 2) ((2 : Int32).toNatClampNeg) = nI D.1 from hM.1.1, hhi]
      refine sX10_inN (lo := 0) (by omega) (by omega) (by omega) ?_
      refine ⟨fun _ => ⟨fun _ => b103, fun y => absurd rfl y⟩, fun _ => ⟨fun y => absurd y (by decide), fun _ => ⟨vp_in_nI (n := 3) (by omega) (by omega), ?_⟩⟩⟩
      rw [hc.2.2.2.1 z2', show u.1 (x + 2) ((3 : Int32).toNatClampNeg) = nI D.2.1.length from hM.1.2.1, show (11 : Int32) = nI 11 from rfl, show (5 : Int32) = nI 5 from rfl, pk_mul, nI_add]
      have hv99 := f1.2.2.2.2.2.2 z2'
      refine sX10_canBeNext (fr := 6) (ls := D.2.1) (w := w) (fun l a b sp hl => ⟨(hM.1.2.2 l a b sp hl).1, (hM.1.2.2 l a b sp hl).2.1⟩) (by omega) hls hM.2.2.2.2.2.2 rfl hrow.2.1 (by omega) (by omega) (fun q hq => by have := hrow.1 q hq; omega) (by omega) ?_
      have hno : okNext D.2.1 w t.2.1 = false := by
        rw [Bool.eq_false_iff]
        intro y
        cases w with
        | nil => simp at hw
        | cons a r =>
          unfold okNext at y
          rw [show (a :: r).isEmpty = false from rfl, Bool.false_or, Bool.and_eq_true, Bool.and_eq_true, decide_eq_true_iff] at y
          omega
      rw [hno]
      exact ⟨fun _ => b103, fun y => absurd rfl y⟩
  | succ d ih =>
    intro w tk u hw hrow hp h8 hc hM hf hQ
    have f1 := tok_facts hp
    obtain ⟨hQ0, hQ1⟩ := id hQ
    unfold mapR at hQ0 hQ1
    unfold mapR at hQ
    generalize htok : tok T tk.2.2.2 = t at hQ hQ0 hQ1 f1 hc
    have go : ¬ (t.1 = 59 ∧ 2 ≤ w.length) → wX10_readsMap_30 (wX10_readsMap_10 x (nI D.2.2.2.length) (mpK x D.2.2.2.length Q) Q (d + 2)) (mpK x D.2.2.2.length Q) Q x (nI D.2.2.2.length) (nI w.length) u := by
      intro hns
      rw [if_neg hns] at hQ0 hQ
      have b103 : (∀ v, FrD x u v → v.1 x 8 = nI t.2.2.1 → Q v) → wX10_readsMap_103 (wX10_readsMap_10 x (nI D.2.2.2.length) (mpK x D.2.2.2.length Q) Q (d + 2)) (mpK x D.2.2.2.length Q) Q x (nI D.2.2.2.length) (nI w.length) 0 x u := bad (d + 1) t (nI w.length) u hc (by omega) h8
      unfold wX10_readsMap_30 wX10_readsMap_61 wX10_readsMap_62 wX10_readsMap_102
      rw [hc.2.1]
      refine ⟨fun z => ⟨fun _ => b103 (fun v hv hv8 => ?_), fun y => absurd rfl y⟩, fun z2 => ⟨vp_in_nI (n := 2) (by omega) (by omega), ?_⟩⟩
      · have : inR t 0 (D.1 - 1) = false := by
          rw [Bool.eq_false_iff]
          intro y
          exact z ((rkI t.1 2 (by omega)).mpr (rk_2.mpr (inR_iff.mp y).1))
        rw [this] at hQ0
        exact hQ0 v (hf.tr hv) rfl (show t.2.2.1 ≤ 200 by omega) hv8
      have z2' := rk_2.mp ((rkI t.1 2 (by omega)).mp z2)
      rw [hc.2.2.2.1 z2', show u.1 (x + 2) ((2 : Int32).toNatClampNeg) = nI D.1 from hM.1.1, hhi]
      refine sX10_inN (lo := 0) (by omega) (by omega) (by omega) ?_
      have e : inR t 0 (D.1 - 1) = (decide (0 ≤ t.2.1) && decide (t.2.1 ≤ D.1 - 1)) := by unfold inR; rw [decide_eq_true z2', Bool.true_and]
      rw [← e]
      cases z1 : inR t 0 (D.1 - 1) with
      | false =>
        rw [z1] at hQ0
        exact ⟨fun _ => ⟨fun _ => b103 (fun v hv hv8 => hQ0 v (hf.tr hv) rfl (show t.2.2.1 ≤ 200 by omega) hv8), fun y => absurd rfl y⟩, fun y => absurd rfl y⟩
      | true =>
        rw [z1, if_pos rfl] at hQ0 hQ
        have r1 := inR_iff.mp z1
        refine ⟨fun y => absurd y (show ¬ (1 : Int32) = 0 by decide), fun _ => ⟨fun y => absurd y (by decide), fun _ => ⟨vp_in_nI (n := 3) (by omega) (by omega), ?_⟩⟩⟩
        rw [hc.2.2.2.1 z2', show u.1 (x + 2) ((3 : Int32).toNatClampNeg) = nI D.2.1.length from hM.1.2.1, show (11 : Int32) = nI 11 from rfl, show (5 : Int32) = nI 5 from rfl, pk_mul, nI_add]
        refine sX10_canBeNext (fr := 6) (ls := D.2.1) (w := w) (fun l a b sp hl => ⟨(hM.1.2.2 l a b sp hl).1, (hM.1.2.2 l a b sp hl).2.1⟩) (by omega) hls hM.2.2.2.2.2.2 rfl hrow.2.1 (by omega) (by omega) (fun q hq => by have := hrow.1 q hq; omega) (by omega) ?_
        cases z3 : okNext D.2.1 w t.2.1 with
        | false =>
          rw [z3] at hQ0
          exact ⟨fun _ => b103 (fun v hv hv8 => hQ0 v (hf.tr hv) rfl (show t.2.2.1 ≤ 200 by omega) hv8), fun y => absurd rfl y⟩
        | true =>
          rw [z3, if_pos rfl] at hQ
          obtain ⟨hrow2, hw5⟩ := isRow_next hrow (show t.2.1 < D.1 by omega) z3
          refine ⟨fun y => absurd y (show ¬ (1 : Int32) = 0 by decide), fun _ => ?_⟩
          unfold wX10_readsMap_103 wX10_readsMap_133
          refine sX10_takesT (h.frd hf) hT hT2 h8 (by decide) (by omega) hc.1 (fun v hfv hcv => ?_)
          have v8 : v.1 x 8 = -1 := by rw [hfv.2 8 (by omega)]; exact h8
          unfold wX10_isWell
          rw [v8, hc.2.2.2.1 z2', show (11 : Int32) = nI 11 from rfl, show (5 : Int32) = nI 5 from rfl, pk_mul, nI_add, nI_add, nI_clamp (show 11 + 5 * D.2.2.2.length + w.length < 2 ^ 31 by omega), show nI w.length + (1 : Int32) = nI (w.length + 1) from (nI_succ _).symm]
          refine ⟨fun y => absurd y fa_neg, fun _ => ⟨fun y => absurd y (by decide), fun _ => ⟨vp_in_nI (by omega) (by omega), fun y hy => ?_⟩⟩⟩
          have hMv := hM.frx hfv
          have yx : y.1 x = v.1 x := by rw [hy]; exact rI_ne (by omega)
          have ney : ∀ k, k ≠ x + 6 → y.1 k = v.1 k := fun k hk => by rw [hy]; exact rI_ne hk
          have e6 : ∀ j, j ≠ 11 + 5 * D.2.2.2.length + w.length → y.1 (x + 6) j = v.1 (x + 6) j := fun j hj => by rw [hy]; exact rI_nj hj
          obtain ⟨⟨d1, d2, d3⟩, n1, n2, n3, n5, n6, n7⟩ := hMv
          have hLl : D.2.2.1.length = D.2.1.length := hok.2.1
          have := ih (w ++ [t.2.1]) t y (by simp; omega) hrow2 (by omega) (by rw [yx]; exact v8) (by unfold CurM at *; rw [yx]; exact hcv) ⟨⟨by rw [ney (x + 2) (by omega)]; exact d1, by rw [ney (x + 2) (by omega)]; exact d2, fun l p q sp hl => by rw [ney (x + 3) (by omega), ney (x + 4) (by omega), ney (x + 5) (by omega)]; exact d3 l p q sp hl⟩, n1.cg (fun k hk => by rw [e6 _ (by omega)]), by rw [e6 _ (by omega)]; exact n2, fun m r hr => by
            obtain ⟨a1, a2⟩ := n3 m r hr
            have hml := (List.getElem?_eq_some_iff.mp hr).1
            have hrl := (hok.2.2.2.2.1 r (List.mem_of_getElem? hr)).1.2.1
            exact ⟨by rw [e6 _ (by omega)]; exact a1, a2.cg (fun k hk => by rw [e6 _ (by omega)])⟩, by rw [e6 _ (by omega)]; exact n5, by rw [e6 _ (by omega)]; exact n6, n7.app (fun k hk => by rw [e6 _ (by omega)]) (by rw [hy, rI_eq])⟩ (by rw [hy]; exact (hf.tr (FrD.X hfv)).d) hQ
          rw [show (w ++ [t.2.1]).length = w.length + 1 by simp] at this
          exact this
    show wX10_readsMap_10 x (nI D.2.2.2.length) (mpK x D.2.2.2.length Q) Q (d + 2 + 1) (nI w.length) u
    unfold wX10_readsMap_10 wX10_isWell
    rw [h8]
    refine ⟨fun z => absurd z fa_neg, fun _ => ⟨fun z => absurd z (by decide), fun _ => ⟨fun z => go (fun y => ?_), fun z => ?_⟩⟩⟩
    · have := (nI_ltI (b := 2) (by omega) (by omega)).mp z
      omega
    · rw [hc.2.1]
      refine ⟨fun z2 => ?_, fun z2 => go (fun y => z2 ((rkI t.1 3 (by omega)).mpr (rk_3.mpr y.1)))⟩
      have z2' := rk_3.mp ((rkI t.1 3 (by omega)).mp z2)
      have zl : 2 ≤ w.length := by
        rcases Nat.lt_or_ge w.length 2 with q | q
        · exact absurd ((nI_ltI (b := 2) (by omega) (by omega)).mpr q) z
        · exact q
      have hin : inR t 0 (D.1 - 1) = false := by
        rw [Bool.eq_false_iff]
        intro y
        have := (inR_iff.mp y).1
        omega
      rw [hin, if_neg (by decide), if_pos ⟨z2', zl⟩] at hQ1
      refine mpK_W hok h4 hrow.2.1 hM (fun v hv hvx hRv => ?_)
      exact hQ1 v t _ (hf.tr hv) (by rw [hvx]; exact h8) (by unfold CurM at *; rw [hvx]; exact hc) (by omega) (by omega) (by omega) hRv (by rw [if_pos z2'])
theorem sX10_readsMap {tk : Tk} {Q : St → Prop} (h : TextM x T s) (hT : T.length ≤ 120) (hT2 : ∀ a ∈ T, a ≤ 255) (hp : tk.2.2.2 ≤ T.length) (hw : s.1 x 8 = -1) (hc : CurM x (tok T tk.2.2.2) s) (hok : okD D) (h4 : D.2.2.2.length < 4) (hR : RdM x D s) (hQ : ItP x T s (mapR T D 5 [] tk) Q) : wX10_readsMap x s Q := by
  obtain ⟨d1, d2, d3, n1, n2, n3, n4, n5, n6⟩ := hR
  simp only [Nat.zero_add] at n2 n3 n5 n6
  unfold wX10_readsMap
  have e6 : s.1 (x + 6) ((6 : Int32).toNatClampNeg) = nI D.2.2.2.length := n2
  rw [e6]
  refine ⟨vp_in_nI (n := 6) (by omega) (by omega), 7, ?_⟩
  exact sX10_readsMap_lp h hT hT2 hok h4 5 [] tk s rfl (isRow_nil _ _) hp hw hc ⟨⟨d1, d2, d3⟩, n1, n2, n3, n5, n6, rowAt.nil⟩ FrD.rf hQ
end MPM
