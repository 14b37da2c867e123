/-! the class's asking, asks -/
theorem selP_all (ls : List Lane) (maps : List (List Nat)) : ∀ m, m ≤ maps.length → selP ls (2 ^ maps.length - 1) maps m = (maps.take m).map (bitsOf ls)
  | 0, _ => by simp [selP]
  | m + 1, h => by
    rw [selP_succ, selP_all ls maps m (by omega), Nat.testBit_two_pow_sub_one, decide_eq_true (show m < maps.length by omega), if_pos rfl]
    rw [List.take_succ, List.map_append, map_get (by omega)]
    rfl
theorem selB_all (S : Sp) : selB S (2 ^ S.2.2.1.2.1.length - 1) = mapB S.2.1 S.2.2.1 := by
  unfold selB mapB
  rw [selP_all _ _ _ (Nat.le_refl _), List.take_length]
theorem okL_comm (la : Land) (a b : List Nat) : okL la (a ++ b) = okL la (b ++ a) := by
  funext M
  unfold okL
  rw [List.all_append, List.all_append, Bool.and_comm]
section ASK
variable {S : Sp} {s : St}
theorem dB_len (la : Land) (N : Nw) : (dB la N).length ≤ 1 := by
  unfold dB; split <;> simp
theorem sel_len (hok : okSp S) (some : Nat) : (selB S some ++ dB S.2.1 S.2.2.1).length ≤ 5 := by
  have h1 := selP_len S.2.1.2 some S.2.2.1.2.1 S.2.2.1.2.1.length
  have h2 := dB_len S.2.1 S.2.2.1
  have h3 := hok.2.2.2.1.2.2.1
  rw [List.length_append]
  unfold selB
  omega
theorem selP_row {S : Sp} (hok : okSp S) (hw : okWays S.2.1) (some : Nat) : ∀ m, m ≤ S.2.2.1.2.1.length → allW S.2.1 (selP S.2.1.2 some S.2.2.1.2.1 m)
  | 0, _ => fun b hb => by cases hb
  | m + 1, h => by
    intro b hb
    rw [selP_succ] at hb
    rcases List.mem_append.mp hb with hb | hb
    · exact selP_row hok hw some m (by omega) b hb
    · split at hb
      · rw [List.mem_singleton.mp hb]
        have := hok.2.2.2.1.2.2.2.1 _ (List.mem_of_getElem? (map_get (show m < S.2.2.1.2.1.length by omega)))
        exact hw.2.2.1 _ this.1 this.2
      · cases hb
theorem dB_row (hok : okSp S) (hw : okWays S.2.1) : allW S.2.1 (dB S.2.1 S.2.2.1) := by
  intro b hb
  unfold dB at hb
  split at hb
  · cases hb
  · rename_i h2
    rw [List.mem_singleton.mp hb]
    exact hw.2.2.1 _ hok.2.2.2.1.2.2.2.2.1 (by omega)
theorem allW.app {la : Land} {a b : List Nat} (h : allW la a) (h2 : allW la b) : allW la (a ++ b) := fun x hx => by
  rcases List.mem_append.mp hx with hx | hx
  · exact h x hx
  · exact h2 x hx
theorem sel_row (hok : okSp S) (hw : okWays S.2.1) (some : Nat) : allW S.2.1 (selB S some ++ dB S.2.1 S.2.2.1) := (selP_row hok hw some _ (Nat.le_refl _)).app (dB_row hok hw)
theorem sX9_allMaps {Q : Int32 → St → Prop} (h : RC S s) (hok : okSp S) (hQ : Q (nI (2 ^ S.2.2.1.2.1.length - 1)) s) : wX9_allMaps s Q := by
  have h3 := hok.2.2.2.1.2.2.1
  unfold wX9_allMaps
  rw [h.2.2.2.1.2.1]
  have p := Nat.two_pow_pos S.2.2.1.2.1.length
  simp (disch := omega) only [p, lit_nI, nI_ltI, nI_leI, nI_eq, nI_clamp, vp_in_nI, forall_eq, true_and, and_true, false_and, and_false, true_implies, false_implies, implies_true, not_true, not_false_eq_true, nI_add, pk_mul, nI_sub, shl1, shr1, fa_or, fa_and, nI_m9, nI_m9s]
  exact hQ
theorem minC_ask : minC S (mapB S.2.1 S.2.2.1 ++ dB S.2.1 S.2.2.1) = (ask S.2.1 S.2.2.1).map (·.1) := by
  unfold minC ask
  rw [okL_comm]
theorem costO_map (o : Option (Nat × List Nat)) : costO o = oI (o.map (·.1)) := by cases o <;> rfl
theorem SrI.fr {ls : List Lane} {L0 pre : List Nat} {B : List (Nat × Nat)} {t : St} {M : Nat → Prop} (h : SrI ls L0 B pre s) (hf : Fr M s t) (hd : ∀ k, 72 ≤ k → k ≤ 85 → ¬ M k) (hp : pre.length ≤ 6) : SrI ls L0 B pre t := by
  obtain ⟨h1, h2, h3, h4, h5, h6⟩ := h
  have tk : ∀ k, 72 ≤ k → k ≤ 85 → t.1 k = s.1 k := fun k a b => hf.1 k (hd k a b)
  refine ⟨by rw [tk 72 (by omega) (by omega)]; exact h1, by rw [tk 72 (by omega) (by omega)]; exact h2, fun i b hb => ?_, by rw [tk 83 (by omega) (by omega)]; exact h4, by rw [tk 84 (by omega) (by omega)]; exact h5, by rw [tk 85 (by omega) (by omega)]; exact h6⟩
  obtain ⟨a1, a2, a3⟩ := h3 i b hb
  refine ⟨by rw [tk 73 (by omega) (by omega)]; exact a1, by rw [tk 74 (by omega) (by omega)]; exact a2, fun j hj => by rw [tk _ (by omega) (by omega)]; exact a3 j hj⟩
theorem RC.asked {u : St} (h : RC S s) (hf : Fr (fun k => (72 ≤ k ∧ k ≤ 85) ∨ k = 86 ∨ k = 87) s u) (hA : AskedC S.2.1 S.2.2.1 u) : RC S u := by
  obtain ⟨a1, a2, a3, a4, a5, a6, a7, a8, a9, a10, a11⟩ := h
  have g := a2.g
  refine ⟨a1.fr hf (by omega), a2.fr hf, ?_, a4.fr hf (by intro k; omega), a5.fr hf (by intro k; omega), a6.fr hf ⟨by omega, by intro k; omega⟩, a7.fr hf (by omega), a8.fr hf (by intro k; omega), hA, a10.fr hf (by omega), by rw [hf.2]; exact a11⟩
  rw [hf.2]
  exact a3.fr hf (by intro k; omega)
theorem sX9_askedCost {Q : Int32 → St → Prop} (h : RC S s) (hok : okSp S) (hw : okWays S.2.1) (hQ : ∀ u, RC S u → KM s u → u.1 86 0 = 1 → Q (costO (ask S.2.1 S.2.2.1)) u) : wX9_askedCost s Q := by
  obtain ⟨-, -, o3, o4, -⟩ := id hok
  have l6 := o3.2.2.1
  have h9 := h.2.2.2.2.2.2.2.2.1
  unfold wX9_askedCost
  refine ⟨fun c => ?_, fun c => ?_⟩
  · rcases h9 with h9 | ⟨h1, h2, h3⟩
    · exact absurd h9 c
    · rw [h2]; exact hQ s h (KM.rf s) h1
  refine sX9_allMaps h hok ?_
  have p4 : 2 ^ S.2.2.1.2.1.length ≤ 2 ^ 4 := Nat.pow_le_pow_right (by omega) o4.2.2.1
  refine sX9_waysOf h hok hw.1 (by omega) ?_
  refine sX9_costOf h hok hw (sel_len hok _) (sel_row hok hw _) (fun u hR hf hI => ?_)
  rw [selB_all, minC_ask, ← costO_map]
  rw [selB_all] at hI
  intro t ht
  have t1 : t.1 86 1 = costO (ask S.2.1 S.2.2.1) := by rw [ht, rI_eq]
  have hft : Fr (fun k => k = 86) u t := by rw [ht]; exact Fr.rf.I rfl
  have hIt := hI.fr hft (by intro k; omega) (by simp)
  rw [t1]
  have fin : ∀ v, Fr (fun k => (72 ≤ k ∧ k ≤ 85) ∨ k = 86 ∨ k = 87) s v → v.1 86 1 = costO (ask S.2.1 S.2.2.1) → (∀ q, ask S.2.1 S.2.2.1 = some q → rowAt (v.1 87) 0 q.2) → wX9_askedCost_79 Q v := by
    intro v hfv h1 hrow
    unfold wX9_askedCost_79
    intro w hw'
    have e1 : w.1 86 1 = costO (ask S.2.1 S.2.2.1) := by rw [hw', rI_nj (by omega)]; exact h1
    have e0 : w.1 86 0 = 1 := by rw [hw', rI_eq]
    have hfw : Fr (fun k => (72 ≤ k ∧ k ≤ 85) ∨ k = 86 ∨ k = 87) s w := by rw [hw']; exact hfv.I (by omega)
    rw [e1]
    refine hQ w (h.asked hfw (Or.inr ⟨e0, e1, fun q hq => ?_⟩)) (KM.of hfw (by intro k; omega)) e0
    rw [hw', rI_ne (by omega)]
    exact hrow q hq
  have hfst : Fr (fun k => (72 ≤ k ∧ k ≤ 85) ∨ k = 86 ∨ k = 87) s t := (hf.wk (by intro k; omega)).tr (hft.wk (by intro k; omega))
  cases hz : ask S.2.1 S.2.2.1 with
  | none =>
    rw [hz] at t1 fin
    refine ⟨fun _ => fin t hfst t1 (fun q hq => by cases hq), fun z => absurd rfl z⟩
  | some q =>
    rw [hz] at t1 fin
    have hq1 : q.1 ≤ 216 := by
      refine minC_le (bs := mapB S.2.1 S.2.2.1 ++ dB S.2.1 S.2.2.1) hok ?_
      rw [minC_ask, hz]; rfl
    have hbf := best_first (la := S.2.1) (L0 := S.2.2.1.1) (ok := okL S.2.1 (dB S.2.1 S.2.2.1 ++ mapB S.2.1 S.2.2.1)) (q := q) hz
    have h5 : (mapB S.2.1 S.2.2.1 ++ dB S.2.1 S.2.2.1).length ≤ 5 := by rw [← selB_all]; exact sel_len hok _
    have hrw : allW S.2.1 (mapB S.2.1 S.2.2.1 ++ dB S.2.1 S.2.2.1) := by rw [← selB_all]; exact sel_row hok hw _
    have hfe : fE S.2.1.2 S.2.2.1.1 (bds S.2.1 (heldL S.2.1 (mapB S.2.1 S.2.2.1 ++ dB S.2.1 S.2.2.1)) (waysL S.2.1).length) S.2.1.2.length [] q.1 = some q.2 := by
      rw [fE_okL hok hw h5 hrw, okL_comm]; exact hbf
    have hlen : q.2.length = S.2.1.2.length := (allL_in.mp (List.mem_of_find?_eq_some hbf)).1
    refine ⟨fun z => (nI_m9 (n := q.1) (by omega) ▸ z : False).elim, fun _ => ?_⟩
    refine sX4_findFirst (left := q.1) (okS hok hw h5) hIt (by omega) (fun v hfv hrow => ?_)
    rw [hfe] at hrow ⊢
    refine ⟨fun z => absurd z (show ¬ (1 : Int32) = 0 by decide), fun _ => ⟨cpOk_nI (sp := 0) (dp := 0) (n := 6) (by omega) (by omega) (by omega) (by omega), ?_⟩⟩
    intro w hw'
    have hw2 : w = stC v 85 87 0 0 6 := hw'
    have hfw : Fr (fun k => (72 ≤ k ∧ k ≤ 85) ∨ k = 86 ∨ k = 87) s w := by rw [hw2]; exact (hfst.tr (hfv.wk (by intro k; omega))).C (by omega)
    refine fin w hfw ?_ (fun q2 hq2 => ?_)
    · rw [hw2, rC_ne (by omega), hfv.1 86 (by omega)]; exact t1
    · cases hq2
      intro k p hp
      have hk := (List.getElem?_eq_some_iff.mp hp).1
      rw [hw2, rC_eq, cpy_in (by omega) (by omega), show 0 + (0 + k - 0) = 0 + k by omega]
      exact hrow q.2 rfl k p hp
def cAsking (S : Sp) (x : Int32) : Int32 := if x = -1 then costO (ask S.2.1 S.2.2.1) else match num x S.2.1.2.length with
  | none => -1
  | some l => match ask S.2.1 S.2.2.1 with
    | none => -9
    | some q => nI (q.2.getD l 0)
theorem kX9_asking {x : Int32} {Q : Int32 → St → Prop} (h : RC S s) (hok : okSp S) (hw : okWays S.2.1) (hQ : ∀ t, RC S t → KM s t → Q (cAsking S x) t) : wX9_asking x s Q := by
  obtain ⟨-, -, o3, o4, -⟩ := id hok
  have l6 := o3.2.2.1
  unfold cAsking at hQ
  unfold wX9_asking wX9_asking_15 wX9_asking_31
  refine ⟨fun c => ?_, fun c => ?_⟩
  · refine sX9_askedCost h hok hw (fun u hR hK _ => ⟨fun _ => ?_, fun z => absurd c z⟩)
    have q := hQ u hR hK
    rw [if_pos c] at q
    exact q
  · rw [if_neg c] at hQ
    refine sX9_isLane h l6 (fun hx => ?_) (fun l hx => ?_)
    · rw [hx] at hQ
      exact ⟨fun z => absurd rfl z, fun _ => hQ s h (KM.rf s)⟩
    · obtain ⟨hl, rfl⟩ := num_lt (by omega) hx
      rw [hx] at hQ
      dsimp only at hQ
      refine ⟨fun _ => ?_, fun z => absurd z (by decide)⟩
      refine sX9_askedCost h hok hw (fun u hR hK hk => ⟨fun z => absurd z c, fun _ => ?_⟩)
      have q := hQ u hR hK
      cases hz : ask S.2.1 S.2.2.1 with
      | none =>
        rw [hz] at q
        exact ⟨fun z => absurd rfl z, fun _ => q⟩
      | some z =>
        rw [hz] at q
        dsimp only at q
        have hq1 : z.1 ≤ 216 := by
          refine minC_le (bs := mapB S.2.1 S.2.2.1 ++ dB S.2.1 S.2.2.1) hok ?_
          rw [minC_ask, hz]; rfl
        refine ⟨fun _ => ⟨vp_in_nI (by omega) (by omega), ?_⟩, fun y => (nI_m9 (n := z.1) (by omega) ▸ y : False).elim⟩
        have hbf := best_first (la := S.2.1) (L0 := S.2.2.1.1) (ok := okL S.2.1 (dB S.2.1 S.2.2.1 ++ mapB S.2.1 S.2.2.1)) (q := z) hz
        have hlen : z.2.length = S.2.1.2.length := (allL_in.mp (List.mem_of_find?_eq_some hbf)).1
        have hA := hR.2.2.2.2.2.2.2.2.1
        rcases hA with hA | ⟨-, -, hA⟩
        · rw [hk] at hA; exact absurd hA (by decide)
        · have := hA z hz l (z.2.getD l 0) (getD_get (by omega))
          rw [Nat.zero_add] at this
          rw [nI_clamp (by omega), this]
          exact q
def cAsks (S : Sp) : Int32 × Sp := if S.2.2.1.2.2.1.length < 2 ∨ 4 ≤ S.2.2.1.2.1.length then (-2, S) else match ask S.2.1 S.2.2.1 with
  | none => (-2, S)
  | some q => (nI q.1, push S (q.2, S.2.2.1.2.1 ++ [S.2.2.1.2.2.1], [], Nat.min 99999 (S.2.2.1.2.2.2 + q.1)))
theorem kX9_asks {Q : Int32 → St → Prop} (h : RC S s) (hok : okSp S) (hw : okWays S.2.1) (hQ : ∀ t, RC (cAsks S).2 t → KM s t → Q (cAsks S).1 t) : wX9_asks s Q := by
  obtain ⟨-, -, o3, o4, -⟩ := id hok
  have l6 := o3.2.2.1
  have hd5 := o4.2.2.2.2.1.2.1
  unfold cAsks at hQ
  unfold wX9_asks wX9_draftIsWay
  have e4 : s.1 15 (4 : Int32).toNatClampNeg = nI S.2.2.1.2.2.1.length := h.2.2.2.1.2.2.2.1.1
  rw [e4]
  refine ⟨vp_in_nI (n := 4) (by omega) (by omega), fun z => ?_, fun z => ?_⟩
  · have z' : S.2.2.1.2.2.1.length < 2 := (nI_ltI (b := 2) (by omega) (by omega)).mp z
    rw [if_pos (Or.inl z')] at hQ
    exact ⟨fun _ => hQ s h (KM.rf s), fun y => absurd rfl y⟩
  have z' : ¬ S.2.2.1.2.2.1.length < 2 := fun y => z ((nI_ltI (b := 2) (by omega) (by omega)).mpr y)
  refine ⟨fun y => absurd y (by decide), fun _ => ?_⟩
  have e3 := h.2.2.2.1.2.1
  rw [e3]
  have h4 := o4.2.2.1
  refine ⟨fun y => ?_, fun y => ?_⟩
  · have y' : 4 ≤ S.2.2.1.2.1.length := (nI_leI (a := 4) (by omega) (by omega)).mp y
    rw [if_pos (Or.inr y')] at hQ
    exact hQ s h (KM.rf s)
  have y' : ¬ 4 ≤ S.2.2.1.2.1.length := fun w => y ((nI_leI (a := 4) (by omega) (by omega)).mpr w)
  rw [if_neg (by omega)] at hQ
  refine sX9_askedCost h hok hw (fun u hR hK hk => ?_)
  cases hz : ask S.2.1 S.2.2.1 with
  | none =>
    rw [hz] at hQ
    exact ⟨fun z => absurd rfl z, fun _ => hQ u hR hK⟩
  | some q =>
    rw [hz] at hQ
    dsimp only at hQ
    have hq1 : q.1 ≤ 216 := by
      refine minC_le (bs := mapB S.2.1 S.2.2.1 ++ dB S.2.1 S.2.2.1) hok ?_
      rw [minC_ask, hz]; rfl
    refine ⟨fun _ => ?_, fun y => (nI_m9 (n := q.1) (by omega) ▸ y : False).elim⟩
    refine sX9_askedCost hR hok hw (fun v hRv hKv hkv => ?_)
    rw [hz]
    have hbf := best_first (la := S.2.1) (L0 := S.2.2.1.1) (ok := okL S.2.1 (dB S.2.1 S.2.2.1 ++ mapB S.2.1 S.2.2.1)) (q := q) hz
    have hlen : q.2.length = S.2.1.2.length := (allL_in.mp (List.mem_of_find?_eq_some hbf)).1
    have hA := hRv.2.2.2.2.2.2.2.2.1
    have hrow : rowAt (v.1 87) 0 q.2 := by
      rcases hA with hA | ⟨-, -, hA⟩
      · rw [hkv] at hA; exact absurd hA (by decide)
      · exact hA q hz
    refine sX9_beforeChange hRv hok (fun t hf hb => ?_)
    have gg := hRv.2.1.g
    have eG : t.1 t.2.2.1 1 = nI S.2.1.2.length := by rw [hf.2, hf.1 _ (by omega)]; exact hRv.2.2.1.2.1
    refine ⟨by rw [hf.2]; exact hRv.G, ?_⟩
    rw [eG, nI_clamp (by omega)]
    refine ⟨cpOk_nI (sp := 0) (dp := 0) (by omega) (by omega) (by omega) (by omega), ?_⟩
    intro t2 ht2
    have ht2' : t2 = stC t 87 14 0 0 S.2.1.2.length := ht2
    have hNt := hRv.2.2.2.1.fr hf (by intro k; omega)
    have hdug := o4.2.2.2.2.2
    unfold wX9_addDug
    intro t3 ht3
    have eg : t2.1 13 4 = nI S.2.2.1.2.2.2 := by rw [ht2', rC_ne (by omega)]; exact hNt.2.2.2.2
    have hm : (if t2.1 13 4 + costO (some q) < 99999 then t2.1 13 4 + costO (some q) else 99999) = nI (Nat.min 99999 (S.2.2.1.2.2.2 + q.1)) := by
      rw [eg, show costO (some q) = nI q.1 from rfl, nI_add, show (99999 : Int32) = nI 99999 from rfl]
      by_cases c : S.2.2.1.2.2.2 + q.1 < 99999
      · rw [if_pos ((nI_ltI (by omega) (by omega)).mpr c)]; congr 1; exact (Nat.min_eq_right (by omega)).symm
      · rw [if_neg (fun z => c ((nI_ltI (by omega) (by omega)).mp z))]; congr 1; exact (Nat.min_eq_left (by omega)).symm
    rw [hm] at ht3
    have hf3 : Fr (fun k => 13 ≤ k ∧ k ≤ 16) t t3 := by rw [ht3, ht2']; exact (Fr.rf.C (by omega)).I (by omega)
    have r87 : rowAt (t.1 87) 0 q.2 := by rw [hf.1 87 (by omega)]; exact hrow
    have hN3 : NowC 13 (q.2, S.2.2.1.2.1, S.2.2.1.2.2.1, Nat.min 99999 (S.2.2.1.2.2.2 + q.1)) t3 := by
      obtain ⟨n1, n2, n3, n4, n5⟩ := hNt
      have tk : ∀ k, k ≠ 13 → k ≠ 14 → t3.1 k = t.1 k := fun k a b => by rw [ht3, rI_ne a, ht2', rC_ne b]
      refine ⟨fun k p hp => ?_, ?_, fun m w hmw => ?_, ?_, ?_⟩
      · have hk : k < q.2.length := (List.getElem?_eq_some_iff.mp hp).1
        rw [ht3, rI_ne (by omega), ht2', rC_eq, cpy_in (by omega) (by omega), show 0 + (0 + k - 0) = 0 + k by omega]
        exact r87 k p hp
      · rw [ht3, rI_nj (by omega), ht2', rC_ne (by omega)]; exact n2
      · have := n3 m w hmw
        exact ⟨by rw [tk _ (by omega) (by omega)]; exact this.1, by rw [tk _ (by omega) (by omega)]; exact this.2⟩
      · exact ⟨by rw [tk _ (by omega) (by omega)]; exact n4.1, by rw [tk _ (by omega) (by omega)]; exact n4.2⟩
      · rw [ht3, rI_eq]
    refine sX2_draftToMap hN3 (by omega) hd5 (fun w hmw => (o4.2.2.2.1 w hmw).1.2.1) (fun t4 hf4 hN4 => ?_)
    have hf5 : Fr (fun k => 13 ≤ k ∧ k ≤ 16) t t4 := hf3.tr (hf4.wk (by intro k; omega))
    exact hQ t4 (hb _ _ hf5 hN4) (((hK.tr hKv).tr (KM.of hf (by intro k; omega))).tr (KM.of hf5 (by intro k; omega)))
end ASK
