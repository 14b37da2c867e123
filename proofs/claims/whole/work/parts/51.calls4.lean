/-! mapsBy, lane, knot, rate, trace -/
/-- how many of the first m maps go by a lane -/
def byP (la : Land) (maps : List (List Nat)) (l : Nat) : Nat → Nat
  | 0 => 0
  | m + 1 => byP la maps l m + if (bitsOf la.2 (maps.getD m [])).testBit l then 1 else 0
theorem byP_le (la : Land) (maps : List (List Nat)) (l : Nat) : ∀ m, byP la maps l m ≤ m
  | 0 => Nat.le_refl _
  | m + 1 => by
    have := byP_le la maps l m
    unfold byP
    split <;> omega
def mapsBy (S : Sp) (l : Nat) : Nat := byP S.2.1 S.2.2.1.2.1 l S.2.2.1.2.1.length
theorem map_get {maps : List (List Nat)} {m : Nat} (h : m < maps.length) : maps[m]? = some (maps.getD m []) := by rw [List.getD_eq_getElem?_getD, List.getElem?_eq_getElem h]; rfl
theorem sX9_mapsBy {S : Sp} {s : St} {l : Nat} {Q : Int32 → St → Prop} (hG : IsG s.2.2.1) (hGr : GroundC s.2.2.1 S.2.1 s) (hN : NowC 13 S.2.2.1 s) (o3 : okLand S.2.1) (o4 : okNw S.2.1 S.2.2.1) (hl : l < 6) (hQ : Q (nI (mapsBy S l)) s) : wX9_mapsBy (nI l) s Q := by
  have h4 := o4.2.2.1
  have e3 := hN.2.1
  have key : ∀ d m, m + d = S.2.2.1.2.1.length → wX9_mapsBy_4 (nI l) Q (d + 1) (nI (byP S.2.1 S.2.2.1.2.1 l m)) (nI m) s := by
    intro d
    induction d with
    | zero =>
      intro m hm
      unfold wX9_mapsBy_4
      have e : S.2.2.1.2.1.length ≤ m := by omega
      have em : m = S.2.2.1.2.1.length := by omega
      simp (disch := omega) only [e3, e, lit_nI, nI_ltI, nI_leI, nI_eq, nI_clamp, vp_in_nI, forall_eq, true_and, and_true, false_and, and_false, true_implies, false_implies, implies_true, not_true, not_false_eq_true, nI_add, pk_mul, nI_sub, shl1, shr1, fa_or, fa_and, nI_m9, nI_m9s]
      rw [em]; exact hQ
    | succ d ih =>
      intro m hm
      unfold wX9_mapsBy_4
      have e : ¬ S.2.2.1.2.1.length ≤ m := by omega
      simp (disch := omega) only [e3, e, lit_nI, nI_ltI, nI_leI, nI_eq, nI_clamp, vp_in_nI, forall_eq, true_and, and_true, false_and, and_false, true_implies, false_implies, implies_true, not_true, not_false_eq_true, nI_add, pk_mul, nI_sub, shl1, shr1, fa_or, fa_and, nI_m9, nI_m9s]
      refine ⟨hG, ?_⟩
      have hg := map_get (show m < S.2.2.1.2.1.length by omega)
      have hw := o4.2.2.2.1 _ (List.mem_of_getElem? hg)
      refine sX2_lanesOf hGr o3.2.1 o3.2.2.1 (hN.2.2.1 m _ hg) (by omega) hw.1 ?_
      have ih2 := ih (m + 1) (by omega)
      unfold byP at ih2
      have hb := bitsP_lt o3.2.2.1 (S.2.2.1.2.1.getD m []) (S.2.2.1.2.1.getD m []).length
      have hb2 : bitsOf S.2.1.2 (S.2.2.1.2.1.getD m []) < 64 := hb
      by_cases ht : (bitsOf S.2.1.2 (S.2.2.1.2.1.getD m [])).testBit l
      · rw [if_pos ht] at ih2
        simp (disch := omega) only [ht, if_true, lit_nI, nI_ltI, nI_leI, nI_eq, nI_clamp, vp_in_nI, forall_eq, true_and, and_true, false_and, and_false, true_implies, false_implies, implies_true, not_true, not_false_eq_true, nI_add, pk_mul, nI_sub, shl1, shr1, fa_or, fa_and, nI_m9, nI_m9s]
        exact ih2
      · rw [if_neg ht, Nat.add_zero] at ih2
        simp (disch := omega) only [ht, Bool.false_eq_true, if_false, Nat.add_zero, lit_nI, nI_ltI, nI_leI, nI_eq, nI_clamp, vp_in_nI, forall_eq, true_and, and_true, false_and, and_false, true_implies, false_implies, implies_true, not_true, not_false_eq_true, nI_add, pk_mul, nI_sub, shl1, shr1, fa_or, fa_and, nI_m9, nI_m9s]
        exact ih2
  unfold wX9_mapsBy
  exact ⟨_, key S.2.2.1.2.1.length 0 (by omega)⟩
def laneAt (la : Land) (l : Nat) : Lane := la.2.getD l (0, 0, 0)
def cLane (S : Sp) (x y : Int32) : Int32 := match num x S.2.1.2.length with
  | none => -1
  | some l => if y = 0 then nI (laneAt S.2.1 l).1 else if y = 1 then nI (laneAt S.2.1 l).2.1 else if y = 2 then nI (S.2.2.1.1.getD l 0) else if y = 3 then nI (spade S.2.1 l) else if y = 4 then nI (mapsBy S l) else -1
theorem kX9_lane {S : Sp} {s : St} {x y : Int32} {Q : Int32 → St → Prop} (h : RC S s) (hok : okSp S) (hQ : Q (cLane S x y) s) : wX9_lane x y s Q := by
  obtain ⟨o1, o2, o3, o4, -⟩ := hok
  have hl6 := o3.2.2.1
  have g := h.G
  unfold cLane at hQ
  unfold wX9_lane
  refine sX9_isLane h hl6 (fun hx => ?_) (fun l hx => ?_)
  · rw [hx] at hQ
    exact ⟨fun z => absurd rfl z, fun _ => hQ⟩
  · obtain ⟨hl, rfl⟩ := num_lt (by omega) hx
    rw [hx] at hQ
    dsimp only at hQ
    refine ⟨fun _ => ?_, fun z => absurd z (by decide)⟩
    have hc := h.2.2.1.2.2.1 l _ _ _ (lane_get hl)
    have hL : l < S.2.2.1.1.length := by rw [o4.1]; exact hl
    have ev : s.1 14 l = nI (S.2.2.1.1.getD l 0) := by
      have := h.2.2.2.1.1 l _ (getD_get hL)
      rw [Nat.zero_add] at this
      exact this
    have vi : vp_in (nI l) 6 := vp_in_nI (by omega) (by omega)
    rw [nI_clamp (by omega), hc.1, hc.2.1, hc.2.2, ev]
    refine ⟨fun c => ⟨g, vi, ?_⟩, fun c0 => ⟨fun c => ⟨g, vi, ?_⟩, fun c1 => ⟨fun c => ⟨vi, ?_⟩, fun c2 => ⟨fun c => ⟨g, vi, ?_⟩, fun c3 => ⟨fun c => ?_, fun c4 => ?_⟩⟩⟩⟩⟩
    · rw [if_pos c] at hQ; exact hQ
    · rw [if_neg c0, if_pos c] at hQ; exact hQ
    · rw [if_neg c0, if_neg c1, if_pos c] at hQ; exact hQ
    · rw [if_neg c0, if_neg c1, if_neg c2, if_pos c] at hQ; exact hQ
    · rw [if_neg c0, if_neg c1, if_neg c2, if_neg c3, if_pos c] at hQ
      exact sX9_mapsBy g h.2.2.1 h.2.2.2.1 o3 o4 (by omega) hQ
    · rw [if_neg c0, if_neg c1, if_neg c2, if_neg c3, if_neg c4] at hQ; exact hQ
/-- the knot of a place, of the first l lanes -/
def knP (S : Sp) (p : Nat) : Nat → Nat
  | 0 => 0
  | l + 1 => knP S p l + if (laneAt S.2.1 l).1 = p ∨ (laneAt S.2.1 l).2.1 = p then spade S.2.1 l * S.2.2.1.1.getD l 0 else 0
theorem knP_le {S : Sp} (o3 : okLand S.2.1) (o4 : okNw S.2.1 S.2.2.1) (p : Nat) : ∀ l, knP S p l ≤ 45 * l
  | 0 => Nat.le_refl _
  | l + 1 => by
    have := knP_le o3 o4 p l
    have h1 := spade_le o3 l
    have h2 : S.2.2.1.1.getD l 0 ≤ 5 := getD_le (fun x hx => (o4.2.1 x hx).2) l
    have h3 : spade S.2.1 l * S.2.2.1.1.getD l 0 ≤ 45 := Nat.mul_le_mul h1 h2
    unfold knP
    split <;> omega
def cKnot (S : Sp) (x : Int32) : Int32 := match num x S.2.1.1 with
  | none => -1
  | some p => nI (knP S p S.2.1.2.length)
theorem kX9_knot {S : Sp} {s : St} {x : Int32} {Q : Int32 → St → Prop} (h : RC S s) (hok : okSp S) (hQ : Q (cKnot S x) s) : wX9_knot x s Q := by
  obtain ⟨o1, o2, o3, o4, -⟩ := hok
  have hl6 := o3.2.2.1
  have g := h.G
  unfold cKnot at hQ
  unfold wX9_knot
  refine sX9_isPlace h o3.2.1 (fun hx => ?_) (fun p hx => ?_)
  · rw [hx] at hQ
    exact ⟨fun z => absurd rfl z, fun _ => hQ⟩
  · have p5 := o3.2.1
    obtain ⟨hp, rfl⟩ := num_lt (by omega) hx
    rw [hx] at hQ
    dsimp only at hQ
    refine ⟨fun _ => ?_, fun z => absurd z (by decide)⟩
    have e1 := h.2.2.1.2.1
    have key : ∀ d l, l + d = S.2.1.2.length → wX9_knot_14 (nI p) Q (d + 1) (nI (knP S p l)) (nI l) s := by
      intro d
      induction d with
      | zero =>
        intro l hl
        unfold wX9_knot_14
        have e : S.2.1.2.length ≤ l := by omega
        have el : l = S.2.1.2.length := by omega
        simp (disch := omega) only [e1, e, g, lit_nI, nI_ltI, nI_leI, nI_eq, nI_clamp, vp_in_nI, forall_eq, true_and, and_true, false_and, and_false, true_implies, false_implies, implies_true, not_true, not_false_eq_true, nI_add, pk_mul, nI_sub, shl1, shr1, fa_or, fa_and, nI_m9, nI_m9s]
        rw [el]; exact hQ
      | succ d ih =>
        intro l hl
        have hl2 : l < S.2.1.2.length := by omega
        have hc := h.2.2.1.2.2.1 l _ _ _ (lane_get hl2)
        have hL : l < S.2.2.1.1.length := by rw [o4.1]; exact hl2
        have ev : s.1 14 l = nI (S.2.2.1.1.getD l 0) := by
          have := h.2.2.2.1.1 l _ (getD_get hL)
          rw [Nat.zero_add] at this
          exact this
        have ok := o3.2.2.2.1 l _ _ _ (lane_get hl2)
        have ih2 := ih (l + 1) (by omega)
        unfold knP at ih2
        unfold wX9_knot_14 wX9_knot_51 wX9_knot_73
        have e : ¬ S.2.1.2.length ≤ l := by omega
        have hc1 : s.1 (s.2.2.1 + 1) l = nI (laneAt S.2.1 l).1 := hc.1
        have hc2 : s.1 (s.2.2.1 + 2) l = nI (laneAt S.2.1 l).2.1 := hc.2.1
        have hc3 := hc.2.2
        have ok1 : (laneAt S.2.1 l).1 < S.2.1.1 := ok.1
        have ok2 : (laneAt S.2.1 l).2.1 < S.2.1.1 := ok.2.1
        by_cases c1 : (laneAt S.2.1 l).1 = p
        · rw [if_pos (Or.inl c1)] at ih2
          simp (disch := omega) only [e1, e, g, hc1, hc2, hc3, ev, c1, lit_nI, nI_ltI, nI_leI, nI_eq, nI_clamp, vp_in_nI, forall_eq, true_and, and_true, false_and, and_false, true_implies, false_implies, implies_true, not_true, not_false_eq_true, nI_add, pk_mul, nI_sub, shl1, shr1, fa_or, fa_and, nI_m9, nI_m9s]
          exact ih2
        · by_cases c2 : (laneAt S.2.1 l).2.1 = p
          · rw [if_pos (Or.inr c2)] at ih2
            simp (disch := omega) only [e1, e, g, hc1, hc2, hc3, ev, c1, c2, lit_nI, nI_ltI, nI_leI, nI_eq, nI_clamp, vp_in_nI, forall_eq, true_and, and_true, false_and, and_false, true_implies, false_implies, implies_true, not_true, not_false_eq_true, nI_add, pk_mul, nI_sub, shl1, shr1, fa_or, fa_and, nI_m9, nI_m9s]
            exact ih2
          · rw [if_neg (by omega), Nat.add_zero] at ih2
            simp (disch := omega) only [e1, e, g, hc1, hc2, hc3, ev, c1, c2, lit_nI, nI_ltI, nI_leI, nI_eq, nI_clamp, vp_in_nI, forall_eq, true_and, and_true, false_and, and_false, true_implies, false_implies, implies_true, not_true, not_false_eq_true, nI_add, pk_mul, nI_sub, shl1, shr1, fa_or, fa_and, nI_m9, nI_m9s]
            exact ih2
    exact ⟨_, key S.2.1.2.length 0 (by omega)⟩
/-! rate, trace -/
def setR (S : Sp) (v : Int64) : Sp := (S.1, S.2.1, S.2.2.1, S.2.2.2.1, S.2.2.2.2.1, S.2.2.2.2.2.1, v)
theorem RC.L {S : Sp} {s : St} (h : RC S s) (v : Int64) : RC (setR S v) (stL s 0 v) := by
  obtain ⟨a1, a2, a3, a4, a5, a6, a7, a8, a9, a10, a11⟩ := h
  exact ⟨a1, a2, a3, a4, a5, a6, a7, a8, a9, a10, (show va_up s.2.1 0 v 0 = v from up_eq)⟩
theorem KM.L {s : St} (v : Int64) : KM s (stL s 0 v) := ⟨fun _ _ => rfl, (show va_up s.2.1 0 v 99 = s.2.1 99 from up_ne (by omega))⟩
theorem setR_1 (S : Sp) (A : Int64) : setR (setR S A) ((setR S A).2.2.2.2.2.2 + 1) = setR S (A + 1) := rfl
theorem setR_R (S : Sp) (v w : Int64) : setR (setR S v) w = setR S w := rfl
def rtAns (S : Sp) (k l : Nat) : Int32 :=
  let its := nI (S.2.2.1.1.getD l 0)
  let sp := nI (spade S.2.1 l)
  let by_ := nI (mapsBy S l)
  if k = 0 then its else if k = 1 then its + sp else if k = 2 then its - by_ else if k = 3 then 2 * (its + sp) else if k = 4 then (its - by_) + nI l else its + nI S.2.2.1.2.2.2
def rtAdd (k : Nat) : Int64 := if k = 0 then 1 else if k = 1 then 11 else if k = 2 then 101 else if k = 3 then 1011 else if k = 4 then 10101 else 100001
def cRate (S : Sp) (x y : Int32) : Int32 × Sp := match num y S.2.1.2.length with
  | none => (-1000000, S)
  | some l => match num x 6 with
    | none => (-1000000, S)
    | some k => (rtAns S k l, setR S (S.2.2.2.2.2.2 + rtAdd k))
section RT
variable {S : Sp} {l : Nat}
theorem sX9_asLane {s : St} {Q : Int32 → St → Prop} (h : RC S s) (hok : okSp S) (hl : l < S.2.1.2.length) (hQ : RC (setR S (S.2.2.2.2.2.2 + 1)) (stL s 0 (s.2.1 0 + 1)) → Q (nI (S.2.2.1.1.getD l 0)) (stL s 0 (s.2.1 0 + 1))) : wX9_asLane (nI l) s Q := by
  obtain ⟨o1, o2, o3, o4, -⟩ := hok
  have hl6 := o3.2.2.1
  have hL : l < S.2.2.1.1.length := by rw [o4.1]; exact hl
  have ev : s.1 14 l = nI (S.2.2.1.1.getD l 0) := by
    have := h.2.2.2.1.1 l _ (getD_get hL)
    rw [Nat.zero_add] at this
    exact this
  unfold wX9_asLane
  intro t ht
  subst ht
  refine ⟨vp_in_nI (by omega) (by omega), ?_⟩
  rw [nI_clamp (by omega), show (stL s 0 (s.2.1 0 + 1)).1 14 l = s.1 14 l from rfl, ev]
  refine hQ ?_
  have := h.L (s.2.1 0 + 1)
  rw [h.2.2.2.2.2.2.2.2.2.2] at this ⊢
  exact this
end RT
theorem rt_add (a b c d : Int64) (h : b + c = d) : a + b + c = a + d := by rw [← h, Int64.add_assoc]
set_option maxHeartbeats 1000000 in
theorem kX9_rate {S : Sp} {s : St} {x y : Int32} {Q : Int32 → St → Prop} (h : RC S s) (hok : okSp S) (hQ : ∀ t, RC (cRate S x y).2 t → KM s t → Q (cRate S x y).1 t) : wX9_rate x y s Q := by
  have hok' := hok
  obtain ⟨o1, o2, o3, o4, -⟩ := hok
  have hl6 := o3.2.2.1
  unfold cRate at hQ
  unfold wX9_rate
  refine sX9_isLane h hl6 (fun hx => ?_) (fun l hx => ?_)
  · rw [hx] at hQ
    exact ⟨fun z => absurd rfl z, fun _ => hQ s h (KM.rf s)⟩
  obtain ⟨hl, rfl⟩ := num_lt (by omega) hx
  rw [hx] at hQ
  dsimp only at hQ
  refine ⟨fun _ => ?_, fun z => absurd z (by decide)⟩
  have tr0 := h.2.2.2.2.2.2.2.2.2.2
  have okR : ∀ v, okSp (setR S v) := fun v => hok'
  have go : ∀ k t r, num x 6 = some k → RC (setR S (S.2.2.2.2.2.2 + rtAdd k)) t → KM s t → r = rtAns S k l → Q r t := by
    intro k t r hk h1 h2 h3
    rw [hk] at hQ
    rw [h3]
    exact hQ t h1 h2
  have brook : ∀ (s' : St) (v : Int64) (P : Int32 → St → Prop), RC (setR S v) s' → (∀ t, RC (setR S (v + 11)) t → KM s' t → P (nI (S.2.2.1.1.getD l 0) + nI (spade S.2.1 l)) t) → wX9_asBrook (nI l) s' P := by
    intro s' v P hs hP
    unfold wX9_asBrook
    intro t ht
    subst ht
    have e0 : s'.2.1 0 = v := hs.2.2.2.2.2.2.2.2.2.2
    rw [e0]
    have h1 := hs.L (v + 10)
    rw [setR_R] at h1
    refine sX9_asLane (S := setR S (v + 10)) h1 (okR _) hl (fun h2 => ⟨h2.G, vp_in_nI (by omega) (by omega), ?_⟩)
    rw [nI_clamp (by omega)]
    have hc := (h2.2.2.1.2.2.1 l _ _ _ (lane_get hl)).2.2
    rw [hc]
    refine hP _ ?_ ((KM.L _).tr (KM.L _))
    have : setR (setR S (v + 10)) ((setR S (v + 10)).2.2.2.2.2.2 + 1) = setR S (v + 11) := by
      rw [setR_1, rt_add v 10 1 11 (by decide)]
    rw [this] at h2
    exact h2
  have cart : ∀ (s' : St) (v : Int64) (P : Int32 → St → Prop), RC (setR S v) s' → (∀ t, RC (setR S (v + 101)) t → KM s' t → P (nI (S.2.2.1.1.getD l 0) - nI (mapsBy S l)) t) → wX9_asCart (nI l) s' P := by
    intro s' v P hs hP
    unfold wX9_asCart
    intro t ht
    subst ht
    have e0 : s'.2.1 0 = v := hs.2.2.2.2.2.2.2.2.2.2
    rw [e0]
    have h1 := hs.L (v + 100)
    rw [setR_R] at h1
    refine sX9_asLane (S := setR S (v + 100)) h1 (okR _) hl (fun h2 => ?_)
    refine sX9_mapsBy (S := S) h2.G h2.2.2.1 h2.2.2.2.1 o3 o4 (by omega) ?_
    refine hP _ ?_ ((KM.L _).tr (KM.L _))
    have : setR (setR S (v + 100)) ((setR S (v + 100)).2.2.2.2.2.2 + 1) = setR S (v + 101) := by
      rw [setR_1, rt_add v 100 1 101 (by decide)]
    rw [this] at h2
    exact h2
  have h0 : RC (setR S S.2.2.2.2.2.2) s := h
  refine ⟨fun c => ?_, fun c0 => ⟨fun c => ?_, fun c1 => ⟨fun c => ?_, fun c2 => ⟨fun c => ?_, fun c3 => ⟨fun c => ?_, fun c4 => ⟨fun c => ?_, fun c5 => ?_⟩⟩⟩⟩⟩⟩
  · refine sX9_asLane h hok' hl (fun h2 => go 0 _ _ (by rw [c]; rfl) h2 (KM.L _) rfl)
  · refine brook s _ _ h0 (fun t h2 h3 => go 1 t _ (by rw [c]; rfl) h2 h3 rfl)
  · refine cart s _ _ h0 (fun t h2 h3 => go 2 t _ (by rw [c]; rfl) h2 h3 rfl)
  · unfold wX9_asParlour
    intro t ht
    subst ht
    rw [tr0]
    have h1 := h.L (S.2.2.2.2.2.2 + 1000)
    refine brook _ _ _ h1 (fun t h2 h3 => go 3 t _ (by rw [c]; rfl) ?_ ((KM.L _).tr h3) rfl)
    rw [rt_add _ 1000 11 1011 (by decide)] at h2
    exact h2
  · unfold wX9_asHome
    intro t ht
    subst ht
    rw [tr0]
    have h1 := h.L (S.2.2.2.2.2.2 + 10000)
    refine cart _ _ _ h1 (fun t h2 h3 => go 4 t _ (by rw [c]; rfl) ?_ ((KM.L _).tr h3) rfl)
    rw [rt_add _ 10000 101 10101 (by decide)] at h2
    exact h2
  · unfold wX9_asSea
    intro t ht
    subst ht
    rw [tr0]
    have h1 := h.L (S.2.2.2.2.2.2 + 100000)
    refine sX9_asLane (S := setR S (S.2.2.2.2.2.2 + 100000)) h1 (okR _) hl (fun h2 => ?_)
    have e4 : (stL (stL s 0 (S.2.2.2.2.2.2 + 100000)) 0 ((stL s 0 (S.2.2.2.2.2.2 + 100000)).2.1 0 + 1)).1 13 4 = nI S.2.2.1.2.2.2 := h.2.2.2.1.2.2.2.2
    rw [e4]
    refine go 5 _ _ (by rw [c]; rfl) ?_ ((KM.L _).tr (KM.L _)) rfl
    have : setR (setR S (S.2.2.2.2.2.2 + 100000)) ((setR S (S.2.2.2.2.2.2 + 100000)).2.2.2.2.2.2 + 1) = setR S (S.2.2.2.2.2.2 + 100001) := by
      rw [setR_1, rt_add _ 100000 1 100001 (by decide)]
    rw [this] at h2
    exact h2
  · cases hk : num x 6 with
    | none => rw [hk] at hQ; exact hQ s h (KM.rf s)
    | some k =>
      obtain ⟨hk6, rfl⟩ := num_lt (by omega) hk
      rcases (show k = 0 ∨ k = 1 ∨ k = 2 ∨ k = 3 ∨ k = 4 ∨ k = 5 by omega) with rfl | rfl | rfl | rfl | rfl | rfl
      · exact absurd rfl c0
      · exact absurd rfl c1
      · exact absurd rfl c2
      · exact absurd rfl c3
      · exact absurd rfl c4
      · exact absurd rfl c5
theorem kX9_trace {S : Sp} {s : St} {Q : Int64 → St → Prop} (h : RC S s) (hQ : Q S.2.2.2.2.2.2 s) : wX9_trace s Q := by
  unfold wX9_trace
  rw [h.2.2.2.2.2.2.2.2.2.2]; exact hQ
