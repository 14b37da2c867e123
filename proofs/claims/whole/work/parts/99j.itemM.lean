/-! the reference: items of the text -/
def lnK2 (x : Nat) (x1 x2 r89 : Int32) (Q : St → Prop) : Int32 → St → Prop := fun r_120 s_120 => vp_in ((6 : Int32) + x1) 12 ∧ ∀ s_123 : St, s_123 = stI s_120 (x + 5) ((6 : Int32) + x1).toNatClampNeg r_120 → vp_in ((6 : Int32) + x1) 12 ∧ ∀ s_133 : St, s_133 = stI s_123 (x + 3) ((6 : Int32) + x1).toNatClampNeg x2 → vp_in ((6 : Int32) + x1) 12 ∧ ∀ s_144 : St, s_144 = stI s_133 (x + 4) ((6 : Int32) + x1).toNatClampNeg r89 → vp_in (3 : Int32) 4 ∧ vp_in (3 : Int32) 4 ∧ ∀ s_154 : St, s_154 = stI s_144 (x + 2) (3 : Int32).toNatClampNeg ((s_144.1 (x + 2) (3 : Int32).toNatClampNeg) + (1 : Int32)) → Q s_154
def lnK (x : Nat) (x1 x2 r89 : Int32) (Q : St → Prop) : Int32 → St → Prop := fun r_104 s_104 => vp_in ((0 : Int32) + x1) 38 ∧ ∀ s_107 : St, s_107 = stI s_104 (x + 6) ((0 : Int32) + x1).toNatClampNeg r_104 → wX10_number x (1 : Int32) (9 : Int32) s_107 (lnK2 x x1 x2 r89 Q)
section ITM
variable {x : Nat} {s : St} {T : List Nat} {D : Dt}
theorem lnK2_go {L : Nat} {a b r : Int32} {Q : St → Prop} (hL : L < 6) (e3 : s.1 (x + 2) 3 = nI L) (hQ : ∀ v, v = stI (stI (stI (stI s (x + 5) (6 + L) r) (x + 3) (6 + L) a) (x + 4) (6 + L) b) (x + 2) 3 (nI (L + 1)) → Q v) : lnK2 x (nI L) a b Q r s := by
  unfold lnK2
  rw [show (6 : Int32) = nI 6 from rfl, nI_add, nI_clamp (by omega)]
  refine ⟨vp_in_nI (by omega) (by omega), fun s1 h1 => ⟨vp_in_nI (by omega) (by omega), fun s2 h2 => ⟨vp_in_nI (by omega) (by omega), fun s3 h3 => ⟨vp_in_nI (n := 3) (by omega) (by omega), vp_in_nI (n := 3) (by omega) (by omega), fun s4 h4 => hQ s4 ?_⟩⟩⟩⟩
  have e : s3.1 (x + 2) ((3 : Int32).toNatClampNeg) = nI L := by
    show s3.1 (x + 2) 3 = _
    rw [h3, rI_ne (by omega), h2, rI_ne (by omega), h1, rI_ne (by omega)]
    exact e3
  rw [e, show nI L + (1 : Int32) = nI (L + 1) from (nI_succ _).symm] at h4
  rw [h4, h3, h2, h1]
  rfl
theorem laneF2 {L f : Nat} {a b r : Int32} {Q : St → Prop} (hL : L < 6) (hw : s.1 x 8 = nI f) (e3 : s.1 (x + 2) 3 = nI L) (hQ : ∀ v, FrD x s v → v.1 x 8 = nI f → Q v) : lnK2 x (nI L) a b Q r s := by
  refine lnK2_go hL e3 (fun v hv => hQ v ?_ ?_)
  · rw [hv]
    exact (((FrD.rf.l (c := 5) (by omega) (by omega) (by omega)).l (c := 3) (by omega) (by omega) (by omega)).l (c := 4) (by omega) (by omega) (by omega)).m (by omega)
  · rw [hv, rI_ne (by omega), rI_ne (by omega), rI_ne (by omega), rI_ne (by omega)]
    exact hw
theorem laneF1 {L f : Nat} {a b r : Int32} {Q : St → Prop} (hL : L < 6) (hf : f ≤ 200) (hw : s.1 x 8 = nI f) (e3 : s.1 (x + 2) 3 = nI L) (hQ : ∀ v, FrD x s v → v.1 x 8 = nI f → Q v) : lnK x (nI L) a b Q r s := by
  unfold lnK
  rw [show (0 : Int32) + nI L = nI L from by rw [show (0 : Int32) = nI 0 from rfl, nI_add, Nat.zero_add], nI_clamp (by omega)]
  refine ⟨vp_in_nI (by omega) (by omega), fun u hu => ?_⟩
  have u8 : u.1 x 8 = nI f := by rw [hu, rI_ne (by omega)]; exact hw
  refine sX10_numberF u8 hf ?_
  refine laneF2 hL u8 (by rw [hu, rI_ne (by omega)]; exact e3) (fun v hv h8 => hQ v (FrD.tr ?_ hv) h8)
  rw [hu]
  exact FrD.rf.d
theorem laneF {L f : Nat} {a b : Int32} {Q : St → Prop} (hL : L < 6) (hf : f ≤ 200) (hw : s.1 x 8 = nI f) (e3 : s.1 (x + 2) 3 = nI L) (hQ : ∀ v, FrD x s v → v.1 x 8 = nI f → Q v) : wX10_number x (1 : Int32) (5 : Int32) s (lnK x (nI L) a b Q) := sX10_numberF hw hf (laneF1 hL hf hw e3 hQ)
/-- what an item's reading ends in: a fault, or the token that should end it -/
def ItP (x : Nat) (T : List Nat) (s : St) (R : Option Dt × Tk) (Q : St → Prop) : Prop := (∀ u, FrD x s u → R.1 = none → R.2.2.2.1 ≤ 200 → u.1 x 8 = nI R.2.2.2.1 → Q u) ∧ (∀ u t D2, FrD x s u → u.1 x 8 = -1 → CurM x t u → t.2.2.2 ≤ T.length → t.2.2.1 ≤ t.2.2.2 → t.1 ≤ 110 → RdM x D2 u → R = (if t.1 = 59 then (some D2, t) else (none, t)) → Q u)
theorem sX10_readsLane {tk : Tk} {Q : St → Prop} (h : TextM x T s) (hT : T.length ≤ 120) (hT2 : ∀ a ∈ T, a ≤ 255) (hp : tk.2.2.2 ≤ T.length) (hw : s.1 x 8 = -1) (hc : CurM x (tok T tk.2.2.2) s) (hok : okD D) (h6 : D.2.1.length < 6) (hR : RdM x D s) (hQ : ItP x T s (laneS T D tk) Q) : wX10_readsLane x s Q := by
  have l1 : 2 ≤ D.1 := hok.1.1
  have l2 : D.1 ≤ 5 := hok.1.2.1
  have hLl : D.2.2.1.length = D.2.1.length := hok.2.1
  have f1 := tok_facts hp
  have f2 := tok_facts (T := T) f1.2.2.1
  have f3 := tok_facts (T := T) f2.2.2.1
  have f4 := tok_facts (T := T) f3.2.2.1
  have f5 := tok_facts (T := T) f4.2.2.1
  obtain ⟨hQ0, hQ1⟩ := hQ
  have hhi : nI D.1 - (1 : Int32) = nI (D.1 - 1) := by rw [show (1 : Int32) = nI 1 from rfl, nI_sub (by omega)]
  have e2 : ∀ u : St, RdM x D u → u.1 (x + 2) ((2 : Int32).toNatClampNeg) = nI D.1 := fun u hu => hu.1
  have e3 : ∀ u : St, RdM x D u → u.1 (x + 2) ((3 : Int32).toNatClampNeg) = nI D.2.1.length := fun u hu => hu.2.1
  unfold laneS lane2S at hQ0 hQ1
  generalize htok1 : tok T tk.2.2.2 = t1 at hQ0 hQ1 f1 f2 f3 f4 f5 hc
  generalize htok2 : tok T t1.2.2.2 = t2 at hQ0 hQ1 f2 f3 f4 f5
  generalize htok3 : tok T t2.2.2.2 = t3 at hQ0 hQ1 f3 f4 f5
  generalize htok4 : tok T t3.2.2.2 = t4 at hQ0 hQ1 f4 f5
  generalize htok5 : tok T t4.2.2.2 = t5 at hQ0 hQ1 f5
  unfold wX10_readsLane
  rw [e2 s hR, e3 s hR, hhi]
  refine ⟨vp_in_nI (n := 3) (by omega) (by omega), vp_in_nI (n := 2) (by omega) (by omega), ?_⟩
  refine sX10_numberW (lo := 0) (hi := D.1 - 1) h hT hT2 hw hc (by omega) (by omega) (by omega) (by omega) (fun z1 u1 hf1 hc1 => ?_) (fun z1 u hu => ?_)
  rotate_left
  · rw [z1] at hQ0
    have u8 : u.1 x 8 = nI t1.2.2.1 := by rw [hu, rI_eq]
    have hfu : FrD x s u := by rw [hu]; exact FrD.rf.f
    have hRu : RdM x D u := hR.cg (by rw [hu]; exact rI_ne (by omega)) (by rw [hu]; exact rI_ne (by omega)) (by rw [hu]; exact rI_ne (by omega)) (by rw [hu]; exact rI_ne (by omega)) (by rw [hu]; exact rI_ne (by omega))
    have t60 : wX10_readsLane_60 Q x (nI D.2.1.length) 0 u := by
      unfold wX10_readsLane_60 wX10_readsLane_61 wX10_readsLane_88 wX10_readsLane_89
      refine ⟨fun _ => ?_, fun z => absurd rfl z⟩
      refine sX10_takesF u8 (by omega) ?_
      exact laneF h6 (by omega) u8 hRu.2.1 (fun v hv h8 => hQ0 v (hfu.tr hv) rfl (show t1.2.2.1 ≤ 200 by omega) h8)
    have u5 : u.1 x 5 = nI (rk t1.1) := by rw [hu, rI_nj (by omega)]; exact hc.2.1
    rw [u5]
    refine ⟨fun _ => t60, fun z => ⟨vp_in_nI (n := 2) (by omega) (by omega), ?_⟩⟩
    have z' := rk_2.mp ((rkI t1.1 2 (by omega)).mp z)
    have u7 : u.1 x 7 = nI t1.2.1 := by rw [hu, rI_nj (by omega)]; exact hc.2.2.2.1 z'
    rw [u7, e2 u hRu, hhi]
    refine sX10_inN (lo := 0) (by omega) (by omega) (by omega) ?_
    have e : inR t1 0 (D.1 - 1) = (decide (0 ≤ t1.2.1) && decide (t1.2.1 ≤ D.1 - 1)) := by unfold inR; rw [decide_eq_true z', Bool.true_and]
    rw [← e, z1]
    exact ⟨fun _ => t60, fun y => absurd rfl y⟩
  rw [htok2] at hc1
  have r1 := inR_iff.mp z1
  rw [z1, if_pos rfl] at hQ0 hQ1
  have h8u1 : u1.1 x 8 = -1 := by rw [hf1.2 8 (by omega)]; exact hw
  have hRu1 := hR.frx hf1
  have hTu1 := h.frx hf1
  have bad : (inR t2 0 (D.1 - 1) && decide (t2.2.1 ≠ t1.2.1) && (lnB D.2.1 t1.2.1 t2.2.1).isNone) = false → wX10_readsLane_88 Q x (nI D.2.1.length) (nI t1.2.1) x u1 := fun zb => by
    rw [zb] at hQ0
    unfold wX10_readsLane_88 wX10_readsLane_89
    refine sX10_takes0 h8u1 hc1.2.2.1 (fun u hu => ?_)
    have u8 : u.1 x 8 = nI t2.2.2.1 := by rw [hu, rI_eq]
    have hfu : FrD x s u := by rw [hu]; exact (FrD.X hf1).f
    exact laneF h6 (by omega) u8 (by rw [hu, rI_ne (by omega)]; exact hRu1.2.1) (fun v hv hv8 => hQ0 v (hfu.tr hv) rfl (show t2.2.2.1 ≤ 200 by omega) hv8)
  have bad60 : (inR t2 0 (D.1 - 1) && decide (t2.2.1 ≠ t1.2.1) && (lnB D.2.1 t1.2.1 t2.2.1).isNone) = false → wX10_readsLane_60 Q x (nI D.2.1.length) (nI t1.2.1) u1 := fun zb => by
    unfold wX10_readsLane_60 wX10_readsLane_61
    exact ⟨fun _ => bad zb, fun z => absurd rfl z⟩
  rw [hc1.2.1]
  refine ⟨fun z => bad60 ?_, fun z => ⟨vp_in_nI (n := 2) (by omega) (by omega), ?_⟩⟩
  · have : inR t2 0 (D.1 - 1) = false := by
      rw [Bool.eq_false_iff]
      intro y
      exact z ((rkI t2.1 2 (by omega)).mpr (rk_2.mpr (inR_iff.mp y).1))
    rw [this, Bool.false_and, Bool.false_and]
  have z' := rk_2.mp ((rkI t2.1 2 (by omega)).mp z)
  rw [hc1.2.2.2.1 z', e2 u1 hRu1, hhi]
  refine sX10_inN (lo := 0) (by omega) (by omega) (by omega) ?_
  have e : inR t2 0 (D.1 - 1) = (decide (0 ≤ t2.2.1) && decide (t2.2.1 ≤ D.1 - 1)) := by unfold inR; rw [decide_eq_true z', Bool.true_and]
  rw [← e]
  cases z2 : inR t2 0 (D.1 - 1) with
  | false => exact ⟨fun _ => bad60 (by rw [z2, Bool.false_and, Bool.false_and]), fun y => absurd rfl y⟩
  | true =>
    have r2 := inR_iff.mp z2
    refine ⟨fun y => absurd y (show ¬ (1 : Int32) = 0 by decide), fun _ => ?_⟩
    rw [hc1.2.2.2.1 z']
    refine ⟨fun y => bad60 ?_, fun y => ?_⟩
    · have y' := nI_inj (by omega) (by omega) y
      rw [decide_eq_false (show ¬ t2.2.1 ≠ t1.2.1 from fun w => w y'), Bool.and_false, Bool.false_and]
    have y' : t2.2.1 ≠ t1.2.1 := fun w => y (by rw [w])
    unfold wX10_readsLane_61
    refine ⟨fun w => absurd w (by decide), fun _ => ?_⟩
    rw [hc1.2.2.2.1 z']
    have hls : ∀ (l p q sp : Nat), D.2.1[l]? = some (p, q, sp) → p < 100 ∧ q < 100 := fun l p q sp hl => by
      have := hok.1.2.2.2.1 l p q sp hl
      have h5' : p < D.1 := this.1
      have h6' : q < D.1 := this.2.1
      exact ⟨by omega, by omega⟩
    have hla : lanesAt x 6 D.2.1 u1 := fun l a b sp hl => ⟨(hRu1.2.2.1 l a b sp hl).1, (hRu1.2.2.1 l a b sp hl).2.1⟩
    refine sX10_laneOf (o := 6) (ls := D.2.1) hla (by omega) hls (by omega) (by omega) ?_
    have hln := lnI_none (ls := D.2.1) (a := t1.2.1) (b := t2.2.1) (by omega)
    refine ⟨fun cl => bad ?_, fun cl => ?_⟩
    · have : (lnB D.2.1 t1.2.1 t2.2.1).isNone = false := by
        cases hy : (lnB D.2.1 t1.2.1 t2.2.1).isNone with
        | false => rfl
        | true => exact absurd (hln.mpr hy) cl
      rw [this, Bool.and_false]
    have hnone := hln.mp cl
    rw [z2, decide_eq_true y', hnone, Bool.and_self, Bool.and_self, if_pos rfl] at hQ0 hQ1
    unfold wX10_readsLane_89
    refine sX10_takesT hTu1 hT hT2 h8u1 (by decide) (by omega) hc1.1 (fun u2 hf2 hc2 => ?_)
    rw [htok3] at hc2
    rw [hc1.2.2.2.1 z']
    have h8u2 : u2.1 x 8 = -1 := by rw [hf2.2 8 (by omega)]; exact h8u1
    have hRu2 := hRu1.frx hf2
    have hTu2 := hTu1.frx hf2
    have hfs2 := hf1.tr hf2
    show wX10_number x (1 : Int32) (5 : Int32) u2 (lnK x (nI D.2.1.length) (nI t1.2.1) (nI t2.2.1) Q)
    refine sX10_numberW (lo := 1) (hi := 5) hTu2 hT hT2 h8u2 hc2 (by omega) (by omega) (by omega) (by omega) (fun z3 u3 hf3 hc3 => ?_) (fun z3 u hu => ?_)
    rotate_left
    · rw [z3] at hQ0
      have u8 : u.1 x 8 = nI t3.2.2.1 := by rw [hu, rI_eq]
      have hfu : FrD x s u := by rw [hu]; exact (FrD.X hfs2).f
      exact laneF1 h6 (by omega) u8 (by rw [hu, rI_ne (by omega)]; exact hRu2.2.1) (fun v hv hv8 => hQ0 v (hfu.tr hv) rfl (show t3.2.2.1 ≤ 200 by omega) hv8)
    rw [htok4] at hc3
    rw [z3, if_pos rfl] at hQ0 hQ1
    have r3 := inR_iff.mp z3
    have h8u3 : u3.1 x 8 = -1 := by rw [hf3.2 8 (by omega)]; exact h8u2
    have hRu3 := hRu2.frx hf3
    have hTu3 := hTu2.frx hf3
    have hfs3 := hfs2.tr hf3
    unfold lnK
    rw [show (0 : Int32) + nI D.2.1.length = nI D.2.1.length from by rw [show (0 : Int32) = nI 0 from rfl, nI_add, Nat.zero_add], nI_clamp (by omega)]
    refine ⟨vp_in_nI (by omega) (by omega), fun v hv => ?_⟩
    have hvx : v.1 x = u3.1 x := by rw [hv]; exact rI_ne (by omega)
    have hTv : TextM x T v := hTu3.cg (by rw [hvx]) (by rw [hv]; exact rI_ne (by omega))
    have hcv : CurM x t4 v := by unfold CurM at *; rw [hvx]; exact hc3
    have h8v : v.1 x 8 = -1 := by rw [hvx]; exact h8u3
    have hfv : FrD x s v := by rw [hv]; exact (FrD.X hfs3).d
    refine sX10_numberW (lo := 1) (hi := 9) hTv hT hT2 h8v hcv (by omega) (by omega) (by omega) (by omega) (fun z4 u4 hf4 hc4 => ?_) (fun z4 u hu => ?_)
    rotate_left
    · rw [z4] at hQ0
      have u8 : u.1 x 8 = nI t4.2.2.1 := by rw [hu, rI_eq]
      have hfu : FrD x s u := by rw [hu]; exact hfv.f
      exact laneF2 h6 u8 (by rw [hu, rI_ne (by omega), hv, rI_ne (by omega)]; exact hRu3.2.1) (fun w hw' hw8 => hQ0 w (hfu.tr hw') rfl (show t4.2.2.1 ≤ 200 by omega) hw8)
    rw [htok5] at hc4
    rw [z4, if_pos rfl] at hQ1
    have h8u4 : u4.1 x 8 = -1 := by rw [hf4.2 8 (by omega)]; exact h8v
    have c4 : ∀ c, 0 < c → u4.1 (x + c) = v.1 (x + c) := fun c hc => hf4.1.1 _ (by omega)
    have c4' : ∀ c, 0 < c → c ≠ 6 → u4.1 (x + c) = u3.1 (x + c) := fun c hc h6' => by rw [c4 c hc, hv]; exact rI_ne (by omega)
    refine lnK2_go h6 (by rw [c4' 2 (by omega) (by omega)]; exact hRu3.2.1) (fun w hw' => ?_)
    have wx : w.1 x = u4.1 x := by rw [hw', rI_ne (by omega), rI_ne (by omega), rI_ne (by omega), rI_ne (by omega)]
    have hfw : FrD x s w := by
      rw [hw']
      exact ((((hfv.tr (FrD.X hf4)).l (c := 5) (by omega) (by omega) (by omega)).l (c := 3) (by omega) (by omega) (by omega)).l (c := 4) (by omega) (by omega) (by omega)).m (by omega)
    refine hQ1 w t5 _ hfw (by rw [wx]; exact h8u4) (by unfold CurM at *; rw [wx]; exact hc4) (by omega) (by omega) (by omega) ?_ rfl
    refine ⟨?_, ?_, fun l a b sp hl => ?_, ?_⟩
    · rw [hw', rI_nj (by omega), rI_ne (by omega), rI_ne (by omega), rI_ne (by omega), c4' 2 (by omega) (by omega)]; exact hRu3.1
    · rw [hw', rI_eq]
      show _ = nI (D.2.1 ++ [(t1.2.1, t2.2.1, t4.2.1)]).length
      rw [List.length_append]; rfl
    · have hl' : (D.2.1 ++ [(t1.2.1, t2.2.1, t4.2.1)])[l]? = some (a, b, sp) := hl
      by_cases c : l < D.2.1.length
      · rw [List.getElem?_append_left c] at hl'
        have := hRu3.2.2.1 l a b sp hl'
        refine ⟨?_, ?_, ?_⟩
        · rw [hw', rI_ne (by omega), rI_ne (by omega), rI_nj (by omega), rI_ne (by omega), c4' 3 (by omega) (by omega)]; exact this.1
        · rw [hw', rI_ne (by omega), rI_nj (by omega), rI_ne (by omega), rI_ne (by omega), c4' 4 (by omega) (by omega)]; exact this.2.1
        · rw [hw', rI_ne (by omega), rI_ne (by omega), rI_ne (by omega), rI_nj (by omega), c4' 5 (by omega) (by omega)]; exact this.2.2
      · have hll := (List.getElem?_eq_some_iff.mp hl').1
        rw [List.length_append] at hll
        have el : l = D.2.1.length := by simp at hll; omega
        rw [el, List.getElem?_append_right (Nat.le_refl _), Nat.sub_self] at hl'
        have hl2 : (t1.2.1, t2.2.1, t4.2.1) = (a, b, sp) := Option.some.inj hl'
        injection hl2 with ea eb
        injection eb with eb ec
        rw [el, ← ea, ← eb, ← ec]
        refine ⟨?_, ?_, ?_⟩
        · rw [hw', rI_ne (by omega), rI_ne (by omega), rI_eq]
        · rw [hw', rI_ne (by omega), rI_eq]
        · rw [hw', rI_ne (by omega), rI_ne (by omega), rI_ne (by omega), rI_eq]
    · have e6 : ∀ j, w.1 (x + 6) j = if j = D.2.1.length then nI t3.2.1 else u3.1 (x + 6) j := fun j => by
        rw [hw', rI_ne (by omega), rI_ne (by omega), rI_ne (by omega), rI_ne (by omega), c4 6 (by omega), hv]
        by_cases c : j = D.2.1.length
        · subst c; rw [rI_eq, if_pos rfl]
        · rw [rI_nj c, if_neg c]
      obtain ⟨n1, n2, n3, n4, n5, n6⟩ := hRu3.2.2.2
      refine ⟨?_, by rw [e6, if_neg (by omega)]; exact n2, fun m r hr => ?_, rowAt.nil, by rw [e6, if_neg (by omega)]; exact n5, by rw [e6, if_neg (by omega)]; exact n6⟩
      · refine n1.app (fun k hk => ?_) ?_
        · have hk' : k < D.2.2.1.length := hk
          rw [e6, if_neg (by omega)]
        · show w.1 (x + 6) (0 + D.2.2.1.length) = _
          rw [e6, if_pos (by omega)]
      · obtain ⟨a1, a2⟩ := n3 m r hr
        exact ⟨by rw [e6, if_neg (by omega)]; exact a1, a2.cg (fun k hk => by rw [e6, if_neg (by omega)])⟩
end ITM
