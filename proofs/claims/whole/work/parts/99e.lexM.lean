/-! the reference: its tokens -/
def rk (k : Nat) : Nat := if k = 0 then 0 else if k = 1 then 2 else if k = 2 then 4 else if k = 59 then 3 else 1
def CurM (x : Nat) (t : Tk) (u : St) : Prop := u.1 x 4 = nI t.2.2.2 ∧ u.1 x 5 = nI (rk t.1) ∧ u.1 x 6 = nI t.2.2.1 ∧ (t.1 = 1 → u.1 x 7 = nI t.2.1) ∧ (59 ≤ t.1 → u.1 x 7 = nI t.1)
def ltI (T : List Nat) (p : Nat) : Int32 := match T[p]? with
  | some a => nI a
  | none => -1
/-- all but what the reading of a token changes -/
def FrX (x : Nat) (s u : St) : Prop := Fr (fun k => k = x) s u ∧ ∀ j, j < 4 ∨ 7 < j → u.1 x j = s.1 x j
theorem FrX.rf {x : Nat} {s : St} : FrX x s s := ⟨Fr.rf, fun _ _ => rfl⟩
theorem FrX.tr {x : Nat} {s t u : St} (h : FrX x s t) (h2 : FrX x t u) : FrX x s u := ⟨h.1.tr h2.1, fun j hj => (h2.2 j hj).trans (h.2 j hj)⟩
theorem FrX.I {x j : Nat} {s t : St} {v : Int32} (h : FrX x s t) (h1 : 4 ≤ j) (h2 : j ≤ 7) : FrX x s (stI t x j v) := ⟨h.1.I rfl, fun i hi => by rw [rI_nj (by omega)]; exact h.2 i hi⟩
section LXM
variable {x : Nat} {s : St} {T : List Nat}
theorem TextM.frx {u : St} (h : TextM x T s) (hf : FrX x s u) : TextM x T u := h.cg (hf.2 3 (by omega)) (hf.1.1 _ (by omega))
theorem sX10_letterAt {p : Nat} {Q : Int32 → St → Prop} (h : TextM x T s) (hT : T.length ≤ 120) (hp : p ≤ 200) (hQ : Q (ltI T p) s) : wX10_letterAt x (nI p) s Q := by
  unfold ltI at hQ
  unfold wX10_letterAt
  rw [h.1]
  refine ⟨fun c => ?_, fun c => ?_⟩
  · have c' := (nI_leI (by omega) (by omega)).mp c
    rw [List.getElem?_eq_none c'] at hQ
    exact hQ
  · have c' : p < T.length := by
      rcases Nat.lt_or_ge p T.length with y | y
      · exact y
      · exact absurd ((nI_leI (by omega) (by omega)).mpr y) c
    refine ⟨vp_in_nI (by omega) (by omega), ?_⟩
    have e : T[p]? = some T[p] := List.getElem?_eq_getElem c'
    rw [e] at hQ
    have := h.2 p _ e
    rw [Nat.zero_add] at this
    rw [nI_clamp (by omega), this]
    exact hQ
theorem sX10_inD {a : Nat} {Q : Int32 → St → Prop} (ha : a ≤ 255) (hQ : Q (if isDg a then 1 else 0) s) : wX10_in (nI a) 48 57 s Q := by
  have no : isDg a = false → Q 0 s := fun h => by rw [h] at hQ; exact hQ
  unfold wX10_in
  refine ⟨fun c => no ?_, fun c => ⟨fun c2 => no ?_, fun c2 => ?_⟩⟩
  · have c' := (nI_ltI (b := 48) (by omega) (by omega)).mp c
    rw [Bool.eq_false_iff]; intro z; have := isDg_iff.mp z; omega
  · have c' := (nI_ltI (a := 57) (by omega) (by omega)).mp c2
    rw [Bool.eq_false_iff]; intro z; have := isDg_iff.mp z; omega
  · have c1' : 48 ≤ a := by
      rcases Nat.lt_or_ge a 48 with y | y
      · exact absurd ((nI_ltI (b := 48) (by omega) (by omega)).mpr y) c
      · exact y
    have c2' : a ≤ 57 := by
      rcases Nat.lt_or_ge 57 a with y | y
      · exact absurd ((nI_ltI (a := 57) (by omega) (by omega)).mpr y) c2
      · exact y
    rw [isDg_iff.mpr ⟨c1', c2'⟩] at hQ
    exact hQ
theorem ltI_some {p a : Nat} (h : T[p]? = some a) : ltI T p = nI a := by unfold ltI; rw [h]
theorem ltI_none {p : Nat} (h : T.drop p = []) : ltI T p = -1 := by
  unfold ltI
  rw [List.getElem?_eq_none (List.drop_eq_nil_iff.mp h)]
theorem sX10_advances {p : Nat} {Q : St → Prop} (h : TextM x T s) (hT : T.length ≤ 120) (hT2 : ∀ a ∈ T, a ≤ 255) (hp : p ≤ T.length) (e4 : s.1 x 4 = nI p) (hQ : ∀ u, FrX x s u → CurM x (tok T p) u → Q u) : wX10_advances x s Q := by
  have skip : ∀ (K : St → Prop) (q : Nat), (∀ u, FrX x s u → u.1 x 4 = nI q → K u) → ∀ (r : List Nat) (p : Nat) (u : St), T.drop p = r → p ≤ T.length → p + spN r = q → FrX x s u → u.1 x 4 = nI p → wX10_advances_0 x K Q (r.length + 1) u := by
    intro K q hK r
    induction r with
    | nil =>
      intro p u hd hpl hpq hf h4
      unfold wX10_advances_0
      rw [h4]
      refine sX10_letterAt (h.frx hf) hT (by omega) ?_
      rw [ltI_none hd]
      exact ⟨fun _ => hK u hf (by rw [h4, ← hpq]; rfl), fun z => absurd z (by decide)⟩
    | cons a r ih =>
      intro p u hd hpl hpq hf h4
      obtain ⟨d1, d2, d3⟩ := drop_at hd
      have ha := hT2 a (List.mem_of_getElem? d1)
      show wX10_advances_0 x K Q (r.length + 1 + 1) u
      unfold wX10_advances_0
      unfold spN at hpq
      rw [h4]
      refine sX10_letterAt (h.frx hf) hT (by omega) ?_
      rw [ltI_some d1, h4]
      refine ⟨fun c => ?_, fun c t ht => ?_⟩
      · rw [if_neg (fun z => c (by rw [z]; rfl))] at hpq
        exact hK u hf (by rw [h4, ← hpq]; rfl)
      · rw [if_pos (nI_inj (b := 32) (by omega) (by omega) c)] at hpq
        rw [show nI p + (1 : Int32) = nI (p + 1) from (nI_succ _).symm] at ht
        exact ih (p + 1) t d2 (by omega) (by omega) (by rw [ht]; exact hf.I (by omega) (by omega)) (by rw [ht, rI_eq])
  have digs : ∀ (K : St → Prop) (x1 : Int32) (q n v : Nat), (∀ u, FrX x s u → u.1 x 6 = nI q → u.1 x 4 = nI n → u.1 x 7 = nI v → K u) → ∀ (r : List Nat) (p w : Nat) (u : St), T.drop p = r → p ≤ T.length → p + dgN r = n → dgV w r = v → w ≤ 999 → FrX x s u → u.1 x 6 = nI q → u.1 x 4 = nI p → u.1 x 7 = nI w → wX10_advances_71 x x1 K Q (r.length + 1) u := by
    intro K x1 q n v hK r
    induction r with
    | nil =>
      intro p w u hd hpl hpn hv hw hf h6 h4 h7
      unfold wX10_advances_71
      rw [h4]
      refine sX10_letterAt (h.frx hf) hT (by omega) ?_
      rw [ltI_none hd]
      unfold wX10_in
      refine ⟨fun _ => ⟨fun _ => hK u hf h6 (by rw [h4, ← hpn]; rfl) (by rw [h7, ← hv]; rfl), fun z => absurd rfl z⟩, fun z => absurd (by decide) z⟩
    | cons a r ih =>
      intro p w u hd hpl hpn hv hw hf h6 h4 h7
      obtain ⟨d1, d2, d3⟩ := drop_at hd
      have ha := hT2 a (List.mem_of_getElem? d1)
      show wX10_advances_71 x x1 K Q (r.length + 1 + 1) u
      unfold wX10_advances_71 wX10_advances_125
      unfold dgN at hpn
      unfold dgV at hv
      rw [h4]
      refine sX10_letterAt (h.frx hf) hT (by omega) ?_
      rw [ltI_some d1]
      refine sX10_inD ha ?_
      cases hy : isDg a with
      | false =>
        rw [hy] at hpn hv
        exact ⟨fun _ => hK u hf h6 (by rw [h4, ← hpn]; rfl) (by rw [h7, ← hv]; rfl), fun z => absurd rfl z⟩
      | true =>
        rw [hy, if_pos rfl] at hpn hv
        have hd1 := isDg_iff.mp hy
        refine ⟨fun z => absurd z (show ¬ (1 : Int32) = 0 by decide), fun _ => ?_⟩
        rw [h7, h4]
        have go : ∀ (val : Int32), val = nI (dgS w a) → ∀ b, b = stI u x 7 val → ∀ e, e = stI b x 4 (b.1 x 4 + (1 : Int32)) → wX10_advances_71 x x1 K Q (r.length + 1) e := by
          intro val hval b hb e he
          have b4 : b.1 x 4 = nI p := by rw [hb, rI_nj (by omega)]; exact h4
          rw [b4, show nI p + (1 : Int32) = nI (p + 1) from (nI_succ _).symm] at he
          refine ih (p + 1) (dgS w a) e d2 (by omega) (by omega) hv (dgS_le hw hy) (by rw [he, hb]; exact (hf.I (by omega) (by omega)).I (by omega) (by omega)) ?_ (by rw [he, rI_eq]) ?_
          · rw [he, rI_nj (by omega), hb, rI_nj (by omega)]; exact h6
          · rw [he, rI_nj (by omega), hb, rI_eq]; exact hval
        refine ⟨fun z => ?_, fun z => go _ ?_⟩
        · refine sX10_letterAt (h.frx hf) hT (by omega) (go _ ?_)
          have z' := (nI_leI (b := 99) (by omega) (by omega)).mp z
          rw [ltI_some d1, show (10 : Int32) = nI 10 from rfl, show (48 : Int32) = nI 48 from rfl, pk_mul, nI_add, nI_sub (by omega), Nat.mul_comm]
          unfold dgS
          rw [if_neg (by omega)]
        · have z' : 99 < w := by
            rcases Nat.lt_or_ge 99 w with y | y
            · exact y
            · exact absurd ((nI_leI (b := 99) (by omega) (by omega)).mpr y) z
          unfold dgS
          rw [if_pos z']
  have hsp := spN_le (T.drop p)
  rw [List.length_drop] at hsp
  unfold wX10_advances
  unfold tok at hQ
  refine ⟨_, skip _ (p + spN (T.drop p)) ?_ (T.drop p) p s rfl hp rfl FrX.rf e4⟩
  generalize hq : p + spN (T.drop p) = q at hQ
  have hql : q ≤ T.length := by omega
  intro u hf h4 t ht
  rw [h4] at ht
  have hft : FrX x s t := by rw [ht]; exact hf.I (by omega) (by omega)
  have t4 : t.1 x 4 = nI q := by rw [ht, rI_nj (by omega)]; exact h4
  have t6 : t.1 x 6 = nI q := by rw [ht, rI_eq]
  have fin : ∀ (tk : Tk) (w : St) (r : Int32), FrX x s w → w.1 x 4 = nI tk.2.2.2 → w.1 x 6 = nI tk.2.2.1 → r = nI (rk tk.1) → (tk.1 = 1 → w.1 x 7 = nI tk.2.1) → (59 ≤ tk.1 → w.1 x 7 = nI tk.1) → tk = tokA q (T.drop q) → ∀ e, e = stI w x 5 r → Q e := by
    intro tk w r hfw w4 w6 hr w7 w7' htk e he
    rw [← htk] at hQ
    refine hQ e (by rw [he]; exact hfw.I (by omega) (by omega)) ⟨?_, ?_, ?_, fun z => ?_, fun z => ?_⟩
    · rw [he, rI_nj (by omega)]; exact w4
    · rw [he, rI_eq]; exact hr
    · rw [he, rI_nj (by omega)]; exact w6
    · rw [he, rI_nj (by omega)]; exact w7 z
    · rw [he, rI_nj (by omega)]; exact w7' z
  rw [t4]
  refine sX10_letterAt (h.frx hft) hT (by omega) ?_
  cases hr : T.drop q with
  | nil =>
    rw [ltI_none hr]
    refine ⟨fun z => absurd z (by decide), fun _ e he => ?_⟩
    exact fin (0, 0, q, q) t 0 hft t4 t6 rfl (fun y => by cases y) (fun y => absurd y (show ¬ 59 ≤ 0 by decide)) (by rw [hr]; rfl) e he
  | cons a r =>
    obtain ⟨d1, d2, d3⟩ := drop_at hr
    have ha := hT2 a (List.mem_of_getElem? d1)
    rw [ltI_some d1]
    refine ⟨fun _ => ?_, fun z => absurd (nI_pos' (by omega)) z⟩
    refine sX10_inD ha ?_
    cases hdg : isDg a with
    | false =>
      have ta : tokA q (a :: r) = ((if isLt a then a else 2), 0, q, q + 1) := by rw [tokA_cons, hdg]; rfl
      refine ⟨fun _ => ?_, fun z => absurd rfl z⟩
      intro b hb e he
      rw [t4, show nI q + (1 : Int32) = nI (q + 1) from (nI_succ _).symm] at hb
      have hfe : FrX x s e := by rw [he, hb]; exact (hft.I (by omega) (by omega)).I (by omega) (by omega)
      have e4' : e.1 x 4 = nI (q + 1) := by rw [he, rI_nj (by omega), hb, rI_eq]
      have e6 : e.1 x 6 = nI q := by rw [he, rI_nj (by omega), hb, rI_nj (by omega)]; exact t6
      have e7 : e.1 x 7 = nI a := by rw [he, rI_eq]
      have yes : ∀ (rr : Int32), isLt a = true → rr = nI (rk a) → ∀ e2, e2 = stI e x 5 rr → Q e2 := fun rr hy hrr => by
        rw [hy, if_pos rfl] at ta
        refine fin (a, 0, q, q + 1) e rr hfe e4' e6 hrr (fun y => ?_) (fun _ => e7) (by rw [hr, ta])
        unfold isLt at hy
        have := of_decide_eq_true hy
        have y' : a = 1 := y
        omega
      have no : isLt a = false → ∀ e2, e2 = stI e x 5 4 → Q e2 := fun hy => by
        rw [hy] at ta
        exact fin (2, 0, q, q + 1) e 4 hfe e4' e6 rfl (fun y => by cases y) (fun y => absurd y (show ¬ 59 ≤ 2 by decide)) (by rw [hr, ta]; rfl)
      unfold wX10_advances_225 wX10_advances_230
      refine ⟨fun y4 => ⟨fun y => yes 1 ?_ ?_, fun y => ⟨fun y2 => yes 1 ?_ ?_, fun y2 => ⟨fun y3 => no ?_, fun y3 => yes 1 ?_ ?_⟩⟩⟩, fun y4 => yes 3 ?_ ?_⟩
      · exact decide_eq_true (Or.inl (nI_inj (b := 110) (by omega) (by omega) y))
      · rw [nI_inj (b := 110) (by omega) (by omega) y]; rfl
      · exact decide_eq_true (Or.inr (Or.inl (nI_inj (b := 108) (by omega) (by omega) y2)))
      · rw [nI_inj (b := 108) (by omega) (by omega) y2]; rfl
      · refine decide_eq_false (fun w => ?_)
        rcases w with w | w | w | w
        · exact y (by rw [w]; rfl)
        · exact y2 (by rw [w]; rfl)
        · exact y3 (by rw [w]; rfl)
        · exact y4 (by rw [w]; rfl)
      · exact decide_eq_true (Or.inr (Or.inr (Or.inl (nI_inj (b := 109) (by omega) (by omega) y3))))
      · rw [nI_inj (b := 109) (by omega) (by omega) y3]; rfl
      · exact decide_eq_true (Or.inr (Or.inr (Or.inr (nI_inj (b := 59) (by omega) (by omega) y4))))
      · rw [nI_inj (b := 59) (by omega) (by omega) y4]; rfl
    | true =>
      refine ⟨fun z => absurd z (show ¬ (1 : Int32) = 0 by decide), fun _ b hb => ?_⟩
      have hfb : FrX x s b := by rw [hb]; exact hft.I (by omega) (by omega)
      refine ⟨_, digs _ _ q (q + dgN (T.drop q)) (dgV 0 (T.drop q)) ?_ (T.drop q) q 0 b rfl hql rfl rfl (by omega) hfb (by rw [hb, rI_nj (by omega)]; exact t6) (by rw [hb, rI_nj (by omega)]; exact t4) (by rw [hb, rI_eq]; rfl)⟩
      intro v hfv k6 k4 k7
      have hdl := dgN_le (T.drop q)
      rw [List.length_drop] at hdl
      rw [hr] at k4 k7 hdl
      have hvl := dgV_le (a :: r) 0 (by omega)
      have ta : tokA q (a :: r) = ((if (1 < dgN (a :: r) ∧ a = 48) ∨ 99 < dgV 0 (a :: r) then 2 else 1), dgV 0 (a :: r), q, q + dgN (a :: r)) := by rw [tokA_cons, if_pos hdg]
      have bad : ((1 < dgN (a :: r) ∧ a = 48) ∨ 99 < dgV 0 (a :: r)) → ∀ e2, e2 = stI v x 5 4 → Q e2 := fun hy => by
        rw [if_pos hy] at ta
        exact fin (2, dgV 0 (a :: r), q, q + dgN (a :: r)) v 4 hfv k4 k6 rfl (fun y => by cases y) (fun y => absurd y (show ¬ 59 ≤ 2 by decide)) (by rw [hr, ta])
      have good : ¬ ((1 < dgN (a :: r) ∧ a = 48) ∨ 99 < dgV 0 (a :: r)) → ∀ e2, e2 = stI v x 5 2 → Q e2 := fun hy => by
        rw [if_neg hy] at ta
        exact fin (1, dgV 0 (a :: r), q, q + dgN (a :: r)) v 2 hfv k4 k6 rfl (fun _ => k7) (fun y => absurd y (show ¬ 59 ≤ 1 by decide)) (by rw [hr, ta])
      unfold wX10_advances_170 wX10_advances_174 wX10_advances_175
      rw [k7, k4, k6, nI_sub (by omega), Nat.add_sub_cancel_left]
      refine ⟨fun c => bad (Or.inr ((nI_ltI (a := 99) (by omega) (by omega)).mp c)), fun c => ?_⟩
      have c' : ¬ 99 < dgV 0 (a :: r) := fun z => c ((nI_ltI (a := 99) (by omega) (by omega)).mpr z)
      refine ⟨fun c2 => good (fun w => ?_), fun c2 => ⟨fun c3 => good (fun w => ?_), fun c3 => bad (Or.inl ⟨?_, nI_inj (b := 48) (by omega) (by omega) c2⟩)⟩⟩
      · rcases w with w | w
        · exact c2 (by rw [w.2]; rfl)
        · exact c' w
      · have := (nI_leI (b := 1) (by omega) (by omega)).mp c3
        rcases w with w | w
        · omega
        · exact c' w
      · rcases Nat.lt_or_ge 1 (dgN (a :: r)) with w | w
        · exact w
        · exact absurd ((nI_leI (b := 1) (by omega) (by omega)).mpr w) c3
end LXM
