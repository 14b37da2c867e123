/-! the text: its tokens, on both sides -/
def isDg (a : Nat) : Bool := decide (48 ≤ a) && decide (a ≤ 57)
def spN : List Nat → Nat
  | [] => 0
  | a :: r => if a = 32 then spN r + 1 else 0
def dgN : List Nat → Nat
  | [] => 0
  | a :: r => if isDg a then dgN r + 1 else 0
def dgS (v a : Nat) : Nat := if 99 < v then v else v * 10 + a - 48
def dgV (v : Nat) : List Nat → Nat
  | [] => v
  | a :: r => if isDg a then dgV (dgS v a) r else v
/-- what it is (0: the end, 1: a number, 2: wrong, else the letter), its value, its place, the next place -/
abbrev Tk : Type := Nat × Nat × Nat × Nat
def isLt (a : Nat) : Bool := decide (a = 110 ∨ a = 108 ∨ a = 109 ∨ a = 59)
def tokA (q : Nat) : List Nat → Tk
  | [] => (0, 0, q, q)
  | a :: r => if isDg a then ((if (1 < dgN (a :: r) ∧ a = 48) ∨ 99 < dgV 0 (a :: r) then 2 else 1), dgV 0 (a :: r), q, q + dgN (a :: r)) else ((if isLt a then a else 2), 0, q, q + 1)
theorem tokA_cons (q a : Nat) (r : List Nat) : tokA q (a :: r) = if isDg a then ((if (1 < dgN (a :: r) ∧ a = 48) ∨ 99 < dgV 0 (a :: r) then 2 else 1), dgV 0 (a :: r), q, q + dgN (a :: r)) else ((if isLt a then a else 2), 0, q, q + 1) := rfl
def tok (T : List Nat) (p : Nat) : Tk := tokA (p + spN (T.drop p)) (T.drop (p + spN (T.drop p)))
theorem spN_le : ∀ r, spN r ≤ r.length
  | [] => Nat.le_refl _
  | a :: r => by have := spN_le r; unfold spN; split <;> simp <;> omega
theorem dgN_le : ∀ r, dgN r ≤ r.length
  | [] => Nat.le_refl _
  | a :: r => by have := dgN_le r; unfold dgN; split <;> simp <;> omega
theorem isDg_iff {a : Nat} : isDg a = true ↔ 48 ≤ a ∧ a ≤ 57 := by
  unfold isDg
  rw [Bool.and_eq_true, decide_eq_true_iff, decide_eq_true_iff]
theorem dgS_le {v a : Nat} (hv : v ≤ 999) (ha : isDg a = true) : dgS v a ≤ 999 := by
  have := isDg_iff.mp ha
  unfold dgS
  split <;> omega
theorem dgV_le : ∀ (r : List Nat) (v : Nat), v ≤ 999 → dgV v r ≤ 999
  | [], v, h => h
  | a :: r, v, h => by
    unfold dgV
    split
    · rename_i c
      exact dgV_le r _ (dgS_le h c)
    · exact h
theorem tok_facts {T : List Nat} {p : Nat} (hp : p ≤ T.length) : p ≤ (tok T p).2.2.1 ∧ (tok T p).2.2.1 ≤ (tok T p).2.2.2 ∧ (tok T p).2.2.2 ≤ T.length ∧ (tok T p).2.1 ≤ 999 ∧ (tok T p).1 ≤ 110 ∧ ((tok T p).1 ≠ 0 → (tok T p).2.2.1 < (tok T p).2.2.2) ∧ ((tok T p).1 = 1 → (tok T p).2.1 ≤ 99) := by
  have h1 := spN_le (T.drop p)
  rw [List.length_drop] at h1
  unfold tok
  generalize hq : p + spN (T.drop p) = q
  have hql : q ≤ T.length := by omega
  cases hr : T.drop q with
  | nil => exact ⟨by show p ≤ q; omega, Nat.le_refl _, hql, by show 0 ≤ 999; omega, by show 0 ≤ 110; omega, fun z => absurd rfl z, fun z => by cases z⟩
  | cons a r =>
    have hl : T.length - q = r.length + 1 := by
      have := congrArg List.length hr
      rw [List.length_drop] at this
      simpa using this
    have hd := dgN_le (a :: r)
    simp only [List.length_cons] at hd
    rw [tokA_cons]
    split
    · rename_i c
      have hd1 : 1 ≤ dgN (a :: r) := by unfold dgN; rw [if_pos c]; omega
      have hv := dgV_le (a :: r) 0 (by omega)
      refine ⟨by dsimp only; omega, by dsimp only; omega, by dsimp only; omega, hv, by dsimp only; split <;> omega, fun _ => by dsimp only; omega, fun z => ?_⟩
      dsimp only at z ⊢
      split at z
      · omega
      · rename_i c2
        omega
    · refine ⟨by dsimp only; omega, by dsimp only; omega, by dsimp only; omega, by dsimp only; omega, ?_, fun _ => by dsimp only; omega, fun _ => by dsimp only; omega⟩
      dsimp only
      split
      · rename_i c2
        unfold isLt at c2
        have := of_decide_eq_true c2
        omega
      · omega
theorem tok_end {T : List Nat} {p : Nat} (hp : p ≤ T.length) (h : (tok T p).1 ≠ 0) : (tok T p).2.2.1 < T.length := by
  have := tok_facts hp
  omega
theorem drop_at {T : List Nat} {p a : Nat} {r : List Nat} (h : T.drop p = a :: r) : T[p]? = some a ∧ T.drop (p + 1) = r ∧ p < T.length := by
  refine ⟨?_, ?_, ?_⟩
  · rw [← List.head?_drop, h]; rfl
  · rw [← List.drop_drop, h]; rfl
  · rcases Nat.lt_or_ge p T.length with c | c
    · exact c
    · rw [List.drop_eq_nil_of_le c] at h; cases h
/-! the class -/
def CurC (t : Tk) (u : St) : Prop := u.1 1 2 = nI t.2.2.1 ∧ u.1 1 3 = nI t.2.2.2 ∧ u.1 1 4 = nI t.1 ∧ (t.1 = 1 → u.1 1 5 = nI t.2.1)
section LXC
variable {s : St} {T : List Nat}
theorem TextC.let {p a : Nat} (h : TextC T s) (ha : T[p]? = some a) : s.1 2 p = nI a := by
  have := h.2 p a ha
  rw [Nat.zero_add] at this
  exact this
theorem sX7_step {p : Nat} {Q : St → Prop} (h : TextC T s) (hT : T.length ≤ 120) (hT2 : ∀ a ∈ T, a ≤ 255) (hp : p ≤ T.length) (e3 : s.1 1 3 = nI p) (hQ : ∀ u, Fr (fun k => k = 1) s u → TextC T u → CurC (tok T p) u → Q u) : wX7_step 1 s Q := by
  have text : ∀ u, Fr (fun k => k = 1) s u → u.1 1 0 = s.1 1 0 → TextC T u := fun u hf h0 => by
    unfold TextC at *
    rw [h0, hf.1 2 (by omega)]
    exact h
  have skip : ∀ (K : St → Prop) (q : Nat), (∀ u, Fr (fun k => k = 1) s u → u.1 1 0 = s.1 1 0 → u.1 1 3 = nI q → K u) → ∀ (r : List Nat) (p : Nat) (u : St), T.drop p = r → p ≤ T.length → p + spN r = q → Fr (fun k => k = 1) s u → u.1 1 0 = s.1 1 0 → u.1 1 3 = nI p → wX7_step_0 1 K Q (r.length + 1) u := by
    intro K q hK r
    induction r with
    | nil =>
      intro p u hd hpl hpq hf h0 h3
      have hpe : T.length ≤ p := List.drop_eq_nil_iff.mp hd
      have htu := text u hf h0
      unfold wX7_step_0
      rw [h3, htu.1]
      refine ⟨fun _ => hK u hf h0 (by rw [h3, ← hpq]; rfl), fun z => absurd ((nI_leI (by omega) (by omega)).mpr hpe) z⟩
    | cons a r ih =>
      intro p u hd hpl hpq hf h0 h3
      obtain ⟨d1, d2, d3⟩ := drop_at hd
      have htu := text u hf h0
      have ha := hT2 a (List.mem_of_getElem? d1)
      show wX7_step_0 1 K Q (r.length + 1 + 1) u
      unfold wX7_step_0
      rw [h3, htu.1, nI_clamp (show p < 2 ^ 31 by omega), htu.let d1]
      unfold spN at hpq
      refine ⟨fun z => absurd ((nI_leI (by omega) (by omega)).mp z) (by omega), fun _ => ⟨vp_in_nI (by omega) (by omega), fun c => ?_, fun c t ht => ?_⟩⟩
      · rw [if_neg (fun z => c (by rw [z]; rfl))] at hpq
        exact hK u hf h0 (by rw [h3, ← hpq]; rfl)
      · rw [if_pos (nI_inj (b := 32) (by omega) (by omega) c)] at hpq
        rw [show nI p + (1 : Int32) = nI (p + 1) from (nI_succ _).symm] at ht
        refine ih (p + 1) t d2 (by omega) (by omega) (by rw [ht]; exact hf.I rfl) (by rw [ht, rI_nj (by omega)]; exact h0) (by rw [ht, rI_eq])
  have digs : ∀ (K : St → Prop) (q n v : Nat), (∀ u, Fr (fun k => k = 1) s u → u.1 1 0 = s.1 1 0 → u.1 1 2 = nI q → u.1 1 3 = nI n → u.1 1 5 = nI v → K u) → ∀ (r : List Nat) (p w : Nat) (u : St), T.drop p = r → p ≤ T.length → p + dgN r = n → dgV w r = v → w ≤ 999 → Fr (fun k => k = 1) s u → u.1 1 0 = s.1 1 0 → u.1 1 2 = nI q → u.1 1 3 = nI p → u.1 1 5 = nI w → wX7_step_51 1 K Q (r.length + 1) u := by
    intro K q n v hK r
    induction r with
    | nil =>
      intro p w u hd hpl hpn hv hw hf h0 h2 h3 h5
      have hpe : T.length ≤ p := List.drop_eq_nil_iff.mp hd
      have htu := text u hf h0
      unfold wX7_step_51
      rw [h3, htu.1]
      refine ⟨fun _ => hK u hf h0 h2 (by rw [h3, ← hpn]; rfl) (by rw [h5, ← hv]; rfl), fun z => absurd ((nI_leI (by omega) (by omega)).mpr hpe) z⟩
    | cons a r ih =>
      intro p w u hd hpl hpn hv hw hf h0 h2 h3 h5
      obtain ⟨d1, d2, d3⟩ := drop_at hd
      have htu := text u hf h0
      have ha := hT2 a (List.mem_of_getElem? d1)
      show wX7_step_51 1 K Q (r.length + 1 + 1) u
      unfold wX7_step_51 wX7_isDigit wX7_step_114
      rw [h3, htu.1, nI_clamp (show p < 2 ^ 31 by omega), htu.let d1]
      unfold dgN at hpn
      unfold dgV at hv
      refine ⟨fun z => absurd ((nI_leI (by omega) (by omega)).mp z) (by omega), fun _ => ⟨vp_in_nI (by omega) (by omega), ?_⟩⟩
      have no : isDg a = false → K u := fun hn => by
        rw [hn] at hpn hv
        exact hK u hf h0 h2 (by rw [h3, ← hpn]; rfl) (by rw [h5, ← hv]; rfl)
      refine ⟨fun c => ?_, fun c => ⟨fun c2 => ?_, fun c2 => ?_⟩⟩
      · have c' := (nI_ltI (b := 48) (by omega) (by omega)).mp c
        have hn : isDg a = false := by rw [Bool.eq_false_iff]; intro z; have := isDg_iff.mp z; omega
        exact ⟨fun _ => no hn, fun z => absurd rfl z⟩
      · have c' := (nI_ltI (a := 57) (by omega) (by omega)).mp c2
        have hn : isDg a = false := by rw [Bool.eq_false_iff]; intro z; have := isDg_iff.mp z; omega
        exact ⟨fun _ => no hn, fun z => absurd rfl z⟩
      · have c1' : 48 ≤ a := by
          rcases Nat.lt_or_ge a 48 with y | y
          · exact absurd ((nI_ltI (b := 48) (by omega) (by omega)).mpr y) c
          · exact y
        have c2' : a ≤ 57 := by
          rcases Nat.lt_or_ge 57 a with y | y
          · exact absurd ((nI_ltI (a := 57) (by omega) (by omega)).mpr y) c2
          · exact y
        have hy : isDg a = true := isDg_iff.mpr ⟨c1', c2'⟩
        rw [hy, if_pos rfl] at hpn hv
        refine ⟨fun z => absurd z (by decide), fun _ => ?_⟩
        rw [h5, h3, nI_clamp (show p < 2 ^ 31 by omega), htu.let d1]
        have go : ∀ (val : Int32), val = nI (dgS w a) → ∀ b, b = stI u 1 5 val → ∀ e, e = stI b 1 3 (b.1 1 3 + (1 : Int32)) → wX7_step_51 1 K Q (r.length + 1) e := by
          intro val hval b hb e he
          have b3 : b.1 1 3 = nI p := by rw [hb, rI_nj (by omega)]; exact h3
          rw [b3, show nI p + (1 : Int32) = nI (p + 1) from (nI_succ _).symm] at he
          refine ih (p + 1) (dgS w a) e d2 (by omega) (by omega) hv (dgS_le hw hy) (by rw [he, hb]; exact (hf.I rfl).I rfl) ?_ ?_ (by rw [he, rI_eq]) ?_
          · rw [he, rI_nj (by omega), hb, rI_nj (by omega)]; exact h0
          · rw [he, rI_nj (by omega), hb, rI_nj (by omega)]; exact h2
          · rw [he, rI_nj (by omega), hb, rI_eq]; exact hval
        refine ⟨fun z => ⟨vp_in_nI (by omega) (by omega), go _ ?_⟩, fun z => go _ ?_⟩
        · have z' := (nI_leI (b := 99) (by omega) (by omega)).mp z
          rw [show (10 : Int32) = nI 10 from rfl, show (48 : Int32) = nI 48 from rfl, pk_mul, nI_add, nI_sub (by omega)]
          unfold dgS
          rw [if_neg (by omega)]
        · have z' : 99 < w := by
            rcases Nat.lt_or_ge 99 w with y | y
            · exact y
            · exact absurd ((nI_leI (b := 99) (by omega) (by omega)).mpr y) z
          unfold dgS
          rw [if_pos z']
  have hsp := spN_le (T.drop p)
  rw [List.length_drop] at hsp
  unfold wX7_step
  unfold tok at hQ
  refine ⟨_, skip _ (p + spN (T.drop p)) ?_ (T.drop p) p s rfl hp rfl Fr.rf rfl e3⟩
  generalize hq : p + spN (T.drop p) = q at hQ
  have hql : q ≤ T.length := by omega
  intro u hf h0 h3 t1 ht1 t2 ht2
  rw [h3] at ht1
  have hf2 : Fr (fun k => k = 1) s t2 := by rw [ht2, ht1]; exact (hf.I rfl).I rfl
  have g0 : t2.1 1 0 = s.1 1 0 := by rw [ht2, rI_nj (by omega), ht1, rI_nj (by omega)]; exact h0
  have g2 : t2.1 1 2 = nI q := by rw [ht2, rI_nj (by omega), ht1, rI_eq]
  have g3 : t2.1 1 3 = nI q := by rw [ht2, rI_nj (by omega), ht1, rI_nj (by omega)]; exact h3
  have g5 : t2.1 1 5 = nI 0 := by rw [ht2, rI_eq]; rfl
  refine ⟨_, digs _ q (q + dgN (T.drop q)) (dgV 0 (T.drop q)) ?_ (T.drop q) q 0 t2 rfl hql rfl rfl (by omega) hf2 g0 g2 g3 g5⟩
  intro v hfv k0 k2 k3 k5
  have htv := text v hfv k0
  have hdl := dgN_le (T.drop q)
  rw [List.length_drop] at hdl
  rw [k3, k2]
  have fin : ∀ (t : Tk) (w : St) (r : Int32), Fr (fun k => k = 1) s w → w.1 1 0 = s.1 1 0 → w.1 1 2 = nI t.2.2.1 → w.1 1 3 = nI t.2.2.2 → r = nI t.1 → (t.1 = 1 → w.1 1 5 = nI t.2.1) → t = tokA q (T.drop q) → wX7_step_153 Q r 1 w := by
    intro t w r hfw w0 w2 w3 hr w5 ht
    unfold wX7_step_153
    intro e he
    have hfe : Fr (fun k => k = 1) s e := by rw [he]; exact hfw.I rfl
    have e0 : e.1 1 0 = s.1 1 0 := by rw [he, rI_nj (by omega)]; exact w0
    rw [← ht] at hQ
    refine hQ e hfe (text e hfe e0) ⟨?_, ?_, ?_, fun z => ?_⟩
    · rw [he, rI_nj (by omega)]; exact w2
    · rw [he, rI_nj (by omega)]; exact w3
    · rw [he, rI_eq]; exact hr
    · rw [he, rI_nj (by omega)]; exact w5 z
  refine ⟨fun z => ?_, fun z => ?_⟩
  · have z' := (nI_leI (by omega) (by omega)).mp z
    have hz : dgN (T.drop q) = 0 := by omega
    unfold wX7_letterToken wX7_letterToken_57 wX7_letterToken_62
    rw [k3, htv.1, hz, Nat.add_zero]
    rw [hz, Nat.add_zero] at k3
    cases hr : T.drop q with
    | nil =>
      have hpe : T.length ≤ q := List.drop_eq_nil_iff.mp hr
      refine ⟨fun y => absurd ((nI_ltI (by omega) (by omega)).mp y) (by omega), fun _ => ?_⟩
      exact fin (0, 0, q, q) v 0 hfv k0 k2 k3 rfl (fun y => by cases y) (by rw [hr]; rfl)
    | cons a r =>
      obtain ⟨d1, d2, d3⟩ := drop_at hr
      have ha := hT2 a (List.mem_of_getElem? d1)
      have hnd : isDg a = false := by
        rw [hr] at hz
        unfold dgN at hz
        rw [Bool.eq_false_iff]
        intro y
        rw [if_pos y] at hz
        cases hz
      rw [nI_clamp (show q < 2 ^ 31 by omega), htv.let d1]
      refine ⟨fun _ => ⟨vp_in_nI (by omega) (by omega), fun e he => ?_⟩, fun y => absurd ((nI_ltI (by omega) (by omega)).mpr d3) y⟩
      rw [show nI q + (1 : Int32) = nI (q + 1) from (nI_succ _).symm] at he
      have hfe : Fr (fun k => k = 1) s e := by rw [he]; exact hfv.I rfl
      have e0 : e.1 1 0 = s.1 1 0 := by rw [he, rI_nj (by omega)]; exact k0
      have e2 : e.1 1 2 = nI q := by rw [he, rI_nj (by omega)]; exact k2
      have e3 : e.1 1 3 = nI (q + 1) := by rw [he, rI_eq]
      have ta : tokA q (a :: r) = ((if isLt a then a else 2), 0, q, q + 1) := by
        rw [tokA_cons, hnd]
        rfl
      have yes : isLt a = true → wX7_step_153 Q (nI a) 1 e := fun hy => by
        rw [hy, if_pos rfl] at ta
        refine fin (a, 0, q, q + 1) e (nI a) hfe e0 e2 e3 rfl (fun y => ?_) (by rw [hr, ta])
        unfold isLt at hy
        have := of_decide_eq_true hy
        have y' : a = 1 := y
        omega
      have no : isLt a = false → wX7_step_153 Q 2 1 e := fun hy => by
        rw [hy] at ta
        exact fin (2, 0, q, q + 1) e 2 hfe e0 e2 e3 rfl (fun y => by cases y) (by rw [hr, ta]; rfl)
      refine ⟨fun y => ⟨fun x => absurd x (by decide), fun _ => yes ?_⟩, fun y => ⟨fun y2 => ⟨fun x => absurd x (by decide), fun _ => yes ?_⟩, fun y2 => ⟨fun y3 => ⟨fun x => absurd x (by decide), fun _ => yes ?_⟩, fun y3 => ⟨fun y4 => ⟨fun _ => no ?_, fun x => absurd rfl x⟩, fun y4 => ⟨fun x => absurd x (by decide), fun _ => yes ?_⟩⟩⟩⟩⟩
      · exact decide_eq_true (Or.inl (nI_inj (b := 110) (by omega) (by omega) y))
      · exact decide_eq_true (Or.inr (Or.inl (nI_inj (b := 108) (by omega) (by omega) y2)))
      · exact decide_eq_true (Or.inr (Or.inr (Or.inl (nI_inj (b := 109) (by omega) (by omega) y3))))
      · refine decide_eq_false (fun w => ?_)
        rcases w with w | w | w | w
        · exact y (by rw [w]; rfl)
        · exact y2 (by rw [w]; rfl)
        · exact y3 (by rw [w]; rfl)
        · exact y4 (by rw [w]; rfl)
      · exact decide_eq_true (Or.inr (Or.inr (Or.inr (nI_inj (b := 59) (by omega) (by omega) y4))))
  · have z' : 0 < dgN (T.drop q) := by
      rcases Nat.eq_zero_or_pos (dgN (T.drop q)) with y | y
      · exact absurd ((nI_leI (by omega) (by omega)).mpr (by omega)) z
      · exact y
    cases hr : T.drop q with
    | nil => rw [hr] at z'; exact absurd z' (by decide)
    | cons a r =>
      obtain ⟨d1, d2, d3⟩ := drop_at hr
      have ha := hT2 a (List.mem_of_getElem? d1)
      have hdg : isDg a = true := by
        cases hy : isDg a with
        | true => rfl
        | false =>
          rw [hr] at z'
          unfold dgN at z'
          rw [hy, if_neg (by decide)] at z'
          omega
      rw [hr] at k3 k5 hdl
      have hvl := dgV_le (a :: r) 0 (by omega)
      unfold wX7_numberToken wX7_numberToken_31 wX7_numberToken_32 wX7_numberToken_46
      rw [k3, k2, nI_sub (by omega), nI_clamp (show q < 2 ^ 31 by omega), htv.let d1, k5, Nat.add_sub_cancel_left]
      have ta : tokA q (a :: r) = ((if (1 < dgN (a :: r) ∧ a = 48) ∨ 99 < dgV 0 (a :: r) then 2 else 1), dgV 0 (a :: r), q, q + dgN (a :: r)) := by
        show (if isDg a then ((if (1 < dgN (a :: r) ∧ a = 48) ∨ 99 < dgV 0 (a :: r) then 2 else 1), dgV 0 (a :: r), q, q + dgN (a :: r)) else ((if isLt a then a else 2), 0, q, q + 1)) = _
        rw [if_pos hdg]
      have bad : ((1 < dgN (a :: r) ∧ a = 48) ∨ 99 < dgV 0 (a :: r)) → wX7_step_153 Q 2 1 v := fun hy => by
        rw [if_pos hy] at ta
        exact fin (2, dgV 0 (a :: r), q, q + dgN (a :: r)) v 2 hfv k0 k2 k3 rfl (fun y => by cases y) (by rw [hr, ta])
      have good : ¬ ((1 < dgN (a :: r) ∧ a = 48) ∨ 99 < dgV 0 (a :: r)) → wX7_step_153 Q 1 1 v := fun hy => by
        rw [if_neg hy] at ta
        exact fin (1, dgV 0 (a :: r), q, q + dgN (a :: r)) v 1 hfv k0 k2 k3 rfl (fun _ => k5) (by rw [hr, ta])
      have nz : ¬ (1 < dgN (a :: r) ∧ a = 48) → ((¬ (0 : Int32) = 0 → wX7_step_153 Q 2 1 v) ∧ ((0 : Int32) = 0 → ((nI (dgV 0 (a :: r)) ≤ 99 → wX7_step_153 Q 1 1 v) ∧ (¬ nI (dgV 0 (a :: r)) ≤ 99 → wX7_step_153 Q 2 1 v)))) := by
        intro hn
        refine ⟨fun y => absurd rfl y, fun _ => ⟨fun y => good ?_, fun y => bad (Or.inr ?_)⟩⟩
        · have y' := (nI_leI (b := 99) (by omega) (by omega)).mp y
          intro w
          rcases w with w | w
          · exact hn w
          · omega
        · rcases Nat.lt_or_ge 99 (dgV 0 (a :: r)) with w | w
          · exact w
          · exact absurd ((nI_leI (b := 99) (by omega) (by omega)).mpr w) y
      refine ⟨fun c => nz (fun w => ?_), fun c => ⟨vp_in_nI (by omega) (by omega), fun c2 => nz (fun w => c2 (by rw [w.2]; rfl)), fun c2 => ⟨fun _ => bad (Or.inl ⟨?_, nI_inj (b := 48) (by omega) (by omega) c2⟩), fun y => absurd y (by decide)⟩⟩⟩
      · have := (nI_leI (b := 1) (by omega) (by omega)).mp c
        omega
      · rcases Nat.lt_or_ge 1 (dgN (a :: r)) with w | w
        · exact w
        · exact absurd ((nI_leI (b := 1) (by omega) (by omega)).mpr w) c
end LXC
