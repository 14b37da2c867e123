/-! one step of the law: both sides answer alike, and hold the same office -/
section OKS
variable {S : Sp}
theorem okSp.setT (h : okSp S) {T : List Nat} (h1 : T.length ≤ 120) (h2 : ∀ a ∈ T, a ≤ 255) : okSp (setT S T) := ⟨h1, h2, h.2.2⟩
theorem okSp.push {N : Nw} (h : okSp S) (hN : okNw S.2.1 N) : okSp (push S N) := by
  obtain ⟨o1, o2, o3, o4, o5, o6, o7, o8, o9, o10⟩ := h
  refine ⟨o1, o2, o3, hN, ?_, fun M hM => ?_, o7, o8, o9, o10⟩
  · show ((S.2.2.1 :: S.2.2.2.1).take 10).length ≤ 10
    rw [List.length_take]
    omega
  · have hM' : M ∈ (S.2.2.1 :: S.2.2.2.1).take 10 := hM
    rcases List.mem_cons.mp (List.mem_of_mem_take hM') with c | c
    · rw [c]; exact o4
    · exact o6 M c
theorem ok_type (h : okSp S) (v : Int32) : okSp (cType S v).2 := by
  unfold cType
  cases hn : num v 256 with
  | none => exact h
  | some a =>
    have ha := (num_lt (by omega) hn).1
    dsimp only
    split
    · rename_i c
      refine h.setT (by rw [List.length_append]; simp; omega) (fun x hx => ?_)
      rcases List.mem_append.mp hx with c | c
      · exact h.2.1 x c
      · rw [List.mem_singleton.mp c]; omega
    · exact h
theorem ok_clear (h : okSp S) : okSp (cClear S).2 := h.setT (by simp) (fun x hx => by cases hx)
theorem ok_land (h : okSp S) : okSp (cLand S).2 := by
  unfold cLand
  cases hz : readS S.1 with
  | inl f => exact h
  | inr q =>
    have := readS_ok hz
    exact ⟨by show 0 ≤ 120; omega, fun x hx => (by cases hx), this.1, this.2, by show 0 ≤ 10; omega, fun N hN => (by cases hN), fun N hN => (by cases hN), fun N hN => (by cases hN), by show 0 ≤ 6; omega, fun t ht => (by cases ht)⟩
theorem ok_names (h : okSp S) (v : Int32) : okSp (cNames S v).2 := by
  unfold cNames
  obtain ⟨-, -, o3, o4, -⟩ := id h
  cases hn : num v S.2.1.1 with
  | none => exact h
  | some p =>
    have hp := (num_lt (by have := o3.2.1; omega) hn).1
    dsimp only
    split
    · rename_i c
      obtain ⟨n1, n2, n3, n4, n5, n6⟩ := o4
      exact h.push ⟨n1, n2, n3, n4, (isRow_next n5 hp c).1, n6⟩
    · exact h
theorem ok_asks (h : okSp S) : okSp (cAsks S).2 := by
  unfold cAsks
  obtain ⟨-, -, o3, o4, -⟩ := id h
  split
  · exact h
  · rename_i c
    cases hz : ask S.2.1 S.2.2.1 with
    | none => exact h
    | some q =>
      dsimp only
      obtain ⟨n1, n2, n3, n4, n5, n6⟩ := o4
      rw [ask_P] at hz
      obtain ⟨hq1, hq2⟩ := allL_in.mp (bestP_ex hz).1
      refine h.push ⟨hq1, hq2, ?_, fun w hw => ?_, isRow_nil _ _, Nat.min_le_left _ _⟩
      · show (S.2.2.1.2.1 ++ [S.2.2.1.2.2.1]).length ≤ 4
        rw [List.length_append]
        simp
        omega
      · have hw' : w ∈ S.2.2.1.2.1 ++ [S.2.2.1.2.2.1] := hw
        rcases List.mem_append.mp hw' with y | y
        · exact n4 w y
        · rw [List.mem_singleton.mp y]; exact ⟨n5, by omega⟩
theorem ok_digs (h : okSp S) (v y : Int32) : okSp (cDigs S v y).2 := by
  unfold cDigs
  obtain ⟨-, -, o3, o4, -⟩ := id h
  cases hn : num v S.2.1.2.length with
  | none => exact h
  | some l =>
    dsimp only
    cases hm : num y 6 with
    | none => exact h
    | some w =>
      have hw := (num_lt (by omega) hm).1
      dsimp only
      split
      · exact h
      · split
        · exact h
        · obtain ⟨n1, n2, n3, n4, n5, n6⟩ := o4
          refine h.push ⟨?_, fun x hx => ?_, n3, n4, n5, Nat.min_le_left _ _⟩
          · show (S.2.2.1.1.set l w).length = _
            rw [List.length_set]; exact n1
          · have hx' : x ∈ S.2.2.1.1.set l w := hx
            rcases List.mem_or_eq_of_mem_set hx' with c | c
            · exact n2 x c
            · rw [c]; omega
theorem ok_burns (h : okSp S) (v : Int32) : okSp (cBurns S v).2 := by
  unfold cBurns
  obtain ⟨-, -, o3, o4, -⟩ := id h
  cases hn : num v S.2.2.1.2.1.length with
  | none => exact h
  | some m =>
    obtain ⟨n1, n2, n3, n4, n5, n6⟩ := o4
    refine h.push ⟨n1, n2, ?_, fun w hw => n4 w (List.mem_of_mem_eraseIdx hw), n5, n6⟩
    show (S.2.2.1.2.1.eraseIdx m).length ≤ 4
    have := List.length_eraseIdx_le S.2.2.1.2.1 m
    omega
theorem ok_wipes (h : okSp S) : okSp (cWipes S).2 := by
  unfold cWipes
  obtain ⟨-, -, o3, o4, -⟩ := id h
  split
  · exact h
  · obtain ⟨n1, n2, n3, n4, n5, n6⟩ := o4
    exact h.push ⟨n1, n2, n3, n4, isRow_nil _ _, n6⟩
theorem ok_undo (h : okSp S) : okSp (cUndo S).2 := by
  unfold cUndo
  obtain ⟨o1, o2, o3, o4, o5, o6, o7, o8, o9, o10⟩ := id h
  cases hU : S.2.2.2.1 with
  | nil => exact h
  | cons N U =>
    rw [hU] at o5 o6
    exact ⟨o1, o2, o3, o6 N (by simp), by show U.length ≤ 10; simp at o5; omega, fun M hM => o6 M (List.mem_cons_of_mem _ hM), o7, o8, o9, o10⟩
theorem ok_keep (h : okSp S) (v : Int32) : okSp (cKeep S v).2 := by
  unfold cKeep
  obtain ⟨o1, o2, o3, o4, o5, o6, o7, o8, o9, o10⟩ := id h
  cases hn : num v 2 with
  | none => exact h
  | some i =>
    refine ⟨o1, o2, o3, o4, o5, o6, fun N hN => ?_, fun N hN => ?_, o9, o10⟩
    · have hN' : (setI S i).1 = some N := hN
      unfold setI at hN'
      split at hN'
      · cases hN'; exact o4
      · exact o7 N hN'
    · have hN' : (setI S i).2 = some N := hN
      unfold setI at hN'
      split at hN'
      · exact o8 N hN'
      · cases hN'; exact o4
theorem ok_back (h : okSp S) (v : Int32) : okSp (cBack S v).2 := by
  unfold cBack
  obtain ⟨o1, o2, o3, o4, o5, o6, o7, o8, o9, o10⟩ := id h
  cases hn : num v 2 with
  | none => exact h
  | some i =>
    dsimp only
    cases hI : imgOf S i with
    | none => exact h
    | some N =>
      have hN : okNw S.2.1 N := by
        unfold imgOf at hI
        split at hI
        · exact o7 N hI
        · exact o8 N hI
      exact ⟨o1, o2, o3, hN, by show 0 ≤ 10; omega, fun M hM => (by cases hM), o7, o8, o9, o10⟩
theorem ok_took (h : okSp S) (v y : Int32) : okSp (cTook S v y).2 := by
  unfold cTook
  obtain ⟨o1, o2, o3, o4, o5, o6, o7, o8, o9, o10⟩ := id h
  have l6 := o3.2.2.1
  cases hn : num v S.2.1.2.length with
  | none => exact h
  | some l =>
    dsimp only
    cases hm : num y 2 with
    | none => exact h
    | some i =>
      have hl := (num_lt (by omega) hn).1
      have hi := (num_lt (by omega) hm).1
      dsimp only
      split
      · rename_i c
        refine ⟨o1, o2, o3, o4, o5, o6, o7, o8, ?_, fun t ht => ?_⟩
        · show (S.2.2.2.2.2.1 ++ [(l, i)]).length ≤ 6
          rw [List.length_append]; simp; omega
        · have ht' : t ∈ S.2.2.2.2.2.1 ++ [(l, i)] := ht
          rcases List.mem_append.mp ht' with z | z
          · exact o10 t z
          · rw [List.mem_singleton.mp z]; exact ⟨hl, by show i ≤ 1; omega⟩
      · exact h
theorem ok_forget (h : okSp S) : okSp (cForget S).2 := by
  obtain ⟨o1, o2, o3, o4, o5, o6, o7, o8, o9, o10⟩ := id h
  exact ⟨o1, o2, o3, o4, o5, o6, o7, o8, by show 0 ≤ 6; omega, fun t ht => (by cases ht)⟩
theorem ok_rate (h : okSp S) (v y : Int32) : okSp (cRate S v y).2 := by
  unfold cRate
  cases num y S.2.1.2.length with
  | none => exact h
  | some l =>
    dsimp only
    cases num v 6 with
    | none => exact h
    | some k => exact h
end OKS
def InvL (s : St) : Prop := ∃ S, RC S s ∧ RM 99 S s ∧ okSp S
section STP2
variable {S : Sp} {s t u : St}
theorem RM.km (h : RM 99 S s) (hk : KM s t) : RM 99 S t := h.cg (by rw [hk.1 99 (by omega)]) (by rw [hk.1 99 (by omega)]) (by rw [hk.1 99 (by omega)]) (by rw [hk.1 99 (by omega)]) (fun c _ => hk.1 _ (by omega)) (by rw [hk.1 (99 + 14) (by omega)]) hk.2
theorem RC.kc (h : RC S t) (hf : Fr (fun k => 99 ≤ k) t u) : RC S u := h.fr hf (by intro k; omega)
theorem RC.frT (h : RC S t) (hf : FrT 99 t u) : RC S u := by
  have h1 : RC S (u.1, t.2) := h.fr (M := fun k => 99 ≤ k) ⟨fun k hk => hf.1 k (by omega), rfl⟩ (by intro k; omega)
  obtain ⟨a1, a2, a3, a4, a5, a6, a7, a8, a9, a10, a11⟩ := h1
  exact ⟨a1, by unfold grOk; rw [hf.2.2]; exact a2, by rw [hf.2.2]; exact a3, a4, a5, a6, a7, a8, a9, a10, by rw [hf.2.1 0 (by omega)]; exact a11⟩
theorem lw_inv (σ : St) (k : Nat) (a b : Int32) (h : InvL σ) : lwStep k a b σ InvL := by
  obtain ⟨S, hC, hM, hok⟩ := h
  have o3 := hok.2.2.1
  have h33 := ways_33 o3
  have hw := okWays_of o3
  unfold lwStep
  split
  · exact kX9_type hC hok (fun t hR hK => kX10_type (hM.km hK) hok (fun u hRu hf => ⟨rfl, _, hR.kc hf, hRu, ok_type hok a⟩))
  · exact kX9_clear hC (fun t hR hK => kX10_clear (hM.km hK) (fun u hRu hf => ⟨rfl, _, hR.kc hf, hRu, ok_clear hok⟩))
  · exact kX9_land hC hok (fun t hR hK => kX10_land (hM.km hK) hok (fun u hRu hf => ⟨rfl, _, hR.kc hf, hRu, ok_land hok⟩))
  · exact kX9_lane hC hok (kX10_lane hM hok (fun u hRu hf => ⟨rfl, S, hC.kc hf, hRu, hok⟩))
  · exact kX9_map hC hok h33 (fun t hR hK => kX10_map (hM.km hK) hok (fun u hRu hf => ⟨rfl, S, hR.kc hf, hRu, hok⟩))
  · exact kX9_place hC hok (kX10_place hM hok (fun u hRu hf => ⟨rfl, S, hC.kc hf, hRu, hok⟩))
  · exact kX9_now hC hok h33 (fun t hR hK => kX10_now (hM.km hK) hok (fun u hRu hf => ⟨rfl, S, hR.kc hf, hRu, hok⟩))
  · exact kX9_names hC hok (fun t hR hK => kX10_names (hM.km hK) hok (fun u hRu hf => ⟨rfl, _, hR.kc hf, hRu, ok_names hok a⟩))
  · exact kX9_asks hC hok hw (fun t hR hK => kX10_asks (hM.km hK) hok (fun u hRu hf => ⟨rfl, _, hR.kc hf, hRu, ok_asks hok⟩))
  · exact kX9_digs hC hok (fun t hR hK => kX10_digs (hM.km hK) hok (fun u hRu hf => ⟨rfl, _, hR.kc hf, hRu, ok_digs hok a b⟩))
  · exact kX9_burns hC hok (fun t hR hK => kX10_burns (hM.km hK) hok (fun u hRu hf => ⟨rfl, _, hR.kc hf, hRu, ok_burns hok a⟩))
  · exact kX9_wipes hC hok (fun t hR hK => kX10_wipes (hM.km hK) hok (fun u hRu hf => ⟨rfl, _, hR.kc hf, hRu, ok_wipes hok⟩))
  · exact kX9_undo hC hok (fun t hR hK => kX10_undo (hM.km hK) hok (fun u hRu hf => ⟨rfl, _, hR.kc hf, hRu, ok_undo hok⟩))
  · exact kX9_far hC hok h33 (fun t hR hK => kX10_far (hM.km hK) hok (fun u hRu hf => ⟨rfl, S, hR.kc hf, hRu, hok⟩))
  · exact kX9_by hC hok h33 (fun t hR hK => kX10_by (hM.km hK) hok (fun u hRu hf => ⟨rfl, S, hR.kc hf, hRu, hok⟩))
  · exact kX9_knot hC hok (kX10_knot hM hok (fun u hRu hf => ⟨rfl, S, hC.kc hf, hRu, hok⟩))
  · exact kX9_asking hC hok hw (fun t hR hK => kX10_asking (hM.km hK) hok (fun u hRu hf => ⟨rfl, S, hR.kc hf, hRu, hok⟩))
  · exact kX9_clash hC hok hw (fun t hR hK => kX10_clash (hM.km hK) hok (fun u hRu hf => ⟨rfl, S, hR.kc hf, hRu, hok⟩))
  · exact kX9_fire hC hok hw (fun t hR hK => kX10_fire (hM.km hK) hok (fun u hRu hf => ⟨rfl, S, hR.kc hf, hRu, hok⟩))
  · exact kX9_spite hC hok hw (fun t hR hK => kX10_spite (hM.km hK) hok (fun u hRu hf => ⟨rfl, S, hR.kc hf, hRu, hok⟩))
  · exact kX9_spiteful hC hok hw (fun t hR hK => kX10_spiteful (hM.km hK) hok (fun u hRu hf => ⟨rfl, S, hR.kc hf, hRu, hok⟩))
  · exact kX9_odds hC hok hw (fun t hR hK => kX10_odds (hM.km hK) hok (fun u hRu hf => ⟨rfl, S, hR.kc hf, hRu, hok⟩))
  · exact kX9_took hC hok (fun t hR hK => kX10_took (hM.km hK) hok (fun u hRu hf => ⟨rfl, _, hR.kc hf, hRu, ok_took hok a b⟩))
  · exact kX9_forget hC (fun t hR hK => kX10_forget (hM.km hK) (fun u hRu hf => ⟨rfl, _, hR.kc hf, hRu, ok_forget hok⟩))
  · exact kX9_can hC hok h33 (fun t hR hK => kX10_can (hM.km hK) hok (fun u hRu hf => ⟨rfl, S, hR.kc hf, hRu, hok⟩))
  · exact kX9_look hC hok h33 (fun t hR hK => kX10_look (hM.km hK) hok (fun u hRu hf => ⟨rfl, S, hR.kc hf, hRu, hok⟩))
  · exact kX9_rate hC hok (fun t hR hK => kX10_rate (hM.km hK) hok (fun u hRu hf => ⟨rfl, _, hR.frT hf, hRu, ok_rate hok a b⟩))
  · exact kX9_keep hC hok (fun t hR hK => kX10_keep (hM.km hK) hok (fun u hRu hf => ⟨rfl, _, hR.kc hf, hRu, ok_keep hok a⟩))
  · exact kX9_back hC hok (fun t hR hK => kX10_back (hM.km hK) hok (fun u hRu hf => ⟨rfl, _, hR.kc hf, hRu, ok_back hok a⟩))
  · exact kX9_count hC (kX10_count hM (fun u hRu hf => ⟨rfl, S, hC.kc hf, hRu, hok⟩))
  · exact kX9_trace hC (kX10_trace hM (fun u hRu hf => ⟨rfl, S, hC.kc hf, hRu, hok⟩))
  · exact ⟨S, hC, hM, hok⟩
end STP2
