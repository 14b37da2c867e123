/-! the reference's calls that need no ways, on -/
section MK2
variable {x : Nat} {S : Sp} {s : St}
theorem sX10_before {Q : St → Prop} (h : RM x S s) (hok : okSp S) (hQ : ∀ t, Fr (fun k => x ≤ k) s t → (∀ c, 0 < c → c ≠ 10 → t.1 (x + c) = s.1 (x + c)) → (∀ N u, Fr (fun k => k = x + 7) t u → NowM (u.1 (x + 7)) 0 N → RM x (push S N) u) → Q t) : wX10_notes x s Q := by
  obtain ⟨o1, o2, o3, o4, o5, o6, -⟩ := hok
  obtain ⟨a1, a2, a3, a4, a5, a6, a7, a8⟩ := h
  refine sX10_notes a4 o5 (fun M hM => (o6 M hM).W o3) a3 (o4.W o3) (fun t hf hj hU => ?_)
  have ne : ∀ c, 0 < c → c ≠ 10 → t.1 (x + c) = s.1 (x + c) := fun c h1 h2 => hf.1 _ (by omega)
  refine hQ t (hf.wk (by intro k; omega)) ne (fun N u hu hN => ?_)
  have n2 : ∀ c, 0 < c → c ≠ 10 → c ≠ 7 → u.1 (x + c) = s.1 (x + c) := fun c h1 h2 h3 => by rw [hu.1 _ (by omega)]; exact ne c h1 h2
  have nj : ∀ j, j ≠ 18 → u.1 x j = s.1 x j := fun j h1 => by rw [hu.1 x (by omega)]; exact hj j h1
  exact ⟨a1.cg (nj 3 (by omega)) (n2 1 (by omega) (by omega) (by omega)), a2.cg (n2 2 (by omega) (by omega) (by omega)) (n2 3 (by omega) (by omega) (by omega)) (n2 4 (by omega) (by omega) (by omega)) (n2 5 (by omega) (by omega) (by omega)), hN, hU.cg (by rw [hu.1 x (by omega)]) (hu.1 _ (by omega)), a5.cg (n2 8 (by omega) (by omega) (by omega)) (n2 9 (by omega) (by omega) (by omega)), a6.cg (nj 21 (by omega)) (n2 11 (by omega) (by omega) (by omega)) (n2 12 (by omega) (by omega) (by omega)), a7.cg (nj 26 (by omega)) (n2 13 (by omega) (by omega) (by omega)) (n2 15 (by omega) (by omega) (by omega)) (n2 16 (by omega) (by omega) (by omega)) (congrFun (n2 14 (by omega) (by omega) (by omega)) 0), by rw [hu.2, hf.2]; exact a8⟩
theorem LandM.lanes {la : Land} (h : LandM x la s) : lanesAt x 0 la.2 s := fun l a b sp hl => by
  have := h.2.2 l a b sp hl
  rw [Nat.zero_add]
  exact ⟨this.1, this.2.1⟩
theorem lanes100 {la : Land} (h : okLand la) : ∀ (l p q sp : Nat), la.2[l]? = some (p, q, sp) → p < 100 ∧ q < 100 := fun l p q sp hl => by
  have h1 := h.2.2.2.1 l p q sp hl
  have h2 := h.2.1
  omega
theorem kX10_names {v : Int32} {Q : Int32 → St → Prop} (h : RM x S s) (hok : okSp S) (hQ : ∀ t, RM x (cNames S v).2 t → Fr (fun k => x ≤ k) s t → Q (cNames S v).1 t) : wX10_names x v s Q := by
  have hok' := hok
  obtain ⟨o1, o2, o3, o4, o5, -⟩ := hok
  have hW := o4.W o3
  have hrow := o4.2.2.2.2.1
  have p5 := o3.2.1
  have l6 := o3.2.2.1
  unfold cNames at hQ
  unfold wX10_names
  refine thM h (fun s' h' hf => ?_)
  refine sX10_isPlace h'.2.1 p5 (fun hx => ⟨fun z => absurd rfl z, fun _ => ?_⟩) (fun p hx => ⟨fun _ => ?_, fun z => absurd z (by decide)⟩)
  · rw [hx] at hQ; exact hQ s' h' hf
  · obtain ⟨hp, rfl⟩ := num_lt (by omega) hx
    rw [hx] at hQ
    dsimp only at hQ
    have e36 : s'.1 (x + 7) (36 : Int32).toNatClampNeg = nI S.2.2.1.2.2.1.length := h'.2.2.1.2.2.2.2.1
    have e1 : s'.1 (x + 2) (1 : Int32).toNatClampNeg = nI S.2.1.2.length := h'.2.1.2.1
    rw [e36, e1]
    refine ⟨vp_in_nI (n := 36) (by omega) (by omega), vp_in_nI (n := 1) (by omega) (by omega), ?_⟩
    refine sX10_canBeNext (o := 31) (fr := 0) h'.2.1.lanes (by omega) (lanes100 o3) h'.2.2.1.2.2.2.1 rfl hW.2.2.2 (by have := hW.2.2.2; omega) (by omega) (fun q hq => by have := hrow.1 q hq; omega) (by omega) ?_
    cases hz : okNext S.2.1.2 S.2.2.1.2.2.1 p with
    | false =>
      rw [hz] at hQ
      exact ⟨fun z => absurd rfl z, fun _ => hQ s' h' hf⟩
    | true =>
      rw [hz] at hQ
      refine ⟨fun _ => ?_, fun z => absurd z (by decide)⟩
      refine sX10_before h' hok' (fun t hf2 hc hb => ?_)
      have hl5 : S.2.2.1.2.2.1.length < 5 := by
        unfold okNext at hz
        cases hd : S.2.2.1.2.2.1 with
        | nil => simp
        | cons a r => rw [hd] at hz; simp at hz; simp; exact hz.1.1
      obtain ⟨n1, n2, n3, n4, n5, n6⟩ := h'.2.2.1
      have e7 : t.1 (x + 7) = s'.1 (x + 7) := hc 7 (by omega) (by omega)
      have r36 : t.1 (x + 7) 36 = nI S.2.2.1.2.2.1.length := by rw [e7]; exact n5
      have r2 : ∀ w, (stI t (x + 7) (31 + S.2.2.1.2.2.1.length) w).1 (x + 7) 36 = nI S.2.2.1.2.2.1.length := fun w => by rw [rI_nj (by omega)]; exact r36
      have r3 : ∀ u w, (stI u (x + 7) 36 w).1 (x + 7) 36 = w := fun u w => rI_eq
      simp (disch := omega) only [r36, r2, r3, lit_nI, nI_ltI, nI_leI, nI_eq, nI_clamp, vp_in_nI, forall_eq, true_and, and_true, false_and, and_false, true_implies, false_implies, implies_true, not_true, not_false_eq_true, nI_add, pk_mul, nI_sub, shl1, shr1, fa_or, fa_and, nI_m9, nI_m9s]
      have hf3 : Fr (fun k => k = x + 7) t (stI (stI t (x + 7) (31 + S.2.2.1.2.2.1.length) (nI p)) (x + 7) 36 (nI (S.2.2.1.2.2.1.length + 1))) := (Fr.rf.I (by omega)).I (by omega)
      have rr : ∀ j, j ≠ 36 → j ≠ 31 + S.2.2.1.2.2.1.length → (stI (stI t (x + 7) (31 + S.2.2.1.2.2.1.length) (nI p)) (x + 7) 36 (nI (S.2.2.1.2.2.1.length + 1))).1 (x + 7) j = s'.1 (x + 7) j := fun j h1 h2 => by rw [rI_nj h1, rI_nj h2, e7]
      have w1 := hW.1
      have w2 := hW.2.1
      refine hQ _ (hb _ _ hf3 ⟨?_, ?_, ?_, ?_, ?_, ?_⟩) ((hf.tr hf2).tr (hf3.wk (by intro k; omega)))
      · refine n1.cg (fun k hk => rr _ ?_ ?_)
        · have : k < S.2.2.1.1.length := hk
          omega
        · have : k < S.2.2.1.1.length := hk
          omega
      · rw [rr _ (by omega) (by omega)]; exact n2
      · intro m w hw
        have hm : m < S.2.2.1.2.1.length := (List.getElem?_eq_some_iff.mp hw).1
        have hl := hW.2.2.1 w (List.mem_of_getElem? hw)
        obtain ⟨e1, e2⟩ := n3 m w hw
        exact ⟨by rw [rr _ (by omega) (by omega)]; exact e1, e2.cg (fun k hk => rr _ (by omega) (by omega))⟩
      · show rowAt _ (0 + 31) (S.2.2.1.2.2.1 ++ [p])
        refine n4.app (fun k hk => rr _ (by omega) (by omega)) ?_
        rw [rI_nj (by omega)]
        exact rI_eq
      · show _ = nI (S.2.2.1.2.2.1 ++ [p]).length
        rw [List.length_append]; exact rI_eq
      · rw [rr _ (by omega) (by omega)]; exact n6
theorem kX10_wipes {Q : Int32 → St → Prop} (h : RM x S s) (hok : okSp S) (hQ : ∀ t, RM x (cWipes S).2 t → Fr (fun k => x ≤ k) s t → Q (cWipes S).1 t) : wX10_wipes x s Q := by
  have hok' := hok
  obtain ⟨o1, o2, o3, o4, o5, -⟩ := hok
  have hW := o4.W o3
  have h5 := hW.2.2.2
  unfold cWipes at hQ
  unfold wX10_wipes
  refine thM h (fun s' h' hf => ?_)
  have e36 : s'.1 (x + 7) 36 = nI S.2.2.1.2.2.1.length := h'.2.2.1.2.2.2.2.1
  by_cases c : S.2.2.1.2.2.1.length = 0
  · rw [if_pos c] at hQ
    simp (disch := omega) only [e36, c, lit_nI, nI_ltI, nI_leI, nI_eq, nI_clamp, vp_in_nI, forall_eq, true_and, and_true, false_and, and_false, true_implies, false_implies, implies_true, not_true, not_false_eq_true, nI_add, pk_mul, nI_sub, shl1, shr1, fa_or, fa_and, nI_m9, nI_m9s]
    exact hQ s' h' hf
  · rw [if_neg c] at hQ
    simp (disch := omega) only [e36, c, lit_nI, nI_ltI, nI_leI, nI_eq, nI_clamp, vp_in_nI, forall_eq, true_and, and_true, false_and, and_false, true_implies, false_implies, implies_true, not_true, not_false_eq_true, nI_add, pk_mul, nI_sub, shl1, shr1, fa_or, fa_and, nI_m9, nI_m9s]
    refine sX10_before h' hok' (fun t hf2 hc hb => ?_)
    obtain ⟨n1, n2, n3, n4, n5, n6⟩ := h'.2.2.1
    have e7 : t.1 (x + 7) = s'.1 (x + 7) := hc 7 (by omega) (by omega)
    rw [e7, e36]
    have hf3 : Fr (fun k => k = x + 7) t (stI t (x + 7) 36 (nI 0)) := Fr.rf.I rfl
    have rr : ∀ j, j ≠ 36 → (stI t (x + 7) 36 (nI 0)).1 (x + 7) j = s'.1 (x + 7) j := fun j h1 => by rw [rI_nj h1, e7]
    have w1 := hW.1
    have w2 := hW.2.1
    refine hQ _ (hb _ _ hf3 ⟨?_, ?_, ?_, rowAt.nil, rI_eq, ?_⟩) ((hf.tr hf2).tr (hf3.wk (by intro k; omega)))
    · exact n1.cg (fun k hk => rr _ (by have : k < S.2.2.1.1.length := hk; omega))
    · rw [rr _ (by omega)]; exact n2
    · intro m w hw
      have hm : m < S.2.2.1.2.1.length := (List.getElem?_eq_some_iff.mp hw).1
      have hl := hW.2.2.1 w (List.mem_of_getElem? hw)
      obtain ⟨e1, e2⟩ := n3 m w hw
      exact ⟨by rw [rr _ (by omega)]; exact e1, e2.cg (fun k hk => rr _ (by omega))⟩
    · rw [rr _ (by omega)]; exact n6
theorem kX10_digs {v y : Int32} {Q : Int32 → St → Prop} (h : RM x S s) (hok : okSp S) (hQ : ∀ t, RM x (cDigs S v y).2 t → Fr (fun k => x ≤ k) s t → Q (cDigs S v y).1 t) : wX10_digs x v y s Q := by
  have hok' := hok
  obtain ⟨o1, o2, o3, o4, o5, -⟩ := hok
  have hW := o4.W o3
  have l6 := o3.2.2.1
  unfold cDigs at hQ
  unfold wX10_digs
  refine thM h (fun s' h' hf => ?_)
  refine sX10_isLane h'.2.1 l6 (fun hx => ⟨fun _ => ?_, fun z => absurd rfl z⟩) (fun l hx => ⟨fun z => absurd z (by decide), fun _ => ?_⟩)
  · rw [hx] at hQ; exact hQ s' h' hf
  · obtain ⟨hl, rfl⟩ := num_lt (by omega) hx
    rw [hx] at hQ
    dsimp only at hQ
    have hL : l < S.2.2.1.1.length := by rw [o4.1]; exact hl
    obtain ⟨n1, n2, n3, n4, n5, n6⟩ := h'.2.2.1
    have ev : s'.1 (x + 7) l = nI (S.2.2.1.1.getD l 0) := by
      have := n1 l _ (getD_get hL)
      rw [Nat.zero_add] at this
      exact this
    have h5 : S.2.2.1.1.getD l 0 ≤ 5 := getD_le (fun x hx => (o4.2.1 x hx).2) l
    refine sX10_in1 (n := 6) (by rfl) (by omega) (fun hy => ⟨fun z => absurd rfl z, fun _ => ?_⟩) (fun hy => ⟨fun z => absurd rfl z, fun _ => ?_⟩) (fun w hy hw1 => ⟨fun _ => ?_, fun z => absurd z (by decide)⟩)
    · rw [hy] at hQ; exact hQ s' h' hf
    · subst hy
      rw [show num 0 6 = some 0 from rfl] at hQ
      dsimp only at hQ
      rw [if_pos rfl] at hQ; exact hQ s' h' hf
    · obtain ⟨hw6, rfl⟩ := num_lt (by omega) hy
      rw [hy] at hQ
      dsimp only at hQ
      rw [if_neg (by omega)] at hQ
      have z0 : 0 + l = l := Nat.zero_add l
      by_cases c1 : S.2.2.1.1.getD l 0 = w
      · rw [if_pos c1] at hQ
        rw [c1] at ev
        simp (disch := omega) only [z0, ev, lit_nI, nI_ltI, nI_leI, nI_eq, nI_clamp, vp_in_nI, forall_eq, true_and, and_true, false_and, and_false, true_implies, false_implies, implies_true, not_true, not_false_eq_true, nI_add, pk_mul, nI_sub, shl1, shr1, fa_or, fa_and, nI_m9, nI_m9s]
        exact hQ s' h' hf
      · rw [if_neg c1] at hQ
        simp (disch := omega) only [z0, ev, c1, lit_nI, nI_ltI, nI_leI, nI_eq, nI_clamp, vp_in_nI, forall_eq, true_and, and_true, false_and, and_false, true_implies, false_implies, implies_true, not_true, not_false_eq_true, nI_add, pk_mul, nI_sub, shl1, shr1, fa_or, fa_and, nI_m9, nI_m9s]
        refine sX10_before h' hok' (fun t hf2 hc hb => ?_)
        have e7 : t.1 (x + 7) = s'.1 (x + 7) := hc 7 (by omega) (by omega)
        have e5 : t.1 (x + 5) = s'.1 (x + 5) := hc 5 (by omega) (by omega)
        have es : ∀ u, (stI t (x + 7) l u).1 (x + 5) l = nI (spade S.2.1 l) := fun u => by
          rw [rI_ne (by omega), e5]
          exact (h'.2.1.2.2 l _ _ _ (lane_get hl)).2.2
        have e37 : ∀ u, (stI t (x + 7) l u).1 (x + 7) 37 = nI S.2.2.1.2.2.2 := fun u => by
          rw [rI_nj (by omega), e7]; exact n6
        have sp9 := spade_le o3 l
        have hdug := o4.2.2.2.2.2
        have hap : apartN (S.2.2.1.1.getD l 0) w ≤ 5 := by unfold apartN; split <;> omega
        have hmul : spade S.2.1 l * apartN (S.2.2.1.1.getD l 0) w ≤ 45 := Nat.mul_le_mul sp9 hap
        have fin : ∀ D, D = Nat.min 99999 (S.2.2.1.2.2.2 + spade S.2.1 l * apartN (S.2.2.1.1.getD l 0) w) → Q (nI (S.2.2.1.1.getD l 0)) (stI (stI t (x + 7) l (nI w)) (x + 7) 37 (nI D)) := by
          intro D hD
          have hf3 : Fr (fun k => k = x + 7) t (stI (stI t (x + 7) l (nI w)) (x + 7) 37 (nI D)) := (Fr.rf.I (by omega)).I (by omega)
          have rr : ∀ j, j ≠ 37 → j ≠ l → (stI (stI t (x + 7) l (nI w)) (x + 7) 37 (nI D)).1 (x + 7) j = s'.1 (x + 7) j := fun j h1 h2 => by rw [rI_nj h1, rI_nj h2, e7]
          have w1 := hW.1
          have w2 := hW.2.1
          have w4 := hW.2.2.2
          refine hQ _ (hb _ _ hf3 ⟨?_, ?_, ?_, ?_, ?_, ?_⟩) ((hf.tr hf2).tr (hf3.wk (by intro k; omega)))
          · show rowAt _ 0 (S.2.2.1.1.set l w)
            intro k p hp
            have hk : k < (S.2.2.1.1.set l w).length := (List.getElem?_eq_some_iff.mp hp).1
            rw [List.length_set] at hk
            rw [List.getElem?_set] at hp
            by_cases ck : l = k
            · subst ck
              rw [if_pos rfl, if_pos hL] at hp
              cases hp
              rw [Nat.zero_add, rI_nj (by omega)]; exact rI_eq
            · rw [if_neg ck] at hp
              rw [rr _ (by omega) (by omega)]; exact n1 k p hp
          · rw [rr _ (by omega) (by omega)]; exact n2
          · intro m w hw
            have hm : m < S.2.2.1.2.1.length := (List.getElem?_eq_some_iff.mp hw).1
            have hl := hW.2.2.1 w (List.mem_of_getElem? hw)
            obtain ⟨e1, e2⟩ := n3 m w hw
            exact ⟨by rw [rr _ (by omega) (by omega)]; exact e1, e2.cg (fun k hk => rr _ (by omega) (by omega))⟩
          · exact n4.cg (fun k hk => rr _ (by have : k < S.2.2.1.2.2.1.length := hk; omega) (by omega))
          · rw [rr _ (by omega) (by omega)]; exact n5
          · show _ = nI (digN S l w).2.2.2
            unfold digN
            rw [← hD]; exact rI_eq
        have dg : ∀ c, c = spade S.2.1 l * apartN (S.2.2.1.1.getD l 0) w → wX10_digsFor x (nI c) (stI t (x + 7) l (nI w)) (fun s_67 => Q (nI (S.2.2.1.1.getD l 0)) s_67) := by
          intro c hcc
          unfold wX10_digsFor wX10_digsFor_34
          by_cases c9 : S.2.2.1.2.2.2 + c ≤ 99999
          · simp (disch := omega) only [e37, c9, lit_nI, nI_ltI, nI_leI, nI_eq, nI_clamp, vp_in_nI, forall_eq, true_and, and_true, false_and, and_false, true_implies, false_implies, implies_true, not_true, not_false_eq_true, nI_add, pk_mul, nI_sub, shl1, shr1, fa_or, fa_and, nI_m9, nI_m9s]
            exact fin _ (by rw [hcc]; exact (Nat.min_eq_right (by omega)).symm)
          · simp (disch := omega) only [e37, c9, lit_nI, nI_ltI, nI_leI, nI_eq, nI_clamp, vp_in_nI, forall_eq, true_and, and_true, false_and, and_false, true_implies, false_implies, implies_true, not_true, not_false_eq_true, nI_add, pk_mul, nI_sub, shl1, shr1, fa_or, fa_and, nI_m9, nI_m9s]
            exact fin _ (by exact (Nat.min_eq_left (by omega)).symm)
        unfold wX10_apart
        by_cases c3 : w ≤ S.2.2.1.1.getD l 0
        · simp (disch := omega) only [c3, es, lit_nI, nI_ltI, nI_leI, nI_eq, nI_clamp, vp_in_nI, forall_eq, true_and, and_true, false_and, and_false, true_implies, false_implies, implies_true, not_true, not_false_eq_true, nI_add, pk_mul, nI_sub, shl1, shr1, fa_or, fa_and, nI_m9, nI_m9s]
          refine dg _ ?_
          congr 1
          unfold apartN
          rw [if_neg (by omega)]
        · simp (disch := omega) only [c3, es, lit_nI, nI_ltI, nI_leI, nI_eq, nI_clamp, vp_in_nI, forall_eq, true_and, and_true, false_and, and_false, true_implies, false_implies, implies_true, not_true, not_false_eq_true, nI_add, pk_mul, nI_sub, shl1, shr1, fa_or, fa_and, nI_m9, nI_m9s]
          refine dg _ ?_
          congr 1
          unfold apartN
          rw [if_pos (by omega)]
end MK2
