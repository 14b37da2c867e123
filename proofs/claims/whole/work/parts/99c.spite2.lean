/-! the reference: the way of spite -/
theorem ahB_asym : ∀ (v w : List Nat), ahB v w = true → ahB w v = false
  | [], [], h => by cases h
  | [], _ :: _, _ => rfl
  | _ :: _, [], h => by cases h
  | a :: v, b :: w, h => by
    have h' : (if a = b then ahB v w else decide (a < b)) = true := h
    show (if b = a then ahB w v else decide (b < a)) = false
    by_cases c : a = b
    · rw [if_pos c] at h'
      rw [if_pos c.symm]
      exact ahB_asym v w h'
    · rw [if_neg c] at h'
      have := of_decide_eq_true h'
      rw [if_neg (fun z => c z.symm)]
      exact decide_eq_false (by omega)
theorem ways_ahI {la : Land} {i j : Nat} (hi : i < (waysL la).length) (hj : j < (waysL la).length) : ahB ((waysL la).getD j []) ((waysL la).getD i []) = decide (j < i) := by
  rcases Nat.lt_trichotomy j i with c | c | c
  · rw [ways_ah c hi, decide_eq_true c]
  · subst c
    rw [ahB_irr, decide_eq_false (Nat.lt_irrefl j)]
  · rw [ahB_asym _ _ (ways_ah c hj), decide_eq_false (by omega)]
theorem nF_true : ∀ n, nF (fun _ => true) n = n
  | 0 => rfl
  | n + 1 => by
    show nF (fun _ => true) n + 1 = n + 1
    rw [nF_true n]
section SP2
variable {x : Nat} {S : Sp} {s : St}
theorem BestS.skip {n : Nat} {o : Option Nat} (h : BestS S n o) (hn : ∀ j, j < (waysL S.2.1).length → wB S.2.1 j = n → cI S j = none) : BestS S (n + 1) o := by
  cases o with
  | none =>
    intro j hj hw
    by_cases c : wB S.2.1 j = n
    · exact hn j hj c
    · exact h j hj (by omega)
  | some i =>
    obtain ⟨a1, a2, c, a3, a4⟩ := h
    refine ⟨a1, by omega, c, a3, fun j hj hw c' hc' => ?_⟩
    by_cases cj : wB S.2.1 j = n
    · rw [hn j hj cj] at hc'; cases hc'
    · exact a4 j hj (by omega) c' hc'
theorem wB_inj (h3 : okLand S.2.1) {i j : Nat} (hi : i < (waysL S.2.1).length) (hj : j < (waysL S.2.1).length) (h : wB S.2.1 i = wB S.2.1 j) : i = j := by
  have h1 := ways_ix h3 hi
  rw [h, ways_ix h3 hj] at h1
  exact (Option.some.inj h1).symm
theorem BestS.put {n j c' : Nat} {o : Option Nat} (h3 : okLand S.2.1) (h : BestS S n o) (hj : j < (waysL S.2.1).length) (hw : wB S.2.1 j = n) (hc : cI S j = some c') (hb : ∀ i c, o = some i → cI S i = some c → c < c' ∨ (c = c' ∧ j < i)) : BestS S (n + 1) (some j) := by
  refine ⟨hj, by omega, c', hc, fun k hk hwk ck hck => ?_⟩
  by_cases e : wB S.2.1 k = n
  · have : k = j := wB_inj h3 hk hj (by omega)
    subst this
    rw [hc] at hck
    cases hck
    exact Or.inr ⟨rfl, Nat.le_refl _⟩
  · cases o with
    | none => rw [h k hk (by omega)] at hck; cases hck
    | some i =>
      obtain ⟨a1, a2, c, a3, a4⟩ := h
      have h5 := hb i c rfl a3
      have h6 := a4 k hk (by omega) ck hck
      omega
theorem BestS.keep {n j c' i c : Nat} (h3 : okLand S.2.1) (h : BestS S n (some i)) (hj : j < (waysL S.2.1).length) (hw : wB S.2.1 j = n) (hc : cI S j = some c') (hci : cI S i = some c) (hb : c' < c ∨ (c' = c ∧ i ≤ j)) : BestS S (n + 1) (some i) := by
  obtain ⟨a1, a2, c0, a3, a4⟩ := h
  rw [hci] at a3
  cases a3
  refine ⟨a1, by omega, c, hci, fun k hk hwk ck hck => ?_⟩
  by_cases e : wB S.2.1 k = n
  · have : k = j := wB_inj h3 hk hj (by omega)
    subst this
    rw [hc] at hck
    cases hck
    exact hb
  · exact a4 k hk (by omega) ck hck
theorem sp_val (hS : ScM x S [] (allL S.2.1.2.length) s) (h3 : okLand S.2.1) {b : Nat} (hb : b ∈ setsL S.2.1) : s.1 (x + 22) b = lsI (minC S (mapB S.2.1 S.2.2.1 ++ [b])) := by
  rw [hS.2.2 b hb]
  unfold minC
  rw [best_P]
  congr 2
  refine bestP_cg _ _ (fun M _ => ?_)
  unfold pw
  rw [pk_all]
  unfold okL
  rw [List.nil_append, List.all_append]
  simp
theorem cI_216 (hok : okSp S) {i c : Nat} (h : cI S i = some c) : c ≤ 216 := minC_le hok h
def itsI (S : Sp) (o : Option Nat) : Int32 := match o with
  | none => 0
  | some i => nI (wB S.2.1 i)
theorem sX10_spiteSet {Q : Int32 → St → Prop} (h : RM x S s) (hok : okSp S) (hQ : ∀ u o, RM x S u → Fr (fun k => x ≤ k) s u → ScM x S [] (allL S.2.1.2.length) u → BestS S 64 o → (∀ i, o = some i → ∀ k, k < 5 → u.1 (x + 24) k = plI ((waysL S.2.1).getD i []) k) → Q (itsI S o) u) : wX10_spiteSet x s Q := by
  obtain ⟨-, -, o3, o4, -⟩ := id hok
  have h33 := ways_33 o3
  have key : ∀ d n o u x2, n + d = 64 → 1 ≤ n → RM x S u → Fr (fun k => x ≤ k) s u → ScM x S [] (allL S.2.1.2.length) u → BestS S n o → (∀ i, o = some i → x2 = nI ((waysL S.2.1).getD i []).length ∧ ∀ k, k < 5 → u.1 (x + 24) k = plI ((waysL S.2.1).getD i []) k) → wX10_spiteSet_11 x Q (d + 1) (itsI S o) x2 (nI n) u := by
    intro d
    induction d with
    | zero =>
      intro n o u x2 hn _ hR hf hS hB hst
      have en : n = 64 := by omega
      subst en
      unfold wX10_spiteSet_11
      exact ⟨fun _ => hQ u o hR hf hS hB (fun i hi => (hst i hi).2), fun z => absurd (Int32.le_refl _) z⟩
    | succ d ih =>
      intro n o u x2 hn h1n hR hf hS hB hst
      have e13 := (hR.2.2.2.2.2.2.1.1 n h1n (by omega)).1
      have hel := ends_lt o3 n
      unfold wX10_spiteSet_11
      rw [nI_clamp (show n < 2 ^ 31 by omega), e13]
      refine ⟨fun z => absurd ((nI_leI (a := 64) (by omega) (by omega)).mp z) (by omega), fun _ => ⟨vp_in_nI (by omega) (by omega), fun c => ?_, fun c => ⟨vp_in_nI (by omega) (by omega), ?_⟩⟩⟩
      · have c' : endsN S.2.1 n = 0 := nI_inj (b := 0) (by omega) (by omega) c
        unfold wX10_spiteSet_164
        rw [show nI n + (1 : Int32) = nI (n + 1) from (nI_succ _).symm]
        refine ih (n + 1) o u x2 (by omega) (by omega) hR hf hS (hB.skip (fun j hj hw => ?_)) hst
        rw [← hw, ends_way o3 hj] at c'
        omega
      have c' : endsN S.2.1 n ≠ 0 := fun z => c (by rw [z]; rfl)
      have hset : n ∈ setsL S.2.1 := sets_mem.mpr ⟨by omega, c'⟩
      obtain ⟨j, j1, -, j3, -⟩ := ends_inv c'
      have esp : u.1 (x + 22) n = lsI (cI S j) := by
        rw [sp_val hS o3 hset, ← j3]
        rfl
      rw [esp]
      have hfar := lsI_far (o := cI S j) (fun m hm => cI_216 hok hm)
      refine ⟨fun z => ?_, fun z => ?_⟩
      · have z' : cI S j = none := by
          have := hfar.mp z
          cases hq : cI S j with
          | none => rfl
          | some m => rw [hq] at this; cases this
        unfold wX10_spiteSet_164
        rw [show nI n + (1 : Int32) = nI (n + 1) from (nI_succ _).symm]
        refine ih (n + 1) o u x2 (by omega) (by omega) hR hf hS (hB.skip (fun k hk hw => ?_)) hst
        have : k = j := wB_inj o3 hk j1 (by omega)
        rw [this]; exact z'
      cases hcj : cI S j with
      | none => rw [hcj] at z; exact absurd rfl z
      | some cj =>
        have hcj2 := cI_216 hok hcj
        have hrd := fun K => sX10_reads (Q := K) hR hok j1
        rw [j3] at hrd
        refine hrd _ (fun v hfv hrow => ?_)
        have hRv : RM x S v := hR.sc (hfv.wk (by intro k; omega))
        have hfsv : Fr (fun k => x ≤ k) s v := hf.tr (hfv.wk (by intro k; omega))
        have hSv : ScM x S [] (allL S.2.1.2.length) v := hS.fr hfv ⟨by omega, by omega, by omega⟩
        have hstv : ∀ i, o = some i → x2 = nI ((waysL S.2.1).getD i []).length ∧ ∀ k, k < 5 → v.1 (x + 24) k = plI ((waysL S.2.1).getD i []) k := fun i hi => by
          rw [hfv.1 (x + 24) (by omega)]
          exact hst i hi
        obtain ⟨r1, r2, r3⟩ := ways_row (way_mem j1)
        have hwl := r1.2.1
        have keep : BestS S (n + 1) o → wX10_spiteSet_92 (wX10_spiteSet_11 x Q (d + 1)) Q x (itsI S o) x2 (nI n) (nI ((waysL S.2.1).getD j []).length) v := by
          intro hB2
          unfold wX10_spiteSet_92 wX10_spiteSet_93
          refine ⟨1, ?_⟩
          unfold wX10_spiteSet_98 wX10_spiteSet_152 wX10_spiteSet_163 wX10_spiteSet_164
          refine ⟨fun y => absurd y (by decide), fun _ => ⟨fun _ => ⟨fun _ => ⟨fun _ => ?_, fun y => absurd rfl y⟩, fun y => absurd rfl y⟩, fun y => absurd rfl y⟩⟩
          rw [show nI n + (1 : Int32) = nI (n + 1) from (nI_succ _).symm]
          exact ih (n + 1) o v x2 (by omega) (by omega) hRv hfsv hSv hB2 hstv
        have more : BestS S (n + 1) (some j) → wX10_spiteSet_88 (wX10_spiteSet_11 x Q (d + 1)) Q x (itsI S o) x2 (nI n) (nI ((waysL S.2.1).getD j []).length) v := by
          intro hB2
          unfold wX10_spiteSet_88 wX10_spiteSet_93
          have lp : ∀ (K : St → Prop), (∀ w, Fr (fun k => k = x + 24) v w → (∀ k, k < 5 → w.1 (x + 24) k = plI ((waysL S.2.1).getD j []) k) → K w) → ∀ e k w, k + e = 5 → Fr (fun k => k = x + 24) v w → (∀ q, q < k → w.1 (x + 24) q = plI ((waysL S.2.1).getD j []) q) → wX10_spiteSet_98 x (itsI S o) x2 (nI n) (nI ((waysL S.2.1).getD j []).length) 1 K Q (e + 1) (nI k) w := by
            intro K hK e
            induction e with
            | zero =>
              intro k w hk hfw hq
              have ek : k = 5 := by omega
              subst ek
              unfold wX10_spiteSet_98
              exact ⟨fun _ => hK w hfw hq, fun y => absurd (Int32.le_refl _) y⟩
            | succ e ihe =>
              intro k w hk hfw hq
              have e23 : w.1 (x + 23) = v.1 (x + 23) := hfw.1 _ (by omega)
              unfold wX10_spiteSet_98 wX10_spiteSet_134
              rw [nI_clamp (show k < 2 ^ 31 by omega), e23, show nI k + (1 : Int32) = nI (k + 1) from (nI_succ _).symm]
              have go : ∀ (val : Int32), val = plI ((waysL S.2.1).getD j []) k → ∀ t, t = stI w (x + 24) k val → wX10_spiteSet_98 x (itsI S o) x2 (nI n) (nI ((waysL S.2.1).getD j []).length) 1 K Q (e + 1) (nI (k + 1)) t := by
                intro val hval t ht
                refine ihe (k + 1) t (by omega) (by rw [ht]; exact hfw.I rfl) (fun q hq2 => ?_)
                rw [ht]
                by_cases cq : q = k
                · subst cq; rw [rI_eq]; exact hval
                · rw [rI_nj cq]; exact hq q (by omega)
              refine ⟨fun y => absurd ((nI_leI (a := 5) (by omega) (by omega)).mp y) (by omega), fun _ => ⟨fun y => absurd y (by decide), fun _ => ⟨fun y => ⟨vp_in_nI (by omega) (by omega), go _ ?_⟩, fun y => ⟨vp_in_nI (by omega) (by omega), vp_in_nI (by omega) (by omega), go _ ?_⟩⟩⟩⟩
              · have y' := (nI_leI (by omega) (by omega)).mp y
                unfold plI
                rw [List.getElem?_eq_none y']
              · have y' : k < ((waysL S.2.1).getD j []).length := by
                  rcases Nat.lt_or_ge k ((waysL S.2.1).getD j []).length with q | q
                  · exact q
                  · exact absurd ((nI_leI (by omega) (by omega)).mpr q) y
                rw [plI_lt y']
                have := hrow k _ (getD_get y')
                rw [Nat.zero_add] at this
                exact this
          refine ⟨_, lp _ ?_ 5 0 v rfl Fr.rf (fun q hq => by omega)⟩
          intro w hfw hq
          unfold wX10_spiteSet_152 wX10_spiteSet_163 wX10_spiteSet_164
          refine ⟨fun y => absurd y (by decide), fun _ => ⟨fun y => absurd y (by decide), fun _ => ?_⟩⟩
          rw [show nI n + (1 : Int32) = nI (n + 1) from (nI_succ _).symm]
          have := ih (n + 1) (some j) w (nI ((waysL S.2.1).getD j []).length) (by omega) (by omega) (hRv.sc (hfw.wk (by intro k; omega))) (hfsv.tr (hfw.wk (by intro k; omega))) (hSv.fr hfw ⟨by omega, by omega, by omega⟩) hB2 (fun i hi => by cases hi; exact ⟨rfl, hq⟩)
          rw [show itsI S (some j) = nI n from by unfold itsI; rw [← j3]] at this
          exact this
        cases ho : o with
        | none =>
          subst ho
          exact ⟨fun _ => more (hB.put o3 j1 j3 hcj (fun i c hi => by cases hi)), fun y => absurd rfl y⟩
        | some i =>
          subst ho
          obtain ⟨a1, a2, ci, a3, a4⟩ := id hB
          have hci2 := cI_216 hok a3
          have hip := wB_pos a1
          have hi64 := wB_lt o3 i
          have hiset : wB S.2.1 i ∈ setsL S.2.1 := sets_mem.mpr ⟨hi64, by rw [ends_way o3 a1]; omega⟩
          have espi : v.1 (x + 22) (wB S.2.1 i) = nI ci := by
            rw [sp_val hSv o3 hiset]
            show lsI (cI S i) = _
            rw [a3]; rfl
          have espj : v.1 (x + 22) n = nI cj := by
            rw [sp_val hSv o3 hset, ← j3]
            show lsI (cI S j) = _
            rw [hcj]; rfl
          have eits : itsI S (some i) = nI (wB S.2.1 i) := rfl
          rw [eits] at keep more ⊢
          rw [nI_clamp (show wB S.2.1 i < 2 ^ 31 by omega), espi, espj]
          refine ⟨fun y => absurd (nI_inj (b := 0) (by omega) (by omega) y) (by omega), fun _ => ⟨vp_in_nI (by omega) (by omega), vp_in_nI (by omega) (by omega), fun y => ?_, fun y => ⟨vp_in_nI (by omega) (by omega), vp_in_nI (by omega) (by omega), fun y2 => ?_, fun y2 => ?_⟩⟩⟩
          · have y' := (nI_ltI (by omega) (by omega)).mp y
            refine more (hB.put o3 j1 j3 hcj (fun i' c hi' hc => ?_))
            cases hi'
            rw [a3] at hc
            cases hc
            exact Or.inl y'
          · have y' : cj ≤ ci := by
              rcases Nat.lt_or_ge ci cj with q | q
              · exact absurd ((nI_ltI (by omega) (by omega)).mpr q) y
              · exact q
            have y2' : cj ≠ ci := fun q => y2 (by rw [q])
            exact keep (hB.keep o3 j1 j3 hcj a3 (Or.inl (by omega)))
          · have y2' : cj = ci := nI_inj (by omega) (by omega) y2
            obtain ⟨b1, b2⟩ := hstv i rfl
            obtain ⟨s1, s2, s3⟩ := ways_row (way_mem a1)
            have hib : rowAt (v.1 (x + 24)) 0 ((waysL S.2.1).getD i []) := fun k p hp => by
              have hk := (List.getElem?_eq_some_iff.mp hp).1
              have hk5 := s1.2.1
              rw [Nat.zero_add, b2 k (by omega)]
              unfold plI
              rw [hp]
            rw [b1]
            have hp5 := o3.2.1
            refine sX10_isAhead hrow hib hwl s1.2.1 (fun p hp => by have := r1.1 p hp; omega) (fun p hp => by have := s1.1 p hp; omega) ?_
            rw [ways_ahI a1 j1, ← b1]
            have hij : i ≠ j := fun q => by
              rw [q, j3] at a2
              omega
            by_cases cji : j < i
            · rw [decide_eq_true cji]
              refine ⟨fun q => absurd q (show ¬ (1 : Int32) = 0 by decide), fun _ => more (hB.put o3 j1 j3 hcj (fun i' c hi' hc => ?_))⟩
              cases hi'
              rw [a3] at hc
              cases hc
              exact Or.inr ⟨by omega, cji⟩
            · rw [decide_eq_false cji]
              exact ⟨fun _ => keep (hB.keep o3 j1 j3 hcj a3 (Or.inr ⟨y2', by omega⟩)), fun q => absurd rfl q⟩
  unfold wX10_spiteSet
  refine sX10_scans (b := 0) h hok (Or.inl ⟨rfl, rfl⟩) (fun u hRu hfu hS => ?_)
  exact ⟨_, key 63 1 none u 0 (by omega) (by omega) hRu hfu hS (fun j hj hw => by have := wB_pos hj; omega) (fun i hi => by cases hi)⟩
theorem kX10_spiteful {v : Int32} {Q : Int32 → St → Prop} (h : RM x S s) (hok : okSp S) (hQ : ∀ t, RM x S t → Fr (fun k => x ≤ k) s t → Q (cSpiteful S v) t) : wX10_spiteful x v s Q := by
  obtain ⟨-, -, o3, o4, -⟩ := id hok
  have h5 : S.2.2.1.2.2.1.length ≤ 5 := o4.2.2.2.2.1.2.1
  unfold cSpiteful at hQ
  unfold wX10_spiteful
  refine thM h (fun s' h' hf => ?_)
  refine sX10_in (n := 5) (by rfl) (by omega) (fun hx => ⟨fun z => absurd rfl z, fun _ => ?_⟩) (fun k hx => ⟨fun _ => ?_, fun z => absurd z (by decide)⟩)
  · rw [hx] at hQ; exact hQ s' h' hf
  rw [hx] at hQ
  obtain ⟨hk, rfl⟩ := num_lt (by omega) hx
  dsimp only at hQ
  have e36 : s'.1 (x + 7) ((36 : Int32).toNatClampNeg) = nI S.2.2.1.2.2.1.length := h'.2.2.1.2.2.2.2.1
  refine ⟨vp_in_nI (n := 36) (by omega) (by omega), ?_⟩
  rw [e36]
  refine ⟨fun c => ?_, fun c => ?_⟩
  · have c0 : S.2.2.1.2.2.1.length = 0 := by
      have := (nI_leI (b := 0) (by omega) (by omega)).mp c
      omega
    rw [if_pos c0] at hQ
    refine sX10_spiteSet h' hok (fun u o hRu hfu hS hB hst => ?_)
    have q := hQ u hRu (hf.tr hfu)
    obtain ⟨e1, -⟩ := spite_uq o3 hB
    cases ho : o with
    | none =>
      rw [ho] at e1
      cases hz : (spiteS S.2.1 S.2.2.1).2.1 with
      | some z => rw [hz] at e1; cases e1
      | none =>
        rw [hz] at q
        exact ⟨fun y => absurd rfl y, fun _ => q⟩
    | some i =>
      rw [ho] at e1
      obtain ⟨a1, -⟩ : i < (waysL S.2.1).length ∧ True := by
        rw [ho] at hB
        exact ⟨hB.1, trivial⟩
      cases hz : (spiteS S.2.1 S.2.2.1).2.1 with
      | none => rw [hz] at e1; cases e1
      | some z =>
        rw [hz] at e1 q
        have ez : i = z.2 := Option.some.inj e1
        dsimp only at q
        have hp := wB_pos a1
        have h64 := wB_lt o3 i
        refine ⟨fun _ => ⟨vp_in_nI (by omega) (by omega), ?_⟩, fun y => ?_⟩
        · rw [nI_clamp (by omega), hst i ho k hk, ez]
          exact q
        · have := nI_inj (a := wB S.2.1 i) (b := 0) (by omega) (by omega) y
          omega
  · have c0 : ¬ S.2.2.1.2.2.1.length = 0 := fun z => c (by rw [z]; exact Int32.le_refl _)
    rw [if_neg c0] at hQ
    exact hQ s' h' hf
theorem kX10_spite {v : Int32} {Q : Int32 → St → Prop} (h : RM x S s) (hok : okSp S) (hQ : ∀ t, RM x S t → Fr (fun k => x ≤ k) s t → Q (cSpite S v) t) : wX10_spite x v s Q := by
  obtain ⟨-, -, o3, o4, -⟩ := id hok
  have h5 : S.2.2.1.2.2.1.length ≤ 5 := o4.2.2.2.2.1.2.1
  unfold cSpite at hQ
  unfold wX10_spite
  refine thM h (fun s' h' hf => ?_)
  refine sX10_in (n := 3) (by rfl) (by omega) (fun hx => ⟨fun z => absurd rfl z, fun _ => ?_⟩) (fun k hx => ⟨fun _ => ?_, fun z => absurd z (by decide)⟩)
  · rw [hx] at hQ; exact hQ s' h' hf
  rw [hx] at hQ
  obtain ⟨hk, rfl⟩ := num_lt (by omega) hx
  dsimp only at hQ
  have e36 : s'.1 (x + 7) ((36 : Int32).toNatClampNeg) = nI S.2.2.1.2.2.1.length := h'.2.2.1.2.2.2.2.1
  refine ⟨vp_in_nI (n := 36) (by omega) (by omega), ?_⟩
  rw [e36]
  refine ⟨fun c => ?_, fun c => ?_⟩
  rotate_left
  · have c0 : ¬ S.2.2.1.2.2.1.length = 0 := fun z => c (by rw [z]; exact Int32.le_refl _)
    rw [if_neg c0] at hQ
    exact hQ s' h' hf
  have c0 : S.2.2.1.2.2.1.length = 0 := by
    have := (nI_leI (b := 0) (by omega) (by omega)).mp c
    omega
  rw [if_pos c0] at hQ
  refine sX10_spiteSet h' hok (fun u o hRu hfu hS hB hst => ?_)
  have q := hQ u hRu (hf.tr hfu)
  obtain ⟨e1, e2⟩ := spite_uq o3 hB
  have hne := (spA_best S _ (Nat.le_refl _)).2.2
  have hsc : nF (fun b => endsN S.2.1 b != 0 && !(minC S (mapB S.2.1 S.2.2.1 ++ [b])).isSome) 64 = nF (fun i => !(cI S i).isSome) (waysL S.2.1).length := sets_cnt o3 (fun b => !(minC S (mapB S.2.1 S.2.2.1 ++ [b])).isSome)
  rw [spA_all, ← hsc] at hne
  have hall := sets_cnt o3 (fun _ => true)
  rw [nF_true] at hall
  have key : ∀ (K : Int32 → Int32 → St → Prop) (x2 : Int32), K (nI (spiteS S.2.1 S.2.2.1).2.2) (nI (waysL S.2.1).length) u → ∀ d n, n + d = 64 → 1 ≤ n → wX10_spite_42 x (nI k) x2 K Q (d + 1) (nI (nF (fun b => endsN S.2.1 b != 0 && !(minC S (mapB S.2.1 S.2.2.1 ++ [b])).isSome) n)) (nI (nF (fun b => endsN S.2.1 b != 0 && true) n)) (nI n) u := by
    intro K x2 hK d
    induction d with
    | zero =>
      intro n hn _
      have en : n = 64 := by omega
      subst en
      unfold wX10_spite_42
      rw [← hne, hall]
      exact ⟨fun _ => hK, fun z => absurd (Int32.le_refl _) z⟩
    | succ d ih =>
      intro n hn h1n
      have ih2 := ih (n + 1) (by omega) (by omega)
      rw [show nF (fun b => endsN S.2.1 b != 0 && !(minC S (mapB S.2.1 S.2.2.1 ++ [b])).isSome) (n + 1) = nF (fun b => endsN S.2.1 b != 0 && !(minC S (mapB S.2.1 S.2.2.1 ++ [b])).isSome) n + (if (endsN S.2.1 n != 0 && !(minC S (mapB S.2.1 S.2.2.1 ++ [n])).isSome) = true then 1 else 0) from rfl, show nF (fun b => endsN S.2.1 b != 0 && true) (n + 1) = nF (fun b => endsN S.2.1 b != 0 && true) n + (if (endsN S.2.1 n != 0 && true) = true then 1 else 0) from rfl] at ih2
      have e13 := (hRu.2.2.2.2.2.2.1.1 n h1n (by omega)).1
      have hel := ends_lt o3 n
      have r0 : ∀ z : Nat, nI z + (0 : Int32) = nI (z + 0) := fun z => nI_add z 0
      have r1 : ∀ z : Nat, nI z + (1 : Int32) = nI (z + 1) := fun z => nI_add z 1
      unfold wX10_spite_42 wX10_spite_66 wX10_spite_96 wX10_spite_97
      rw [nI_clamp (by omega), e13, r1 n, r0, r1, r0, r1]
      refine ⟨fun z => absurd ((nI_leI (a := 64) (by omega) (by omega)).mp z) (by omega), fun _ => ⟨vp_in_nI (by omega) (by omega), fun c => ⟨vp_in_nI (by omega) (by omega), fun _ => ?_, fun c2 => absurd c c2⟩, fun c => ⟨vp_in_nI (by omega) (by omega), fun c2 => absurd c2 c, fun _ => ⟨vp_in_nI (by omega) (by omega), ?_⟩⟩⟩⟩
      · have c' : endsN S.2.1 n = 0 := nI_inj (b := 0) (by omega) (by omega) c
        rw [c'] at ih2
        exact ih2
      · have c' : endsN S.2.1 n ≠ 0 := fun z => c (by rw [z]; rfl)
        have hset : n ∈ setsL S.2.1 := sets_mem.mpr ⟨by omega, c'⟩
        rw [sp_val hS o3 hset]
        have hfar := lsI_far (o := minC S (mapB S.2.1 S.2.2.1 ++ [n])) (fun m hm => minC_le hok hm)
        have hc1 : (endsN S.2.1 n != 0) = true := by simpa using c'
        rw [hc1, Bool.true_and, Bool.true_and] at ih2
        refine ⟨fun z => ?_, fun z => ?_⟩
        · have : (minC S (mapB S.2.1 S.2.2.1 ++ [n])).isSome = true := by
            cases hz : (minC S (mapB S.2.1 S.2.2.1 ++ [n])).isSome with
            | true => rfl
            | false => exact absurd (hfar.mpr hz) z
          rw [this] at ih2
          exact ih2
        · rw [hfar.mp z] at ih2
          exact ih2
  have k0 := fun K x2 hK => key K x2 hK 63 1 (by omega) (by omega)
  rw [show nF (fun b => endsN S.2.1 b != 0 && !(minC S (mapB S.2.1 S.2.2.1 ++ [b])).isSome) 1 = 0 from by
    show 0 + (if (endsN S.2.1 0 != 0 && !(minC S (mapB S.2.1 S.2.2.1 ++ [0])).isSome) = true then 1 else 0) = 0
    rw [ends_0]; rfl, show nF (fun b => endsN S.2.1 b != 0 && true) 1 = 0 from by
    show 0 + (if (endsN S.2.1 0 != 0 && true) = true then 1 else 0) = 0
    rw [ends_0]; rfl] at k0
  refine ⟨_, k0 _ _ ?_⟩
  refine ⟨fun n1 => ⟨fun n2 => ?_, fun n2 => ?_⟩, fun n1 => ?_⟩
  · have k1 : k ≠ 1 := fun z => n1 (by rw [z]; rfl)
    have k2 : k ≠ 2 := fun z => n2 (by rw [z]; rfl)
    have kk : k = 0 := by omega
    rw [if_neg k2, if_pos kk] at q
    cases ho : o with
    | none =>
      rw [ho] at e1
      cases hz : (spiteS S.2.1 S.2.2.1).2.1 with
      | some z => rw [hz] at e1; cases e1
      | none =>
        rw [hz] at q
        exact ⟨fun y => absurd rfl y, fun _ => q⟩
    | some i =>
      rw [ho] at hB
      obtain ⟨a1, -, c, a3, -⟩ := id hB
      have hp := wB_pos a1
      have h64 := wB_lt o3 i
      have e3 := e2 i ho
      rw [e3, a3] at q
      have hiset : wB S.2.1 i ∈ setsL S.2.1 := sets_mem.mpr ⟨h64, by rw [ends_way o3 a1]; omega⟩
      have espi : u.1 (x + 22) (wB S.2.1 i) = nI c := by
        rw [sp_val hS o3 hiset]
        show lsI (cI S i) = _
        rw [a3]; rfl
      refine ⟨fun _ => ⟨vp_in_nI (by omega) (by omega), ?_⟩, fun y => ?_⟩
      · show Q (u.1 (x + 22) (nI (wB S.2.1 i)).toNatClampNeg) u
        rw [nI_clamp (by omega), espi]
        exact q
      · have := nI_inj (a := wB S.2.1 i) (b := 0) (by omega) (by omega) y
        omega
  · have k2 : k = 2 := nI_inj (b := 2) (by omega) (by omega) n2
    rw [if_pos k2] at q
    exact q
  · have k1 : k = 1 := nI_inj (b := 1) (by omega) (by omega) n1
    rw [if_neg (by omega), if_neg (by omega)] at q
    exact q
end SP2
